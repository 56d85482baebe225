/-! THE PURE JUDGEMENT x_G: at this pc, with these locals, this stack and this picture, the frame ends well; a row for each instruction. -/
abbrev x_S : Type := Option (Nat × (Nat → Int32))
def x_SC (SC : x_S) (b base : Nat) (s : State) (args : Array Value) : Prop := match SC with
  | none => True
  | some q => va_X b q.1 q.2 s s.heap ∧ b < s.heap.size ∧ base = s.heap.size ∧ args = #[Value.ref b]
abbrev x_QF : Type := List Frame → Array Value → State → va_G → ClassId → Nat → Nat → State → Prop
def x_room (d mc ms : Nat) : Room := { frames := d, cells := mc, slots := ms, locals := 60 * d }
def x_Ctx (SC : x_S) (y : MethodName) (cc : ByteArray) (nL : Nat) (rt : Option FieldType) (p : Program) (s : State) (m : MethodId) (args : Array Value) (meth : Method) (c : Code) (D : va_G) (cI : ClassId) (base b : Nat) : Prop :=
  p.tables.exec = Jvm.exec ∧ c.code = cc ∧ c.maxLocals = nL ∧ s.vm.findClass y.cls = some m.cls ∧ (∀ w ∈ x_GT, w.before args s = true) ∧ va_K D x_cl [(cI, .int)] s ∧ (∀ w ∈ x_NW, va_Nw w s) ∧ base ≤ s.heap.size ∧ x_SC SC b base s args ∧ meth.sig.returnType = rt ∧ meth.locks = false ∧ (y.name = "<init>" → meth.name = "<init>")
def x_Inv (nL : Nat) (D : va_G) (cI : ClassId) (base b : Nat) (s : State) (H : Heap) (locs : List Loc) (ls : Array Slot) (L : x_L) (w : x_W) (nc : Nat) : Prop :=
  s.heap.size + nc ≤ base + w.length ∧ va_P D x_cl (x_cw base b cI 0 w) H ∧ va_S (fun q : Nat => base ≤ q) s.heap H locs ∧ x_R base b ls nL L
def x_G (SC : x_S) (y : MethodName) (cc : ByteArray) (nL : Nat) (rt : Option FieldType) (R : Room) (QF : x_QF) (pc : Nat) (L : x_L) (st : List Value) (w : x_W) (nc ns : Nat) : Prop :=
  ∀ (p : Program) (l : Launch) (e : Env) (s : State) (m : MethodId) (args : Array Value) (below : List Frame) (meth : Method) (c : Code) (D : va_G) (cI : ClassId) (base b : Nat) (H : Heap) (locs : List Loc) (ls : Array Slot),
    x_Ctx SC y cc nL rt p s m args meth c D cI base b → x_Inv nL D cI base b s H locs ls L w nc →
    W p l e R s m args below meth c H locs nc ns (QF below args s D cI base b) (F0 m pc ls (st.map (x_tr base b)))
section XG
variable {SC : x_S} {y : MethodName} {cc : ByteArray} {nL : Nat} {rt : Option FieldType} {R : Room} {QF : x_QF} {pc : Nat} {L : x_L} {st : List Value} {w : x_W} {nc ns : Nat}
theorem g_iadd (n : Nat) {z x : Int32} (hd : decode cc pc = .ok (.iadd, 1)) (hn : pc + 1 = n) (k : x_G SC y cc nL rt R QF n L (.int (x + z) :: st) w nc ns) : x_G SC y cc nL rt R QF pc L (.int z :: .int x :: st) w nc ns := by
  intro p l e s m args below meth c D cI base b H locs ls C I
  subst hn
  exact lv_iadd C.1 C.2.1 hd (k p l e s m args below meth c D cI base b H locs ls C I)
theorem g_isub (n : Nat) {z x : Int32} (hd : decode cc pc = .ok (.isub, 1)) (hn : pc + 1 = n) (k : x_G SC y cc nL rt R QF n L (.int (x - z) :: st) w nc ns) : x_G SC y cc nL rt R QF pc L (.int z :: .int x :: st) w nc ns := by
  intro p l e s m args below meth c D cI base b H locs ls C I
  subst hn
  exact lv_isub C.1 C.2.1 hd (k p l e s m args below meth c D cI base b H locs ls C I)
theorem g_imul (n : Nat) {z x : Int32} (hd : decode cc pc = .ok (.imul, 1)) (hn : pc + 1 = n) (k : x_G SC y cc nL rt R QF n L (.int (x * z) :: st) w nc ns) : x_G SC y cc nL rt R QF pc L (.int z :: .int x :: st) w nc ns := by
  intro p l e s m args below meth c D cI base b H locs ls C I
  subst hn
  exact lv_imul C.1 C.2.1 hd (k p l e s m args below meth c D cI base b H locs ls C I)
theorem g_iand (n : Nat) {z x : Int32} (hd : decode cc pc = .ok (.iand, 1)) (hn : pc + 1 = n) (k : x_G SC y cc nL rt R QF n L (.int (x &&& z) :: st) w nc ns) : x_G SC y cc nL rt R QF pc L (.int z :: .int x :: st) w nc ns := by
  intro p l e s m args below meth c D cI base b H locs ls C I
  subst hn
  exact lv_iand C.1 C.2.1 hd (k p l e s m args below meth c D cI base b H locs ls C I)
theorem g_ior (n : Nat) {z x : Int32} (hd : decode cc pc = .ok (.ior, 1)) (hn : pc + 1 = n) (k : x_G SC y cc nL rt R QF n L (.int (x ||| z) :: st) w nc ns) : x_G SC y cc nL rt R QF pc L (.int z :: .int x :: st) w nc ns := by
  intro p l e s m args below meth c D cI base b H locs ls C I
  subst hn
  exact lv_ior C.1 C.2.1 hd (k p l e s m args below meth c D cI base b H locs ls C I)
theorem g_ixor (n : Nat) {z x : Int32} (hd : decode cc pc = .ok (.ixor, 1)) (hn : pc + 1 = n) (k : x_G SC y cc nL rt R QF n L (.int (x ^^^ z) :: st) w nc ns) : x_G SC y cc nL rt R QF pc L (.int z :: .int x :: st) w nc ns := by
  intro p l e s m args below meth c D cI base b H locs ls C I
  subst hn
  exact lv_ixor C.1 C.2.1 hd (k p l e s m args below meth c D cI base b H locs ls C I)
theorem g_ishl (n : Nat) {z x : Int32} (hd : decode cc pc = .ok (.ishl, 1)) (hn : pc + 1 = n) (k : x_G SC y cc nL rt R QF n L (.int (x <<< (z &&& 31)) :: st) w nc ns) : x_G SC y cc nL rt R QF pc L (.int z :: .int x :: st) w nc ns := by
  intro p l e s m args below meth c D cI base b H locs ls C I
  subst hn
  exact lv_ishl C.1 C.2.1 hd (k p l e s m args below meth c D cI base b H locs ls C I)
theorem g_ishr (n : Nat) {z x : Int32} (hd : decode cc pc = .ok (.ishr, 1)) (hn : pc + 1 = n) (k : x_G SC y cc nL rt R QF n L (.int (x >>> (z &&& 31)) :: st) w nc ns) : x_G SC y cc nL rt R QF pc L (.int z :: .int x :: st) w nc ns := by
  intro p l e s m args below meth c D cI base b H locs ls C I
  subst hn
  exact lv_ishr C.1 C.2.1 hd (k p l e s m args below meth c D cI base b H locs ls C I)
theorem g_iushr (n : Nat) {z x : Int32} (hd : decode cc pc = .ok (.iushr, 1)) (hn : pc + 1 = n) (k : x_G SC y cc nL rt R QF n L (.int ((x.toUInt32 >>> (z.toUInt32 &&& Int32.toUInt32 31)).toInt32) :: st) w nc ns) : x_G SC y cc nL rt R QF pc L (.int z :: .int x :: st) w nc ns := by
  intro p l e s m args below meth c D cI base b H locs ls C I
  subst hn
  exact lv_iushr C.1 C.2.1 hd rfl (k p l e s m args below meth c D cI base b H locs ls C I)
theorem g_idiv (n : Nat) {z x : Int32} (hd : decode cc pc = .ok (.idiv, 1)) (hn : pc + 1 = n) (hz : ¬ z = 0) (k : x_G SC y cc nL rt R QF n L (.int (x / z) :: st) w nc ns) : x_G SC y cc nL rt R QF pc L (.int z :: .int x :: st) w nc ns := by
  intro p l e s m args below meth c D cI base b H locs ls C I
  subst hn
  exact lv_idiv C.1 C.2.1 hd hz (k p l e s m args below meth c D cI base b H locs ls C I)
theorem g_irem (n : Nat) {z x : Int32} (hd : decode cc pc = .ok (.irem, 1)) (hn : pc + 1 = n) (hz : ¬ z = 0) (k : x_G SC y cc nL rt R QF n L (.int (x - x / z * z) :: st) w nc ns) : x_G SC y cc nL rt R QF pc L (.int z :: .int x :: st) w nc ns := by
  intro p l e s m args below meth c D cI base b H locs ls C I
  subst hn
  exact lv_irem C.1 C.2.1 hd hz (k p l e s m args below meth c D cI base b H locs ls C I)
theorem g_ineg (n : Nat) {x : Int32} (hd : decode cc pc = .ok (.ineg, 1)) (hn : pc + 1 = n) (k : x_G SC y cc nL rt R QF n L (.int (-x) :: st) w nc ns) : x_G SC y cc nL rt R QF pc L (.int x :: st) w nc ns := by
  intro p l e s m args below meth c D cI base b H locs ls C I
  subst hn
  exact lv_ineg C.1 C.2.1 hd (k p l e s m args below meth c D cI base b H locs ls C I)
theorem g_ladd (n : Nat) {z x : Int64} (hd : decode cc pc = .ok (.ladd, 1)) (hn : pc + 1 = n) (k : x_G SC y cc nL rt R QF n L (.long (x + z) :: st) w nc ns) : x_G SC y cc nL rt R QF pc L (.long z :: .long x :: st) w nc ns := by
  intro p l e s m args below meth c D cI base b H locs ls C I
  subst hn
  exact lv_ladd C.1 C.2.1 hd (k p l e s m args below meth c D cI base b H locs ls C I)
theorem g_lsub (n : Nat) {z x : Int64} (hd : decode cc pc = .ok (.lsub, 1)) (hn : pc + 1 = n) (k : x_G SC y cc nL rt R QF n L (.long (x - z) :: st) w nc ns) : x_G SC y cc nL rt R QF pc L (.long z :: .long x :: st) w nc ns := by
  intro p l e s m args below meth c D cI base b H locs ls C I
  subst hn
  exact lv_lsub C.1 C.2.1 hd (k p l e s m args below meth c D cI base b H locs ls C I)
theorem g_lmul (n : Nat) {z x : Int64} (hd : decode cc pc = .ok (.lmul, 1)) (hn : pc + 1 = n) (k : x_G SC y cc nL rt R QF n L (.long (x * z) :: st) w nc ns) : x_G SC y cc nL rt R QF pc L (.long z :: .long x :: st) w nc ns := by
  intro p l e s m args below meth c D cI base b H locs ls C I
  subst hn
  exact lv_lmul C.1 C.2.1 hd (k p l e s m args below meth c D cI base b H locs ls C I)
theorem g_ldiv (n : Nat) {z x : Int64} (hd : decode cc pc = .ok (.ldiv, 1)) (hn : pc + 1 = n) (hz : ¬ z = 0) (k : x_G SC y cc nL rt R QF n L (.long (x / z) :: st) w nc ns) : x_G SC y cc nL rt R QF pc L (.long z :: .long x :: st) w nc ns := by
  intro p l e s m args below meth c D cI base b H locs ls C I
  subst hn
  exact lv_ldiv C.1 C.2.1 hd hz (k p l e s m args below meth c D cI base b H locs ls C I)
theorem g_lrem (n : Nat) {z x : Int64} (hd : decode cc pc = .ok (.lrem, 1)) (hn : pc + 1 = n) (hz : ¬ z = 0) (k : x_G SC y cc nL rt R QF n L (.long (x - x / z * z) :: st) w nc ns) : x_G SC y cc nL rt R QF pc L (.long z :: .long x :: st) w nc ns := by
  intro p l e s m args below meth c D cI base b H locs ls C I
  subst hn
  exact lv_lrem C.1 C.2.1 hd hz (k p l e s m args below meth c D cI base b H locs ls C I)
theorem g_lcmp (n : Nat) {z x : Int64} (hd : decode cc pc = .ok (.lcmp, 1)) (hn : pc + 1 = n) (k : x_G SC y cc nL rt R QF n L (.int (lg_cmp x z) :: st) w nc ns) : x_G SC y cc nL rt R QF pc L (.long z :: .long x :: st) w nc ns := by
  intro p l e s m args below meth c D cI base b H locs ls C I
  subst hn
  exact W.lcmp C.1 C.2.1 hd (k p l e s m args below meth c D cI base b H locs ls C I)
theorem g_i2l (n : Nat) {x : Int32} (hd : decode cc pc = .ok (.i2l, 1)) (hn : pc + 1 = n) (k : x_G SC y cc nL rt R QF n L (.long x.toInt64 :: st) w nc ns) : x_G SC y cc nL rt R QF pc L (.int x :: st) w nc ns := by
  intro p l e s m args below meth c D cI base b H locs ls C I
  subst hn
  exact lv_i2l C.1 C.2.1 hd rfl (k p l e s m args below meth c D cI base b H locs ls C I)
theorem g_l2i (n : Nat) {x : Int64} (hd : decode cc pc = .ok (.l2i, 1)) (hn : pc + 1 = n) (k : x_G SC y cc nL rt R QF n L (.int x.toInt32 :: st) w nc ns) : x_G SC y cc nL rt R QF pc L (.long x :: st) w nc ns := by
  intro p l e s m args below meth c D cI base b H locs ls C I
  subst hn
  exact lv_l2i C.1 C.2.1 hd rfl (k p l e s m args below meth c D cI base b H locs ls C I)
theorem g_iconst (n : Nat) (v : Int32) {j : Int} (hd : decode cc pc = .ok (.iconst j, 1)) (hn : pc + 1 = n) (hv : Int32.ofInt j = v) (k : x_G SC y cc nL rt R QF n L (.int v :: st) w nc ns) : x_G SC y cc nL rt R QF pc L st w nc ns := by
  intro p l e s m args below meth c D cI base b H locs ls C I
  subst hn
  exact lv_iconst C.1 C.2.1 hd hv (k p l e s m args below meth c D cI base b H locs ls C I)
theorem g_bipush (n : Nat) (v : Int32) {j : Int} (hd : decode cc pc = .ok (.bipush j, 2)) (hn : pc + 2 = n) (hv : (Int8.ofInt j).toInt32 = v) (k : x_G SC y cc nL rt R QF n L (.int v :: st) w nc ns) : x_G SC y cc nL rt R QF pc L st w nc ns := by
  intro p l e s m args below meth c D cI base b H locs ls C I
  subst hn
  exact lv_bipush C.1 C.2.1 hd hv (k p l e s m args below meth c D cI base b H locs ls C I)
theorem g_sipush (n : Nat) (v : Int32) {j : Int} (hd : decode cc pc = .ok (.sipush j, 3)) (hn : pc + 3 = n) (hv : (Int16.ofInt j).toInt32 = v) (k : x_G SC y cc nL rt R QF n L (.int v :: st) w nc ns) : x_G SC y cc nL rt R QF pc L st w nc ns := by
  intro p l e s m args below meth c D cI base b H locs ls C I
  subst hn
  exact lv_sipush C.1 C.2.1 hd hv (k p l e s m args below meth c D cI base b H locs ls C I)
theorem g_lconst (n : Nat) (v : Int64) {j : Fin 2} (hd : decode cc pc = .ok (.lconst j, 1)) (hn : pc + 1 = n) (hv : Int64.ofNat (j : Nat) = v) (k : x_G SC y cc nL rt R QF n L (.long v :: st) w nc ns) : x_G SC y cc nL rt R QF pc L st w nc ns := by
  intro p l e s m args below meth c D cI base b H locs ls C I
  subst hn
  exact lv_lconst C.1 C.2.1 hd hv (k p l e s m args below meth c D cI base b H locs ls C I)
theorem g_iload_n (n : Nat) {a : Fin 4} {i : Nat} {x : Int32} (hd : decode cc pc = .ok (.iload_n a, 1)) (hn : pc + 1 = n) (hi : (a : Nat) = i) (hl : L[i]? = some (some (.int x))) (k : x_G SC y cc nL rt R QF n L (.int x :: st) w nc ns) : x_G SC y cc nL rt R QF pc L st w nc ns := by
  intro p l e s m args below meth c D cI base b H locs ls C I
  subst hn
  exact lv_iload_n C.1 C.2.1 hd hi (I.2.2.2.2.2 i _ hl) (k p l e s m args below meth c D cI base b H locs ls C I)
theorem g_iload (n : Nat) {i : Nat} {x : Int32} (hd : decode cc pc = .ok (.iload i, 2)) (hn : pc + 2 = n) (hl : L[i]? = some (some (.int x))) (k : x_G SC y cc nL rt R QF n L (.int x :: st) w nc ns) : x_G SC y cc nL rt R QF pc L st w nc ns := by
  intro p l e s m args below meth c D cI base b H locs ls C I
  subst hn
  exact lv_iload C.1 C.2.1 hd (I.2.2.2.2.2 i _ hl) (k p l e s m args below meth c D cI base b H locs ls C I)
theorem g_lload_n (n : Nat) {a : Fin 4} {i : Nat} {x : Int64} (hd : decode cc pc = .ok (.lload_n a, 1)) (hn : pc + 1 = n) (hi : (a : Nat) = i) (hl : L[i]? = some (some (.long x))) (k : x_G SC y cc nL rt R QF n L (.long x :: st) w nc ns) : x_G SC y cc nL rt R QF pc L st w nc ns := by
  intro p l e s m args below meth c D cI base b H locs ls C I
  subst hn
  exact lv_lload_n C.1 C.2.1 hd hi (I.2.2.2.2.2 i _ hl) (k p l e s m args below meth c D cI base b H locs ls C I)
theorem g_lload (n : Nat) {i : Nat} {x : Int64} (hd : decode cc pc = .ok (.lload i, 2)) (hn : pc + 2 = n) (hl : L[i]? = some (some (.long x))) (k : x_G SC y cc nL rt R QF n L (.long x :: st) w nc ns) : x_G SC y cc nL rt R QF pc L st w nc ns := by
  intro p l e s m args below meth c D cI base b H locs ls C I
  subst hn
  exact lv_lload C.1 C.2.1 hd (I.2.2.2.2.2 i _ hl) (k p l e s m args below meth c D cI base b H locs ls C I)
theorem g_aload_n (n : Nat) {a : Fin 4} {i x : Nat} (hd : decode cc pc = .ok (.aload_n a, 1)) (hn : pc + 1 = n) (hi : (a : Nat) = i) (hl : L[i]? = some (some (.ref x))) (k : x_G SC y cc nL rt R QF n L (.ref x :: st) w nc ns) : x_G SC y cc nL rt R QF pc L st w nc ns := by
  intro p l e s m args below meth c D cI base b H locs ls C I
  subst hn
  exact lv_aload_n C.1 C.2.1 hd hi (I.2.2.2.2.2 i _ hl) (k p l e s m args below meth c D cI base b H locs ls C I)
theorem g_aload (n : Nat) {i x : Nat} (hd : decode cc pc = .ok (.aload i, 2)) (hn : pc + 2 = n) (hl : L[i]? = some (some (.ref x))) (k : x_G SC y cc nL rt R QF n L (.ref x :: st) w nc ns) : x_G SC y cc nL rt R QF pc L st w nc ns := by
  intro p l e s m args below meth c D cI base b H locs ls C I
  subst hn
  exact lv_aload C.1 C.2.1 hd (I.2.2.2.2.2 i _ hl) (k p l e s m args below meth c D cI base b H locs ls C I)
theorem g_aloadS_n (n : Nat) {a : Fin 4} {i x : Nat} (hd : decode cc pc = .ok (.aload_n a, 1)) (hn : pc + 1 = n) (hi : (a : Nat) = i) (hl : L[i]? = some (some (.retAddr x))) (k : x_G SC y cc nL rt R QF n L (.retAddr x :: st) w nc ns) : x_G SC y cc nL rt R QF pc L st w nc ns := by
  intro p l e s m args below meth c D cI base b H locs ls C I
  subst hn
  exact lv_aload_n C.1 C.2.1 hd hi (I.2.2.2.2.2 i _ hl) (k p l e s m args below meth c D cI base b H locs ls C I)
theorem g_aloadS (n : Nat) {i x : Nat} (hd : decode cc pc = .ok (.aload i, 2)) (hn : pc + 2 = n) (hl : L[i]? = some (some (.retAddr x))) (k : x_G SC y cc nL rt R QF n L (.retAddr x :: st) w nc ns) : x_G SC y cc nL rt R QF pc L st w nc ns := by
  intro p l e s m args below meth c D cI base b H locs ls C I
  subst hn
  exact lv_aload C.1 C.2.1 hd (I.2.2.2.2.2 i _ hl) (k p l e s m args below meth c D cI base b H locs ls C I)
theorem g_istore_n (n : Nat) {a : Fin 4} {i : Nat} {x : Int32} (L' : x_L) (hd : decode cc pc = .ok (.istore_n a, 1)) (hn : pc + 1 = n) (hi : (a : Nat) = i) (hl : x_st1 L i (.int x) = L') (hm : i < nL) (k : x_G SC y cc nL rt R QF n L' st w nc ns) : x_G SC y cc nL rt R QF pc L (.int x :: st) w nc ns := by
  intro p l e s m args below meth c D cI base b H locs ls C I
  subst hn
  subst hl
  exact lv_istore_n C.1 C.2.1 hd hi I.2.2.2.has hm rfl (fun ls' h => k p l e s m args below meth c D cI base b H locs ls' C ⟨I.1, I.2.1, I.2.2.1, x_R.st1 (v := .int x) h⟩)
theorem g_istore (n : Nat) {i : Nat} {x : Int32} (L' : x_L) (hd : decode cc pc = .ok (.istore i, 2)) (hn : pc + 2 = n) (hl : x_st1 L i (.int x) = L') (hm : i < nL) (k : x_G SC y cc nL rt R QF n L' st w nc ns) : x_G SC y cc nL rt R QF pc L (.int x :: st) w nc ns := by
  intro p l e s m args below meth c D cI base b H locs ls C I
  subst hn
  subst hl
  exact lv_istore C.1 C.2.1 hd I.2.2.2.has hm rfl (fun ls' h => k p l e s m args below meth c D cI base b H locs ls' C ⟨I.1, I.2.1, I.2.2.1, x_R.st1 (v := .int x) h⟩)
theorem g_astore_n (n : Nat) {a : Fin 4} {i : Nat} {x : Nat} (L' : x_L) (hd : decode cc pc = .ok (.astore_n a, 1)) (hn : pc + 1 = n) (hi : (a : Nat) = i) (hl : x_st1 L i (.ref x) = L') (hm : i < nL) (k : x_G SC y cc nL rt R QF n L' st w nc ns) : x_G SC y cc nL rt R QF pc L (.ref x :: st) w nc ns := by
  intro p l e s m args below meth c D cI base b H locs ls C I
  subst hn
  subst hl
  exact lv_astore_n C.1 C.2.1 hd hi I.2.2.2.has hm rfl (fun ls' h => k p l e s m args below meth c D cI base b H locs ls' C ⟨I.1, I.2.1, I.2.2.1, x_R.st1 (v := .ref x) h⟩)
theorem g_astore (n : Nat) {i : Nat} {x : Nat} (L' : x_L) (hd : decode cc pc = .ok (.astore i, 2)) (hn : pc + 2 = n) (hl : x_st1 L i (.ref x) = L') (hm : i < nL) (k : x_G SC y cc nL rt R QF n L' st w nc ns) : x_G SC y cc nL rt R QF pc L (.ref x :: st) w nc ns := by
  intro p l e s m args below meth c D cI base b H locs ls C I
  subst hn
  subst hl
  exact lv_astore C.1 C.2.1 hd I.2.2.2.has hm rfl (fun ls' h => k p l e s m args below meth c D cI base b H locs ls' C ⟨I.1, I.2.1, I.2.2.1, x_R.st1 (v := .ref x) h⟩)
theorem g_lstore_n (n : Nat) {a : Fin 4} {i : Nat} {x : Int64} (L' : x_L) (hd : decode cc pc = .ok (.lstore_n a, 1)) (hn : pc + 1 = n) (hi : (a : Nat) = i) (hl : x_st2 L i (.long x) = L') (hm : i + 1 < nL) (k : x_G SC y cc nL rt R QF n L' st w nc ns) : x_G SC y cc nL rt R QF pc L (.long x :: st) w nc ns := by
  intro p l e s m args below meth c D cI base b H locs ls C I
  subst hn
  subst hl
  exact lv_lstore_n C.1 C.2.1 hd hi I.2.2.2.has hm rfl (fun ls' h => k p l e s m args below meth c D cI base b H locs ls' C ⟨I.1, I.2.1, I.2.2.1, x_R.st2 (v := .long x) h⟩)
theorem g_lstore (n : Nat) {i : Nat} {x : Int64} (L' : x_L) (hd : decode cc pc = .ok (.lstore i, 2)) (hn : pc + 2 = n) (hl : x_st2 L i (.long x) = L') (hm : i + 1 < nL) (k : x_G SC y cc nL rt R QF n L' st w nc ns) : x_G SC y cc nL rt R QF pc L (.long x :: st) w nc ns := by
  intro p l e s m args below meth c D cI base b H locs ls C I
  subst hn
  subst hl
  exact lv_lstore C.1 C.2.1 hd I.2.2.2.has hm rfl (fun ls' h => k p l e s m args below meth c D cI base b H locs ls' C ⟨I.1, I.2.1, I.2.2.1, x_R.st2 (v := .long x) h⟩)
theorem g_iinc (n : Nat) {i : Nat} {j : Int} {x v : Int32} (L' : x_L) (hd : decode cc pc = .ok (.iinc i j, 3)) (hn : pc + 3 = n) (hx : L[i]? = some (some (.int x))) (hv : x + Int32.ofInt j = v) (hl : x_st1 L i (.int v) = L') (hm : i < nL) (k : x_G SC y cc nL rt R QF n L' st w nc ns) : x_G SC y cc nL rt R QF pc L st w nc ns := by
  intro p l e s m args below meth c D cI base b H locs ls C I
  subst hn
  subst hl
  have hmem : (i, Value.int x) ∈ x_as base b L := x_as_of (v := .int x) hx
  obtain ⟨kk, hkk⟩ := List.mem_iff_getElem?.mp hmem
  exact lv_iinc C.1 C.2.1 hd I.2.2.2.has hkk hv hm rfl (fun ls' h => k p l e s m args below meth c D cI base b H locs ls' C ⟨I.1, I.2.1, I.2.2.1, x_R.st1 (v := .int v) h⟩)
theorem g_dup (n : Nat) {v : Value} (hd : decode cc pc = .ok (.dup, 1)) (hn : pc + 1 = n) (hc : v.category = 1) (k : x_G SC y cc nL rt R QF n L (v :: v :: st) w nc ns) : x_G SC y cc nL rt R QF pc L (v :: st) w nc ns := by
  intro p l e s m args below meth c D cI base b H locs ls C I
  subst hn
  exact lv_dup C.1 C.2.1 hd (by rw [x_tr_cat]; exact hc) (k p l e s m args below meth c D cI base b H locs ls C I)
theorem g_dup2 (n : Nat) {u v : Value} (hd : decode cc pc = .ok (.dup2, 1)) (hn : pc + 1 = n) (hu : u.category = 1) (hv : v.category = 1) (k : x_G SC y cc nL rt R QF n L (u :: v :: u :: v :: st) w nc ns) : x_G SC y cc nL rt R QF pc L (u :: v :: st) w nc ns := by
  intro p l e s m args below meth c D cI base b H locs ls C I
  subst hn
  exact lv_dup2_11 C.1 C.2.1 hd (by rw [x_tr_cat]; exact hu) (by rw [x_tr_cat]; exact hv) (k p l e s m args below meth c D cI base b H locs ls C I)
theorem g_pop (n : Nat) {v : Value} (hd : decode cc pc = .ok (.pop, 1)) (hn : pc + 1 = n) (hc : v.category = 1) (k : x_G SC y cc nL rt R QF n L st w nc ns) : x_G SC y cc nL rt R QF pc L (v :: st) w nc ns := by
  intro p l e s m args below meth c D cI base b H locs ls C I
  subst hn
  exact lv_pop C.1 C.2.1 hd (by rw [x_tr_cat]; exact hc) (k p l e s m args below meth c D cI base b H locs ls C I)
theorem g_icmp_eq_t (t : Nat) {x z : Int32} {off : Int} (hd : decode cc pc = .ok (.if_icmp .eq off, 3)) (ht : (pc : Int) + off = (t : Int)) (hc : x = z) (k : x_G SC y cc nL rt R QF t L st w nc ns) : x_G SC y cc nL rt R QF pc L (.int z :: .int x :: st) w nc ns := by
  intro p l e s m args below meth c D cI base b H locs ls C I
  exact lv_icmp_eq (tgt := t) C.1 C.2.1 hd ht (fun _ => (k p l e s m args below meth c D cI base b H locs ls C I)) (fun h => absurd hc h)
theorem g_icmp_eq_f (n : Nat) {x z : Int32} {off : Int} (t : Nat) (hd : decode cc pc = .ok (.if_icmp .eq off, 3)) (ht : (pc : Int) + off = (t : Int)) (hn : pc + 3 = n) (hc : ¬ x = z) (k : x_G SC y cc nL rt R QF n L st w nc ns) : x_G SC y cc nL rt R QF pc L (.int z :: .int x :: st) w nc ns := by
  intro p l e s m args below meth c D cI base b H locs ls C I
  subst hn
  exact lv_icmp_eq (tgt := t) C.1 C.2.1 hd ht (fun h => absurd h hc) (fun _ => (k p l e s m args below meth c D cI base b H locs ls C I))
theorem g_if_eq_t (t : Nat) {x : Int32} {off : Int} (hd : decode cc pc = .ok (.ifCond .eq off, 3)) (ht : (pc : Int) + off = (t : Int)) (hc : x = 0) (k : x_G SC y cc nL rt R QF t L st w nc ns) : x_G SC y cc nL rt R QF pc L (.int x :: st) w nc ns := by
  intro p l e s m args below meth c D cI base b H locs ls C I
  exact lv_if_eq (tgt := t) C.1 C.2.1 hd ht (fun _ => (k p l e s m args below meth c D cI base b H locs ls C I)) (fun h => absurd hc h)
theorem g_if_eq_f (n : Nat) {x : Int32} {off : Int} (t : Nat) (hd : decode cc pc = .ok (.ifCond .eq off, 3)) (ht : (pc : Int) + off = (t : Int)) (hn : pc + 3 = n) (hc : ¬ x = 0) (k : x_G SC y cc nL rt R QF n L st w nc ns) : x_G SC y cc nL rt R QF pc L (.int x :: st) w nc ns := by
  intro p l e s m args below meth c D cI base b H locs ls C I
  subst hn
  exact lv_if_eq (tgt := t) C.1 C.2.1 hd ht (fun h => absurd h hc) (fun _ => (k p l e s m args below meth c D cI base b H locs ls C I))
theorem g_icmp_ne_t (t : Nat) {x z : Int32} {off : Int} (hd : decode cc pc = .ok (.if_icmp .ne off, 3)) (ht : (pc : Int) + off = (t : Int)) (hc : ¬ x = z) (k : x_G SC y cc nL rt R QF t L st w nc ns) : x_G SC y cc nL rt R QF pc L (.int z :: .int x :: st) w nc ns := by
  intro p l e s m args below meth c D cI base b H locs ls C I
  exact lv_icmp_ne (tgt := t) C.1 C.2.1 hd ht (fun _ => (k p l e s m args below meth c D cI base b H locs ls C I)) (fun h => absurd h hc)
theorem g_icmp_ne_f (n : Nat) {x z : Int32} {off : Int} (t : Nat) (hd : decode cc pc = .ok (.if_icmp .ne off, 3)) (ht : (pc : Int) + off = (t : Int)) (hn : pc + 3 = n) (hc : x = z) (k : x_G SC y cc nL rt R QF n L st w nc ns) : x_G SC y cc nL rt R QF pc L (.int z :: .int x :: st) w nc ns := by
  intro p l e s m args below meth c D cI base b H locs ls C I
  subst hn
  exact lv_icmp_ne (tgt := t) C.1 C.2.1 hd ht (fun h => absurd hc h) (fun _ => (k p l e s m args below meth c D cI base b H locs ls C I))
theorem g_if_ne_t (t : Nat) {x : Int32} {off : Int} (hd : decode cc pc = .ok (.ifCond .ne off, 3)) (ht : (pc : Int) + off = (t : Int)) (hc : ¬ x = 0) (k : x_G SC y cc nL rt R QF t L st w nc ns) : x_G SC y cc nL rt R QF pc L (.int x :: st) w nc ns := by
  intro p l e s m args below meth c D cI base b H locs ls C I
  exact lv_if_ne (tgt := t) C.1 C.2.1 hd ht (fun _ => (k p l e s m args below meth c D cI base b H locs ls C I)) (fun h => absurd h hc)
theorem g_if_ne_f (n : Nat) {x : Int32} {off : Int} (t : Nat) (hd : decode cc pc = .ok (.ifCond .ne off, 3)) (ht : (pc : Int) + off = (t : Int)) (hn : pc + 3 = n) (hc : x = 0) (k : x_G SC y cc nL rt R QF n L st w nc ns) : x_G SC y cc nL rt R QF pc L (.int x :: st) w nc ns := by
  intro p l e s m args below meth c D cI base b H locs ls C I
  subst hn
  exact lv_if_ne (tgt := t) C.1 C.2.1 hd ht (fun h => absurd hc h) (fun _ => (k p l e s m args below meth c D cI base b H locs ls C I))
theorem g_icmp_lt_t (t : Nat) {x z : Int32} {off : Int} (hd : decode cc pc = .ok (.if_icmp .lt off, 3)) (ht : (pc : Int) + off = (t : Int)) (hc : x < z) (k : x_G SC y cc nL rt R QF t L st w nc ns) : x_G SC y cc nL rt R QF pc L (.int z :: .int x :: st) w nc ns := by
  intro p l e s m args below meth c D cI base b H locs ls C I
  exact lv_icmp_lt (tgt := t) C.1 C.2.1 hd ht (fun _ => (k p l e s m args below meth c D cI base b H locs ls C I)) (fun h => absurd hc h)
theorem g_icmp_lt_f (n : Nat) {x z : Int32} {off : Int} (t : Nat) (hd : decode cc pc = .ok (.if_icmp .lt off, 3)) (ht : (pc : Int) + off = (t : Int)) (hn : pc + 3 = n) (hc : ¬ x < z) (k : x_G SC y cc nL rt R QF n L st w nc ns) : x_G SC y cc nL rt R QF pc L (.int z :: .int x :: st) w nc ns := by
  intro p l e s m args below meth c D cI base b H locs ls C I
  subst hn
  exact lv_icmp_lt (tgt := t) C.1 C.2.1 hd ht (fun h => absurd h hc) (fun _ => (k p l e s m args below meth c D cI base b H locs ls C I))
theorem g_if_lt_t (t : Nat) {x : Int32} {off : Int} (hd : decode cc pc = .ok (.ifCond .lt off, 3)) (ht : (pc : Int) + off = (t : Int)) (hc : x < 0) (k : x_G SC y cc nL rt R QF t L st w nc ns) : x_G SC y cc nL rt R QF pc L (.int x :: st) w nc ns := by
  intro p l e s m args below meth c D cI base b H locs ls C I
  exact lv_if_lt (tgt := t) C.1 C.2.1 hd ht (fun _ => (k p l e s m args below meth c D cI base b H locs ls C I)) (fun h => absurd hc h)
theorem g_if_lt_f (n : Nat) {x : Int32} {off : Int} (t : Nat) (hd : decode cc pc = .ok (.ifCond .lt off, 3)) (ht : (pc : Int) + off = (t : Int)) (hn : pc + 3 = n) (hc : ¬ x < 0) (k : x_G SC y cc nL rt R QF n L st w nc ns) : x_G SC y cc nL rt R QF pc L (.int x :: st) w nc ns := by
  intro p l e s m args below meth c D cI base b H locs ls C I
  subst hn
  exact lv_if_lt (tgt := t) C.1 C.2.1 hd ht (fun h => absurd h hc) (fun _ => (k p l e s m args below meth c D cI base b H locs ls C I))
theorem g_icmp_ge_t (t : Nat) {x z : Int32} {off : Int} (hd : decode cc pc = .ok (.if_icmp .ge off, 3)) (ht : (pc : Int) + off = (t : Int)) (hc : z ≤ x) (k : x_G SC y cc nL rt R QF t L st w nc ns) : x_G SC y cc nL rt R QF pc L (.int z :: .int x :: st) w nc ns := by
  intro p l e s m args below meth c D cI base b H locs ls C I
  exact lv_icmp_ge (tgt := t) C.1 C.2.1 hd ht (fun _ => (k p l e s m args below meth c D cI base b H locs ls C I)) (fun h => absurd hc h)
theorem g_icmp_ge_f (n : Nat) {x z : Int32} {off : Int} (t : Nat) (hd : decode cc pc = .ok (.if_icmp .ge off, 3)) (ht : (pc : Int) + off = (t : Int)) (hn : pc + 3 = n) (hc : ¬ z ≤ x) (k : x_G SC y cc nL rt R QF n L st w nc ns) : x_G SC y cc nL rt R QF pc L (.int z :: .int x :: st) w nc ns := by
  intro p l e s m args below meth c D cI base b H locs ls C I
  subst hn
  exact lv_icmp_ge (tgt := t) C.1 C.2.1 hd ht (fun h => absurd h hc) (fun _ => (k p l e s m args below meth c D cI base b H locs ls C I))
theorem g_if_ge_t (t : Nat) {x : Int32} {off : Int} (hd : decode cc pc = .ok (.ifCond .ge off, 3)) (ht : (pc : Int) + off = (t : Int)) (hc : 0 ≤ x) (k : x_G SC y cc nL rt R QF t L st w nc ns) : x_G SC y cc nL rt R QF pc L (.int x :: st) w nc ns := by
  intro p l e s m args below meth c D cI base b H locs ls C I
  exact lv_if_ge (tgt := t) C.1 C.2.1 hd ht (fun _ => (k p l e s m args below meth c D cI base b H locs ls C I)) (fun h => absurd hc h)
theorem g_if_ge_f (n : Nat) {x : Int32} {off : Int} (t : Nat) (hd : decode cc pc = .ok (.ifCond .ge off, 3)) (ht : (pc : Int) + off = (t : Int)) (hn : pc + 3 = n) (hc : ¬ 0 ≤ x) (k : x_G SC y cc nL rt R QF n L st w nc ns) : x_G SC y cc nL rt R QF pc L (.int x :: st) w nc ns := by
  intro p l e s m args below meth c D cI base b H locs ls C I
  subst hn
  exact lv_if_ge (tgt := t) C.1 C.2.1 hd ht (fun h => absurd h hc) (fun _ => (k p l e s m args below meth c D cI base b H locs ls C I))
theorem g_icmp_gt_t (t : Nat) {x z : Int32} {off : Int} (hd : decode cc pc = .ok (.if_icmp .gt off, 3)) (ht : (pc : Int) + off = (t : Int)) (hc : z < x) (k : x_G SC y cc nL rt R QF t L st w nc ns) : x_G SC y cc nL rt R QF pc L (.int z :: .int x :: st) w nc ns := by
  intro p l e s m args below meth c D cI base b H locs ls C I
  exact lv_icmp_gt (tgt := t) C.1 C.2.1 hd ht (fun _ => (k p l e s m args below meth c D cI base b H locs ls C I)) (fun h => absurd hc h)
theorem g_icmp_gt_f (n : Nat) {x z : Int32} {off : Int} (t : Nat) (hd : decode cc pc = .ok (.if_icmp .gt off, 3)) (ht : (pc : Int) + off = (t : Int)) (hn : pc + 3 = n) (hc : ¬ z < x) (k : x_G SC y cc nL rt R QF n L st w nc ns) : x_G SC y cc nL rt R QF pc L (.int z :: .int x :: st) w nc ns := by
  intro p l e s m args below meth c D cI base b H locs ls C I
  subst hn
  exact lv_icmp_gt (tgt := t) C.1 C.2.1 hd ht (fun h => absurd h hc) (fun _ => (k p l e s m args below meth c D cI base b H locs ls C I))
theorem g_if_gt_t (t : Nat) {x : Int32} {off : Int} (hd : decode cc pc = .ok (.ifCond .gt off, 3)) (ht : (pc : Int) + off = (t : Int)) (hc : 0 < x) (k : x_G SC y cc nL rt R QF t L st w nc ns) : x_G SC y cc nL rt R QF pc L (.int x :: st) w nc ns := by
  intro p l e s m args below meth c D cI base b H locs ls C I
  exact lv_if_gt (tgt := t) C.1 C.2.1 hd ht (fun _ => (k p l e s m args below meth c D cI base b H locs ls C I)) (fun h => absurd hc h)
theorem g_if_gt_f (n : Nat) {x : Int32} {off : Int} (t : Nat) (hd : decode cc pc = .ok (.ifCond .gt off, 3)) (ht : (pc : Int) + off = (t : Int)) (hn : pc + 3 = n) (hc : ¬ 0 < x) (k : x_G SC y cc nL rt R QF n L st w nc ns) : x_G SC y cc nL rt R QF pc L (.int x :: st) w nc ns := by
  intro p l e s m args below meth c D cI base b H locs ls C I
  subst hn
  exact lv_if_gt (tgt := t) C.1 C.2.1 hd ht (fun h => absurd h hc) (fun _ => (k p l e s m args below meth c D cI base b H locs ls C I))
theorem g_icmp_le_t (t : Nat) {x z : Int32} {off : Int} (hd : decode cc pc = .ok (.if_icmp .le off, 3)) (ht : (pc : Int) + off = (t : Int)) (hc : x ≤ z) (k : x_G SC y cc nL rt R QF t L st w nc ns) : x_G SC y cc nL rt R QF pc L (.int z :: .int x :: st) w nc ns := by
  intro p l e s m args below meth c D cI base b H locs ls C I
  exact lv_icmp_le (tgt := t) C.1 C.2.1 hd ht (fun _ => (k p l e s m args below meth c D cI base b H locs ls C I)) (fun h => absurd hc h)
theorem g_icmp_le_f (n : Nat) {x z : Int32} {off : Int} (t : Nat) (hd : decode cc pc = .ok (.if_icmp .le off, 3)) (ht : (pc : Int) + off = (t : Int)) (hn : pc + 3 = n) (hc : ¬ x ≤ z) (k : x_G SC y cc nL rt R QF n L st w nc ns) : x_G SC y cc nL rt R QF pc L (.int z :: .int x :: st) w nc ns := by
  intro p l e s m args below meth c D cI base b H locs ls C I
  subst hn
  exact lv_icmp_le (tgt := t) C.1 C.2.1 hd ht (fun h => absurd h hc) (fun _ => (k p l e s m args below meth c D cI base b H locs ls C I))
theorem g_if_le_t (t : Nat) {x : Int32} {off : Int} (hd : decode cc pc = .ok (.ifCond .le off, 3)) (ht : (pc : Int) + off = (t : Int)) (hc : x ≤ 0) (k : x_G SC y cc nL rt R QF t L st w nc ns) : x_G SC y cc nL rt R QF pc L (.int x :: st) w nc ns := by
  intro p l e s m args below meth c D cI base b H locs ls C I
  exact lv_if_le (tgt := t) C.1 C.2.1 hd ht (fun _ => (k p l e s m args below meth c D cI base b H locs ls C I)) (fun h => absurd hc h)
theorem g_if_le_f (n : Nat) {x : Int32} {off : Int} (t : Nat) (hd : decode cc pc = .ok (.ifCond .le off, 3)) (ht : (pc : Int) + off = (t : Int)) (hn : pc + 3 = n) (hc : ¬ x ≤ 0) (k : x_G SC y cc nL rt R QF n L st w nc ns) : x_G SC y cc nL rt R QF pc L (.int x :: st) w nc ns := by
  intro p l e s m args below meth c D cI base b H locs ls C I
  subst hn
  exact lv_if_le (tgt := t) C.1 C.2.1 hd ht (fun h => absurd h hc) (fun _ => (k p l e s m args below meth c D cI base b H locs ls C I))
theorem g_goto (t : Nat) {off : Int} (hd : decode cc pc = .ok (.goto off, 3)) (ht : (pc : Int) + off = (t : Int)) (k : x_G SC y cc nL rt R QF t L st w nc ns) : x_G SC y cc nL rt R QF pc L st w nc ns := by
  intro p l e s m args below meth c D cI base b H locs ls C I
  exact lv_goto (tgt := t) C.1 C.2.1 hd ht (k p l e s m args below meth c D cI base b H locs ls C I)
theorem g_tabIn (t : Nat) {x v : Int32} {dflt lo hi off : Int} {offs : Array Int} {len : Nat} (hd : decode cc pc = .ok (.tableswitch dflt lo hi offs, len)) (hx : x = v) (h1 : ¬ v.toInt < lo) (h2 : ¬ hi < v.toInt) (ho : offs[(v.toInt - lo).toNat]? = some off) (ht : (pc : Int) + off = (t : Int)) (k : x_G SC y cc nL rt R QF t L st w nc ns) : x_G SC y cc nL rt R QF pc L (.int x :: st) w nc ns := by
  intro p l e s m args below meth c D cI base b H locs ls C I
  subst hx
  exact lv_tableIn (tgt := t) C.1 C.2.1 hd h1 h2 ho ht (k p l e s m args below meth c D cI base b H locs ls C I)
theorem g_tabOut (t : Nat) {x : Int32} {dflt lo hi : Int} {offs : Array Int} {len : Nat} (hd : decode cc pc = .ok (.tableswitch dflt lo hi offs, len)) (h : x.toInt < lo ∨ hi < x.toInt) (ht : (pc : Int) + dflt = (t : Int)) (k : x_G SC y cc nL rt R QF t L st w nc ns) : x_G SC y cc nL rt R QF pc L (.int x :: st) w nc ns := by
  intro p l e s m args below meth c D cI base b H locs ls C I
  exact lv_tableOut (tgt := t) C.1 C.2.1 hd h ht (k p l e s m args below meth c D cI base b H locs ls C I)
theorem g_lookup (t : Nat) {x : Int32} {dflt off : Int} {ps : Array (Int × Int)} {len : Nat} (hd : decode cc pc = .ok (.lookupswitch dflt ps, len)) (hp : (ps.toList.zip (ps.toList.drop 1)).all (fun (a, next) => a.1 < next.1) = true) (ho : Op.lookupswitch.offset ps.toList dflt x.toInt = off) (ht : (pc : Int) + off = (t : Int)) (k : x_G SC y cc nL rt R QF t L st w nc ns) : x_G SC y cc nL rt R QF pc L (.int x :: st) w nc ns := by
  intro p l e s m args below meth c D cI base b H locs ls C I
  exact lv_lookup (tgt := t) C.1 C.2.1 hd hp ho ht (k p l e s m args below meth c D cI base b H locs ls C I)
theorem g_less (L' : x_L) (h : x_sub L' L) (k : x_G SC y cc nL rt R QF pc L' st w nc ns) : x_G SC y cc nL rt R QF pc L st w nc ns := by
  intro p l e s m args below meth c D cI base b H locs ls C I
  exact k p l e s m args below meth c D cI base b H locs ls C ⟨I.1, I.2.1, I.2.2.1, I.2.2.2.less (x_sub_get _ _ h)⟩
theorem g_getf (n : Nat) {i idx : Nat} (ci k : Nat) {Cn : String} {T : u_T} {N : Nat} {v : Value} (hd : decode cc pc = .ok (.getfield idx, 3)) (hn : pc + 3 = n) (hin : ∀ w ∈ u_ws Cn T N, w ∈ x_GT) (hlk : Cond.fieldLink y.cls idx (T k).1 (T k).2.1 (T k).2.2.1 ∈ x_GT) (hc : x_cl[ci]? = some (Cn, T, N)) (hk : k < N) (hf : x_fv w i ci k = some v) (kk : x_G SC y cc nL rt R QF n L (v :: st) w nc ns) : x_G SC y cc nL rt R QF pc L (.ref i :: st) w nc ns := by
  intro p l e s m args below meth c D cI base b H locs ls C I
  subst hn
  obtain ⟨fs, h1, h2⟩ := x_fv_some hf
  exact va_get (D := D) (ci := ci) (C := Cn) (T := T) (N := N) (fs := fs.map (x_tr base b)) C.1 C.2.1 C.2.2.2.2.1 hin C.2.2.2.1 C.2.2.2.2.2.1 I.2.1 i (x_cw_at h1) hc k hk (C.2.2.2.2.1 _ hlk) (fun _ h => h) (by rw [List.getElem?_map, h2]; rfl) hd (kk p l e s m args below meth c D cI base b H locs ls C I)
theorem g_getfI (n : Nat) {i idx : Nat} (ci k : Nat) {Cn : String} {T : u_T} {N : Nat} {v : Int32} (hd : decode cc pc = .ok (.getfield idx, 3)) (hn : pc + 3 = n) (hin : ∀ w ∈ u_ws Cn T N, w ∈ x_GT) (hlk : Cond.fieldLink y.cls idx (T k).1 (T k).2.1 (T k).2.2.1 ∈ x_GT) (hc : x_cl[ci]? = some (Cn, T, N)) (hk : k < N) (hf : x_fi w i ci k = some v) (kk : x_G SC y cc nL rt R QF n L (.int v :: st) w nc ns) : x_G SC y cc nL rt R QF pc L (.ref i :: st) w nc ns := g_getf n ci k hd hn hin hlk hc hk (x_fi_some hf) kk
theorem g_getfR (n : Nat) {i idx : Nat} (ci k : Nat) {Cn : String} {T : u_T} {N : Nat} {v : Nat} (hd : decode cc pc = .ok (.getfield idx, 3)) (hn : pc + 3 = n) (hin : ∀ w ∈ u_ws Cn T N, w ∈ x_GT) (hlk : Cond.fieldLink y.cls idx (T k).1 (T k).2.1 (T k).2.2.1 ∈ x_GT) (hc : x_cl[ci]? = some (Cn, T, N)) (hk : k < N) (hf : x_fr w i ci k = some v) (kk : x_G SC y cc nL rt R QF n L (.ref v :: st) w nc ns) : x_G SC y cc nL rt R QF pc L (.ref i :: st) w nc ns := g_getf n ci k hd hn hin hlk hc hk (x_fr_some hf) kk
theorem g_getfN (n : Nat) {i idx : Nat} (ci k : Nat) {Cn : String} {T : u_T} {N : Nat} {host : String} {v : Value} (hd : decode cc pc = .ok (.getfield idx, 3)) (hn : pc + 3 = n) (hin : ∀ w ∈ u_ws Cn T N, w ∈ x_GT) (hlk : Cond.fieldLinkNest y.cls idx (T k).1 (T k).2.1 (T k).2.2.1 host ∈ x_NW) (hc : x_cl[ci]? = some (Cn, T, N)) (hk : k < N) (hf : x_fv w i ci k = some v) (kk : x_G SC y cc nL rt R QF n L (v :: st) w nc ns) : x_G SC y cc nL rt R QF pc L (.ref i :: st) w nc ns := by
  intro p l e s m args below meth c D cI base b H locs ls C I
  subst hn
  obtain ⟨fs, h1, h2⟩ := x_fv_some hf
  exact va_getN (D := D) (ci := ci) (C := Cn) (T := T) (N := N) (fs := fs.map (x_tr base b)) C.1 C.2.1 C.2.2.2.2.1 hin C.2.2.2.1 C.2.2.2.2.2.1 I.2.1 i (x_cw_at h1) hc k hk (va_Nw.use rfl (C.2.2.2.2.2.2.1 _ hlk)) (fun _ h => h) (by rw [List.getElem?_map, h2]; rfl) hd (kk p l e s m args below meth c D cI base b H locs ls C I)
theorem g_getfIN (n : Nat) {i idx : Nat} (ci k : Nat) {Cn : String} {T : u_T} {N : Nat} {host : String} {v : Int32} (hd : decode cc pc = .ok (.getfield idx, 3)) (hn : pc + 3 = n) (hin : ∀ w ∈ u_ws Cn T N, w ∈ x_GT) (hlk : Cond.fieldLinkNest y.cls idx (T k).1 (T k).2.1 (T k).2.2.1 host ∈ x_NW) (hc : x_cl[ci]? = some (Cn, T, N)) (hk : k < N) (hf : x_fi w i ci k = some v) (kk : x_G SC y cc nL rt R QF n L (.int v :: st) w nc ns) : x_G SC y cc nL rt R QF pc L (.ref i :: st) w nc ns := g_getfN n ci k hd hn hin hlk hc hk (x_fi_some hf) kk
theorem g_getfRN (n : Nat) {i idx : Nat} (ci k : Nat) {Cn : String} {T : u_T} {N : Nat} {host : String} {v : Nat} (hd : decode cc pc = .ok (.getfield idx, 3)) (hn : pc + 3 = n) (hin : ∀ w ∈ u_ws Cn T N, w ∈ x_GT) (hlk : Cond.fieldLinkNest y.cls idx (T k).1 (T k).2.1 (T k).2.2.1 host ∈ x_NW) (hc : x_cl[ci]? = some (Cn, T, N)) (hk : k < N) (hf : x_fr w i ci k = some v) (kk : x_G SC y cc nL rt R QF n L (.ref v :: st) w nc ns) : x_G SC y cc nL rt R QF pc L (.ref i :: st) w nc ns := g_getfN n ci k hd hn hin hlk hc hk (x_fr_some hf) kk
theorem g_putf (n : Nat) {i idx : Nat} (ci k : Nat) {Cn : String} {T : u_T} {N : Nat} {v : Value} {w' : x_W} (ty0 : Nat → FieldType) (hty : ∀ k, k < N → parseFieldDescriptor (T k).2.2.1 = some (ty0 k)) (hnm : ∀ a, a < N → ∀ b, b < N → a ≠ b → (T a).2.1 ≠ (T b).2.1) (hd : decode cc pc = .ok (.putfield idx, 3)) (hn : pc + 3 = n) (hin : ∀ w ∈ u_ws Cn T N, w ∈ x_GT) (hlk : Cond.fieldLink y.cls idx (T k).1 (T k).2.1 (T k).2.2.1 ∈ x_GT) (hc : x_cl[ci]? = some (Cn, T, N)) (hk : k < N) (hfin : (T k).2.2.2 = false) (hv : ∀ base b : Nat, narrow (ty0 k) (x_tr base b v) = x_tr base b v ∧ fits (ty0 k) (x_tr base b v) = true) (hf : x_pf w i ci k v = some w') (kk : x_G SC y cc nL rt R QF n L st w' nc ns) : x_G SC y cc nL rt R QF pc L (v :: .ref i :: st) w nc ns := by
  intro p l e s m args below meth c D cI base b H locs ls C I
  subst hn
  obtain ⟨fs, h1, h2, rfl⟩ := x_pf_some hf
  refine va_put (D := D) (ci := ci) (C := Cn) (T := T) (N := N) (fs := fs.map (x_tr base b)) C.1 C.2.1 C.2.2.2.2.1 hin ty0 hty hnm C.2.2.2.1 C.2.2.2.2.2.1 I.2.1 (x_D w) I.2.2.1 i (x_cw_at h1) hc k hk (C.2.2.2.2.1 _ hlk) (fun _ h => h) hfin (hty k hk) (hv base b).1 (hv base b).2 (by rw [List.length_map]; exact h2) hd (fun H1 locs1 hP _ hS => ?_)
  have e9 : ((base + i, Sum.inr (ci, (fs.map (x_tr base b)).set k (x_tr base b v))) : Nat × va_E) = (base + i, x_cc base b cI (.inr (ci, fs.set k v))) := by
    simp [x_cc, List.map_set]
  rw [e9, x_cw_st] at hP
  exact kk p l e s m args below meth c D cI base b H1 locs1 ls C ⟨by rw [List.length_set]; exact I.1, hP, hS, I.2.2.2⟩
theorem g_putfN (n : Nat) {i idx : Nat} (ci k : Nat) {Cn : String} {T : u_T} {N : Nat} {host : String} {v : Value} {w' : x_W} (ty0 : Nat → FieldType) (hty : ∀ k, k < N → parseFieldDescriptor (T k).2.2.1 = some (ty0 k)) (hnm : ∀ a, a < N → ∀ b, b < N → a ≠ b → (T a).2.1 ≠ (T b).2.1) (hd : decode cc pc = .ok (.putfield idx, 3)) (hn : pc + 3 = n) (hin : ∀ w ∈ u_ws Cn T N, w ∈ x_GT) (hlk : Cond.fieldLinkNest y.cls idx (T k).1 (T k).2.1 (T k).2.2.1 host ∈ x_NW) (hc : x_cl[ci]? = some (Cn, T, N)) (hk : k < N) (hfin : (T k).2.2.2 = false) (hv : ∀ base b : Nat, narrow (ty0 k) (x_tr base b v) = x_tr base b v ∧ fits (ty0 k) (x_tr base b v) = true) (hf : x_pf w i ci k v = some w') (kk : x_G SC y cc nL rt R QF n L st w' nc ns) : x_G SC y cc nL rt R QF pc L (v :: .ref i :: st) w nc ns := by
  intro p l e s m args below meth c D cI base b H locs ls C I
  subst hn
  obtain ⟨fs, h1, h2, rfl⟩ := x_pf_some hf
  refine va_putN (D := D) (ci := ci) (C := Cn) (T := T) (N := N) (fs := fs.map (x_tr base b)) C.1 C.2.1 C.2.2.2.2.1 hin ty0 hty hnm C.2.2.2.1 C.2.2.2.2.2.1 I.2.1 (x_D w) I.2.2.1 i (x_cw_at h1) hc k hk (va_Nw.use rfl (C.2.2.2.2.2.2.1 _ hlk)) (fun _ h => h) hfin (hty k hk) (hv base b).1 (hv base b).2 (by rw [List.length_map]; exact h2) hd (fun H1 locs1 hP _ hS => ?_)
  have e9 : ((base + i, Sum.inr (ci, (fs.map (x_tr base b)).set k (x_tr base b v))) : Nat × va_E) = (base + i, x_cc base b cI (.inr (ci, fs.set k v))) := by
    simp [x_cc, List.map_set]
  rw [e9, x_cw_st] at hP
  exact kk p l e s m args below meth c D cI base b H1 locs1 ls C ⟨by rw [List.length_set]; exact I.1, hP, hS, I.2.2.2⟩
theorem g_putfF (n : Nat) {i idx : Nat} (ci k : Nat) {Cn : String} {T : u_T} {N : Nat} {v : Value} {w' : x_W} (ty0 : Nat → FieldType) (hty : ∀ k, k < N → parseFieldDescriptor (T k).2.2.1 = some (ty0 k)) (hnm : ∀ a, a < N → ∀ b, b < N → a ≠ b → (T a).2.1 ≠ (T b).2.1) (hd : decode cc pc = .ok (.putfield idx, 3)) (hn : pc + 3 = n) (hin : ∀ w ∈ u_ws Cn T N, w ∈ x_GT) (hlk : Cond.fieldLink y.cls idx (T k).1 (T k).2.1 (T k).2.2.1 ∈ x_GT) (hc : x_cl[ci]? = some (Cn, T, N)) (hk : k < N) (hfin : (T k).2.2.2 = true) (hin2 : y.name = "<init>") (hdecl : (T k).1 = y.cls) (hv : ∀ base b : Nat, narrow (ty0 k) (x_tr base b v) = x_tr base b v ∧ fits (ty0 k) (x_tr base b v) = true) (hf : x_pf w i ci k v = some w') (kk : x_G SC y cc nL rt R QF n L st w' nc ns) : x_G SC y cc nL rt R QF pc L (v :: .ref i :: st) w nc ns := by
  intro p l e s m args below meth c D cI base b H locs ls C I
  subst hn
  obtain ⟨fs, h1, h2, rfl⟩ := x_pf_some hf
  refine va_putF (D := D) (ci := ci) (C := Cn) (T := T) (N := N) (fs := fs.map (x_tr base b)) C.1 C.2.1 C.2.2.2.2.1 hin ty0 hty hnm C.2.2.2.1 C.2.2.2.2.2.1 I.2.1 (x_D w) I.2.2.1 i (x_cw_at h1) hc k hk (C.2.2.2.2.1 _ hlk) (fun _ h => h) hfin (C.2.2.2.2.2.2.2.2.2.2.2 hin2) hdecl (hty k hk) (hv base b).1 (hv base b).2 (by rw [List.length_map]; exact h2) hd (fun H1 locs1 hP _ hS => ?_)
  have e9 : ((base + i, Sum.inr (ci, (fs.map (x_tr base b)).set k (x_tr base b v))) : Nat × va_E) = (base + i, x_cc base b cI (.inr (ci, fs.set k v))) := by
    simp [x_cc, List.map_set]
  rw [e9, x_cw_st] at hP
  exact kk p l e s m args below meth c D cI base b H1 locs1 ls C ⟨by rw [List.length_set]; exact I.1, hP, hS, I.2.2.2⟩
theorem g_iald (n : Nat) {i : Nat} {j x : Int32} (hd : decode cc pc = .ok (.iaload, 1)) (hn : pc + 1 = n) (hf : x_ai w i j = some x) (k : x_G SC y cc nL rt R QF n L (.int x :: st) w nc ns) : x_G SC y cc nL rt R QF pc L (.int j :: .ref i :: st) w nc ns := by
  intro p l e s m args below meth c D cI base b H locs ls C I
  subst hn
  obtain ⟨N, f, h1, h2, rfl⟩ := x_ai_some hf
  exact va_iald C.1 C.2.1 C.2.2.2.2.2.1 I.2.1 i 0 (x_cw_at h1) rfl h2 hd (k p l e s m args below meth c D cI base b H locs ls C I)
theorem g_iast (n : Nat) {i : Nat} {j x : Int32} {w' : x_W} (hd : decode cc pc = .ok (.iastore, 1)) (hn : pc + 1 = n) (hf : x_pa w i j x = some w') (k : x_G SC y cc nL rt R QF n L st w' nc ns) : x_G SC y cc nL rt R QF pc L (.int x :: .int j :: .ref i :: st) w nc ns := by
  intro p l e s m args below meth c D cI base b H locs ls C I
  subst hn
  obtain ⟨N, f, h1, h2, rfl⟩ := x_pa_some hf
  refine va_iast C.1 C.2.1 C.2.2.2.2.2.1 I.2.1 (x_D w) I.2.2.1 i 0 (x_cw_at h1) rfl h2 hd (fun H1 locs1 hP _ hS => ?_)
  have e9 : ((base + i, Sum.inl (cI, N, .inl (upd f j.toNatClampNeg x))) : Nat × va_E) = (base + i, x_cc base b cI (.inl (N, upd f j.toNatClampNeg x))) := rfl
  rw [e9, x_cw_st] at hP
  exact k p l e s m args below meth c D cI base b H1 locs1 ls C ⟨by rw [List.length_set]; exact I.1, hP, hS, I.2.2.2⟩
theorem g_slen (n : Nat) {xl : Nat} {xs : Nat → Int32} {i : Nat} (hd : decode cc pc = .ok (.arraylength, 1)) (hn : pc + 1 = n) (k : x_G (some (xl, xs)) y cc nL rt R QF n L (.int (Int32.ofNat xl) :: st) w nc ns) : x_G (some (xl, xs)) y cc nL rt R QF pc L (.retAddr i :: st) w nc ns := by
  intro p l e s m args below meth c D cI base b H locs ls C I
  subst hn
  obtain ⟨hX, h1, h2, -⟩ := C.2.2.2.2.2.2.2.2.1
  exact va_slen (A := fun q : Nat => base ≤ q) C.1 C.2.1 hX h1 (by show ¬ base ≤ b; omega) I.2.2.1 hd (k p l e s m args below meth c D cI base b H locs ls C I)
theorem g_sld (n : Nat) {xl : Nat} {xs : Nat → Int32} {i : Nat} {j : Int32} (hd : decode cc pc = .ok (.iaload, 1)) (hn : pc + 1 = n) (hj : vp_in j xl) (k : x_G (some (xl, xs)) y cc nL rt R QF n L (.int (xs j.toNatClampNeg) :: st) w nc ns) : x_G (some (xl, xs)) y cc nL rt R QF pc L (.int j :: .retAddr i :: st) w nc ns := by
  intro p l e s m args below meth c D cI base b H locs ls C I
  subst hn
  obtain ⟨hX, h1, h2, -⟩ := C.2.2.2.2.2.2.2.2.1
  exact va_sld (A := fun q : Nat => base ≤ q) C.1 C.2.1 hX h1 (by show ¬ base ≤ b; omega) I.2.2.1 hj hd (k p l e s m args below meth c D cI base b H locs ls C I)
theorem x_lo {D : va_G} {cI : ClassId} {base b : Nat} {H : Heap} {w : x_W} (hP : va_P D x_cl (x_cw base b cI 0 w) H) (hb : base ≤ H.size) : base + w.length ≤ H.size := by
  cases hl : w.length with
  | zero => exact hb
  | succ k =>
    have hk : k < w.length := by omega
    have := (hP k _ (x_cw_at (List.getElem?_eq_getElem hk))).lt
    dsimp only at this
    omega
theorem x_size {p : Program} {l : Launch} {e : Env} {s : State} {m : MethodId} {args : Array Value} {below : List Frame} {meth : Method} {c : Code} {D : va_G} {cI : ClassId} {base b : Nat} {H : Heap} {locs : List Loc} {ls : Array Slot} {Q : State → Prop} {g : JFrame} (C : x_Ctx SC y cc nL rt p s m args meth c D cI base b) (I : x_Inv nL D cI base b s H locs ls L w nc)
    (h : H.size = base + w.length → W p l e R s m args below meth c H locs nc ns Q g) : W p l e R s m args below meth c H locs nc ns Q g := by
  intro T hT X
  refine h ?_ T hT X
  have h1 := X.same.2.2.1
  have h2 : (T.setVm s.vm).heap = H := hT
  rw [h2] at h1
  have h3 := x_lo I.2.1 (Nat.le_trans C.2.2.2.2.2.2.2.1 I.2.2.1.1)
  have h4 := I.1
  omega
theorem g_newa (n : Nat) {j : Int32} (N : Nat) (hd : decode cc pc = .ok (.newarray .int, 2)) (hn : pc + 2 = n) (hw : Cond.arrayClass .int ∈ x_GT) (hj : ¬ j < 0) (hN : j.toNatClampNeg = N) (hB : N * componentBytes .int ≤ 536870912) (hc : nc + 1 ≤ R.cells) (hs : ns + N ≤ R.slots) (k : x_G SC y cc nL rt R QF n L (.ref w.length :: st) (w ++ [.inl (N, fun _ => 0)]) (nc + 1) (ns + N)) : x_G SC y cc nL rt R QF pc L (.int j :: st) w nc ns := by
  intro p l e s m args below meth c D cI base b H locs ls C I
  subst hn
  refine x_size C I fun hz => ?_
  refine va_newaK C.1 C.2.1 (atype := .int) (C.2.2.2.2.1 _ hw) rfl hd rfl hj hN hB hc hs hz fun H1 cA e1 z1 o1 hAr hNm => ?_
  have hcA : cA = cI := Option.some.inj (hNm.symm.trans (C.2.2.2.2.2.1.2 0 _ rfl).2)
  subst hcA
  refine k p l e s m args below meth c D cA base b H1 locs ls C ⟨by rw [List.length_append]; have := I.1; simp; omega, ?_, ⟨by rw [z1]; have := I.2.2.1.1; omega, fun q h1 h2 => ?_, I.2.2.1.2.2⟩, I.2.2.2⟩
  · rw [x_cw_ap]
    refine va_P.app (I.2.1.kept fun i q hq => o1 q.1 ?_) (fun i q hq => ?_)
    · rw [← hz]; exact (I.2.1 i q hq).lt
    · have hi : i < 1 := (List.getElem?_eq_some_iff.mp hq).1
      rw [show i = 0 by omega] at hq
      cases hq
      exact e1
  · rw [o1 q (by have := I.2.2.1.1; omega)]
    exact I.2.2.1.2.1 q h1 h2
theorem g_new (n : Nat) {idx : Nat} (ci : Nat) {Cn : String} {T : u_T} {N : Nat} (ty : Nat → FieldType) (hty : ∀ k, k < N → parseFieldDescriptor (T k).2.2.1 = some (ty k)) (fs : List Value) (hd : decode cc pc = .ok (.new idx, 3)) (hn : pc + 3 = n) (hin : ∀ w ∈ u_ws Cn T N, w ∈ x_GT) (hl : Cond.classLink y.cls idx Cn ∈ x_GT) (hi : Cond.instantiable Cn N ∈ x_GT) (hini : Cond.initialized Cn ∈ x_GT) (hc : x_cl[ci]? = some (Cn, T, N)) (hfs : ∀ j, j < N → defaultValue (ty j) = vp_V fs j) (hfv : ∀ base b : Nat, fs.map (x_tr base b) = fs) (hc1 : nc + 1 ≤ R.cells) (hs1 : ns + N ≤ R.slots) (k : x_G SC y cc nL rt R QF n L (.ref w.length :: st) (w ++ [.inr (ci, fs)]) (nc + 1) (ns + N)) : x_G SC y cc nL rt R QF pc L st w nc ns := by
  intro p l e s m args below meth c D cI base b H locs ls C I
  subst hn
  refine x_size C I fun hz => ?_
  have hKn := C.2.2.2.2.2.1.1 ci _ hc
  refine W.newcK C.1 C.2.1 C.2.2.2.1 (C.2.2.2.2.1 _ hl) (C.2.2.2.2.1 _ hi) (C.2.2.2.2.1 _ hini) rfl hd hc1 hs1 hKn.2.1 hz fun H1 kC hkC e1 z1 o1 => ?_
  refine k p l e s m args below meth c D cI base b H1 locs ls C ⟨by rw [List.length_append]; have := I.1; simp; omega, ?_, ⟨by rw [z1]; have := I.2.2.1.1; omega, fun q h1 h2 => ?_, I.2.2.1.2.2⟩, I.2.2.2⟩
  · rw [x_cw_ap]
    refine va_P.app (I.2.1.kept fun i q hq => o1 q.1 ?_) (fun i q hq => ?_)
    · rw [← hz]; exact (I.2.1 i q hq).lt
    · have hi : i < 1 := (List.getElem?_eq_some_iff.mp hq).1
      rw [show i = 0 by omega] at hq
      cases hq
      refine ⟨_, hc, ?_⟩
      have := (u_born ty C.2.2.2.2.1 hin hKn hkC e1 hty).to hfs
      dsimp only [x_cc]
      rw [hfv base b]
      exact this
  · rw [o1 q (by have := I.2.2.1.1; omega)]
    exact I.2.2.1.2.1 q h1 h2
/-- a method's contract in the picture -/
def x_ws (y : MethodName) (cc : ByteArray) (nL : Nat) (rt : Option FieldType) : List Cond := Cond.code y cc nL rt :: x_GT
def x_pre (D : va_G) (cI : ClassId) (base b : Nat) (w : x_W) (U : State) : Prop := U.heap.size = base + w.length ∧ va_P D x_cl (x_cw base b cI 0 w) U.heap ∧ va_K D x_cl [(cI, .int)] U ∧ ∀ q ∈ x_NW, va_Nw q U
def x_Qc (K : Option Value → x_W → Prop) (mc : Nat) (D : va_G) (cI : ClassId) (base b : Nat) : Array Value → State → Outcome → State → Prop := fun _ st o t => (∃ (r : Option Value) (w' : x_W), K r w' ∧ o = .returned (r.map (x_tr base b)) ∧ st.heap.size + mc ≤ base + w'.length ∧ va_P D x_cl (x_cw base b cI 0 w') t.heap) ∧ va_F (fun q : Nat => base ≤ q) st t
def x_QM (K : Option Value → x_W → Prop) (mc ms : Nat) : x_QF := fun below args s D cI base b => MQ below (x_Qc K mc D cI base b) args s mc ms (fun q : Nat => base ≤ q)
def x_M (y : MethodName) (cc : ByteArray) (nL : Nat) (rt : Option FieldType) (d mc ms : Nat) (av : List Value) (w : x_W) (K : Option Value → x_W → Prop) : Prop :=
  ∀ (l : Launch) (D : va_G) (cI : ClassId) (base b : Nat), Met l y (x_ws y cc nL rt) (x_room d mc ms) (va_Pc (av.map (x_tr base b)) (x_pre D cI base b w)) (x_Qc K mc D cI base b) mc ms (fun q : Nat => base ≤ q)
theorem x_sl (base b : Nat) : ∀ av : List Value, (lg_sl (av.map (x_tr base b))).length = (x_en av).length
  | [] => rfl
  | v :: vs => by
    have ih := x_sl base b vs
    have e : lg_sl (x_tr base b v :: vs.map (x_tr base b)) = (if (x_tr base b v).category = 2 then [Slot.val (x_tr base b v), Slot.second] else [Slot.val (x_tr base b v)]) ++ lg_sl (vs.map (x_tr base b)) := rfl
    rw [List.map_cons, e, x_tr_cat, x_en]
    split <;> simp [ih] <;> omega
theorem x_M.of {d mc ms : Nat} {av : List Value} {K : Option Value → x_W → Prop} (L0 : x_L) (hy : plainName y.cls = true) (hL : x_entry nL av = L0) (hlen : (x_en av).length ≤ nL) (h : x_G none y cc nL rt (x_room d mc ms) (x_QM K mc ms) 0 L0 [] w 0 0) : x_M y cc nL rt d mc ms av w K := by
  intro l D cI base b
  refine Met.ofW (cc := cc) (maxL := nL) (ret := rt) hy rfl ?_
  intro p e s m args below meth c s₁ B hml hv
  obtain ⟨rfl, hsz, hP, hK, hN⟩ := hv
  have hts := atoms_spec (ws := x_ws y cc nL rt) B.pre
  have hown : s.vm.findClass y.cls = some m.cls := findClass_of_methodNamed B.named
  have hl := lv_entry (av.map (x_tr base b)) (n := nL) (by rw [x_sl]; exact hlen)
  rw [lg_entry_eq]
  generalize (lg_sl (av.map (x_tr base b)) ++ List.replicate (nL - (lg_sl (av.map (x_tr base b))).length) Slot.unset).toArray = ls at hl ⊢
  subst hL
  exact h p l e s m _ below meth c D cI base b s.heap [] ls ⟨B.exec, B.bytes, hml, hown, fun w hw => hts w (List.mem_cons_of_mem _ hw), hK, hN, by rw [hsz]; omega, trivial, B.returns, B.notSynchronized, fun h => (name_of_methodNamed B.named B.method).1.trans h⟩ ⟨by rw [hsz]; omega, hP, va_S.rf, x_R.entry hl⟩
theorem g_iret {K : Option Value → x_W → Prop} {mc ms : Nat} {v : Int32} (hr : rt = some .int) (hd : decode cc pc = .ok (.ireturn, 1)) (hK : K (some (.int v)) w) : x_G SC y cc nL rt R (x_QM K mc ms) pc L [.int v] w mc ms := by
  intro p l e s m args below meth c D cI base b H locs ls C I
  exact W.iret (v := v) C.1 C.2.1 (C.2.2.2.2.2.2.2.2.2.1.trans hr) (fun t ht hW => ⟨⟨some (.int v), w, hK, rfl, I.1, by rw [ht]; exact I.2.1⟩, I.2.2.1.F ht⟩) I.2.2.1.2.2 hd C.2.2.2.2.2.2.2.2.2.2.1
theorem g_zret {K : Option Value → x_W → Prop} {mc ms : Nat} {v : Int32} (hr : rt = some .boolean) (hv : v = 0 ∨ v = 1) (hd : decode cc pc = .ok (.ireturn, 1)) (hK : K (some (.int v)) w) : x_G SC y cc nL rt R (x_QM K mc ms) pc L [.int v] w mc ms := by
  intro p l e s m args below meth c D cI base b H locs ls C I
  exact W.zret (v := v) C.1 C.2.1 (C.2.2.2.2.2.2.2.2.2.1.trans hr) (by rcases hv with rfl | rfl <;> decide +kernel) (fun t ht hW => ⟨⟨some (.int v), w, hK, rfl, I.1, by rw [ht]; exact I.2.1⟩, I.2.2.1.F ht⟩) I.2.2.1.2.2 hd C.2.2.2.2.2.2.2.2.2.2.1
theorem g_lret {K : Option Value → x_W → Prop} {mc ms : Nat} {v : Int64} (hr : rt = some .long) (hd : decode cc pc = .ok (.lreturn, 1)) (hK : K (some (.long v)) w) : x_G SC y cc nL rt R (x_QM K mc ms) pc L [.long v] w mc ms := by
  intro p l e s m args below meth c D cI base b H locs ls C I
  exact W.lret (v := v) C.1 C.2.1 (C.2.2.2.2.2.2.2.2.2.1.trans hr) (fun t ht hW => ⟨⟨some (.long v), w, hK, rfl, I.1, by rw [ht]; exact I.2.1⟩, I.2.2.1.F ht⟩) I.2.2.1.2.2 hd C.2.2.2.2.2.2.2.2.2.2.1
theorem g_vret {K : Option Value → x_W → Prop} {mc ms : Nat} (hr : rt = none) (hd : decode cc pc = .ok (.return_, 1)) (hK : K none w) : x_G SC y cc nL rt R (x_QM K mc ms) pc L [] w mc ms := by
  intro p l e s m args below meth c D cI base b H locs ls C I
  exact W.vret C.1 C.2.1 (C.2.2.2.2.2.2.2.2.2.1.trans hr) (fun t ht hW => ⟨⟨none, w, hK, rfl, I.1, by rw [ht]; exact I.2.1⟩, I.2.2.1.F ht⟩) I.2.2.1.2.2 hd C.2.2.2.2.2.2.2.2.2.2.1
theorem x_blind {D : va_G} {cI : ClassId} {base b : Nat} {w : x_W} {av : List Value} : FrameBlind (va_Pc (av.map (x_tr base b)) (x_pre D cI base b w)) := by
  intro a U g mk q
  obtain ⟨q0, q1, qP, qK, qN⟩ := q
  exact ⟨q0, q1, qP, va_K.moved (u := U) (U := U.calling g mk a) (Vm.Alike.refl U.vm) qK, fun z hz => va_Nw.same (u := U) (x_NWt z hz) rfl (qN z hz)⟩
theorem x_warm {s U : State} (hW : s.WarmedH U.vm) (h : ∀ q ∈ x_NW, va_Nw q s) : ∀ q ∈ x_NW, va_Nw q U := by
  intro q hq
  have h1 := h q hq
  rcases x_NWk q hq with ⟨a, i, r, n, d, h', rfl⟩ | ⟨a, i, x, h', rfl⟩
  · exact va_Nw.warmF hW h1
  · exact va_Nw.warmM hW h1
/-- behind a call -/
theorem x_back {p : Program} {l : Launch} {e : Env} {s : State} {m : MethodId} {args : Array Value} {below : List Frame} {meth : Method} {c : Code} {D : va_G} {cI : ClassId} {base b : Nat} {H : Heap} {locs : List Loc} {ls : Array Slot} {Q : State → Prop} {K2 : Option Value → x_W → Prop} {mc2 ms2 : Nat} {st0 : List Value} {rest : List Value} {a : Array Value} (I : x_Inv nL D cI base b s H locs ls L w nc) (hz : H.size = base + w.length)
    (hr : va_Run p l e R s m args below meth c H locs nc ns mc2 ms2 (F0 m pc ls st0) rest (x_Qc K2 mc2 D cI base b a) (fun q : Nat => base ≤ q))
    (kk : ∀ (r : Option Value) (w' : x_W) (H1 : Heap) (locs1 : List Loc), K2 r w' → x_Inv nL D cI base b s H1 locs1 ls L w' (nc + mc2) → W p l e R s m args below meth c H1 locs1 (nc + mc2) (ns + ms2) Q (F0 m (pc + 3) ls ((r.map (x_tr base b)).toList ++ rest))) : W p l e R s m args below meth c H locs nc ns Q (F0 m pc ls st0) := by
  intro T hT X
  obtain ⟨v, st₀, t, T', L9, h0, X', hL, e1, e2, ⟨⟨r, w', hK, ho, hz2, hP'⟩, hF1, hF2⟩, stp⟩ := hr T hT X
  cases ho
  rw [h0] at hz2 hF1 hF2
  obtain ⟨t2, a1, b1⟩ := kk r w' T'.heap (locs ++ L9) hK ⟨by have := I.1; omega, by rw [e1]; exact hP', ⟨Nat.le_trans I.2.2.1.1 (by rw [e1]; exact hF1), fun q h1 h2 => by
      rw [e1, hF2 q (Nat.lt_of_lt_of_le h1 I.2.2.1.1) h2]
      exact I.2.2.1.2.1 q h1 h2, fun q hq => by
      rcases List.mem_append.mp hq with h | h
      · exact I.2.2.1.2.2 q h
      · exact hL q h⟩, I.2.2.2⟩ T' rfl X'
  exact ⟨t2, stp t2 a1, b1⟩
theorem x_gd {y2 : MethodName} {cc2 : ByteArray} {nL2 : Nat} {rt2 : Option FieldType} (h : Cond.code y2 cc2 nL2 rt2 ∈ x_GT) : GoodIn x_GT (x_ws y2 cc2 nL2 rt2) := by
  intro q hq
  rcases List.mem_cons.mp hq with rfl | hq
  · exact x_good _ h
  · exact x_good _ hq
theorem x_cat (base b : Nat) (st : List Value) : ((st.map (x_tr base b)).map fun v => v.category).sum = (st.map fun v => v.category).sum := by
  congr 1
  rw [List.map_map]
  exact List.map_congr_left fun v _ => x_tr_cat base b v
theorem g_callS (n : Nat) {y2 : MethodName} {cc2 : ByteArray} {nL2 : Nat} {rt2 : Option FieldType} {d mc2 ms2 idx : Nat} {av rest : List Value} {K2 : Option Value → x_W → Prop} (hd : decode cc pc = .ok (.invokestatic idx, 3)) (hn : pc + 3 = n) (hM : x_M y2 cc2 nL2 rt2 d mc2 ms2 av w K2) (hst : Cond.static y2 ∈ x_GT) (hcode : Cond.code y2 cc2 nL2 rt2 ∈ x_GT) (hini : Cond.initialized y2.cls ∈ x_GT) (hlk : Cond.methodLink y.cls idx y2 ∈ x_GT) (hd2 : y2.cls ≠ "java/lang/invoke/MethodHandle" ∧ y2.cls ≠ "java/lang/invoke/VarHandle" ∧ (parseMethodDescriptor y2.desc).map (fun d => d.parameters.length) = some av.length) (hR : d + 1 ≤ R.frames ∧ 8 + (nL2 + 11) + 60 * d ≤ R.locals) (hf : nc + mc2 ≤ R.cells ∧ ns + ms2 ≤ R.slots) (hcat : (rest.map fun v => v.category).sum ≤ 8) (k : ∀ (r : Option Value) (w' : x_W), K2 r w' → x_G SC y cc nL rt R QF n L (r.toList ++ rest) w' (nc + mc2) (ns + ms2)) : x_G SC y cc nL rt R QF pc L (av.reverse ++ rest) w nc ns := by
  intro p l e s m args below meth c D cI base b H locs ls C I
  subst hn
  refine x_size C I fun hz => ?_
  refine x_back I hz (va_runS (As := av.map (x_tr base b)) (rest := rest.map (x_tr base b)) ⟨C.1, C.2.1, C.2.2.1, C.2.2.2.1, C.2.2.2.2.1⟩ (hM l D cI base b) ⟨(callB_of av.length C.2.2.2.2.1 (x_gd hcode) rfl rfl rfl (C.2.2.2.2.1 _ hini) (C.2.2.2.2.1 _ hlk) hd2 hR), C.2.2.2.2.1 _ hst⟩ ⟨x_blind, fun U hU hW => ⟨rfl, by rw [hU]; exact hz, by rw [hU]; exact I.2.1, va_K.moved hW.alike C.2.2.2.2.2.1, x_warm hW C.2.2.2.2.2.2.1⟩⟩ rfl (by rw [List.length_map]) I.2.2.2.1 (by show List.map _ _ = _; rw [List.map_append, List.map_reverse]) (lv_room (by rw [x_cat]; exact hcat)) hd hf) (fun r w' H1 locs1 hK I' => ?_)
  have := k r w' hK p l e s m args below meth c D cI base b H1 locs1 ls C I'
  rw [List.map_append] at this
  rw [show (r.map (x_tr base b)).toList = r.toList.map (x_tr base b) by cases r <;> rfl]
  exact this
theorem g_callV (n : Nat) {y2 : MethodName} {cc2 : ByteArray} {nL2 : Nat} {rt2 : Option FieldType} {d mc2 ms2 idx : Nat} {av rest : List Value} {K2 : Option Value → x_W → Prop} {i ci : Nat} {q2 : vw_C} {fs : List Value} (hd : decode cc pc = .ok (.invokevirtual idx, 3)) (hn : pc + 3 = n) (hM : x_M y2 cc2 nL2 rt2 d mc2 ms2 (.ref i :: av) w K2) (hw : w[i]? = some (.inr (ci, fs))) (hc : x_cl[ci]? = some q2) (hq : q2.1 = y2.cls) (hinst : Cond.instanceMethod y2 ∈ x_GT) (hsel : Cond.selects y2.cls y2 y2 ∈ x_GT) (hcode : Cond.code y2 cc2 nL2 rt2 ∈ x_GT) (hini : Cond.initialized y2.cls ∈ x_GT) (hlk : Cond.methodLink y.cls idx y2 ∈ x_GT) (hd2 : y2.cls ≠ "java/lang/invoke/MethodHandle" ∧ y2.cls ≠ "java/lang/invoke/VarHandle" ∧ (parseMethodDescriptor y2.desc).map (fun d => d.parameters.length) = some av.length) (hR : d + 1 ≤ R.frames ∧ 8 + (nL2 + 11) + 60 * d ≤ R.locals) (hf : nc + mc2 ≤ R.cells ∧ ns + ms2 ≤ R.slots) (hcat : (rest.map fun v => v.category).sum ≤ 8) (k : ∀ (r : Option Value) (w' : x_W), K2 r w' → x_G SC y cc nL rt R QF n L (r.toList ++ rest) w' (nc + mc2) (ns + ms2)) : x_G SC y cc nL rt R QF pc L (av.reverse ++ .ref i :: rest) w nc ns := by
  intro p l e s m args below meth c D cI base b H locs ls C I
  subst hn
  refine x_size C I fun hz => ?_
  refine x_back I hz (va_runV (C := y2.cls) (b := base + i) (As := av.map (x_tr base b)) (rest := rest.map (x_tr base b)) ⟨C.1, C.2.1, C.2.2.1, C.2.2.2.1, C.2.2.2.2.1⟩ (hM l D cI base b) ⟨(callB_of av.length C.2.2.2.2.1 (x_gd hcode) rfl rfl rfl (C.2.2.2.2.1 _ hini) (C.2.2.2.2.1 _ hlk) hd2 hR), C.2.2.2.2.1 _ hinst, C.2.2.2.2.1 _ hsel⟩ ⟨x_blind, by rw [← hq]; exact va_recv C.2.2.2.2.2.1 I.2.1 hc (x_cw_at hw), fun U hU hW => ⟨rfl, by rw [hU]; exact hz, by rw [hU]; exact I.2.1, va_K.moved hW.alike C.2.2.2.2.2.1, x_warm hW C.2.2.2.2.2.2.1⟩⟩ rfl (by rw [List.length_map]) I.2.2.2.1 (by show List.map _ _ = _; rw [List.map_append, List.map_reverse]; rfl) (lv_room (by rw [x_cat]; exact hcat)) hd hf) (fun r w' H1 locs1 hK I' => ?_)
  have := k r w' hK p l e s m args below meth c D cI base b H1 locs1 ls C I'
  rw [List.map_append] at this
  rw [show (r.map (x_tr base b)).toList = r.toList.map (x_tr base b) by cases r <;> rfl]
  exact this
theorem g_callI (n : Nat) {y2 : MethodName} {cc2 : ByteArray} {nL2 : Nat} {d mc2 ms2 idx : Nat} {av rest : List Value} {K2 : Option Value → x_W → Prop} {i : Nat} (hd : decode cc pc = .ok (.invokespecial idx, 3)) (hn : pc + 3 = n) (hM : x_M y2 cc2 nL2 none d mc2 ms2 (.ref i :: av) w K2) (hinit : y2.name = "<init>") (hinst : Cond.instanceMethod y2 ∈ x_GT) (hcode : Cond.code y2 cc2 nL2 none ∈ x_GT) (hini : Cond.initialized y2.cls ∈ x_GT) (hlk : Cond.methodLink y.cls idx y2 ∈ x_GT) (hd2 : y2.cls ≠ "java/lang/invoke/MethodHandle" ∧ y2.cls ≠ "java/lang/invoke/VarHandle" ∧ (parseMethodDescriptor y2.desc).map (fun d => d.parameters.length) = some av.length) (hR : d + 1 ≤ R.frames ∧ 8 + (nL2 + 11) + 60 * d ≤ R.locals) (hf : nc + mc2 ≤ R.cells ∧ ns + ms2 ≤ R.slots) (hcat : (rest.map fun v => v.category).sum ≤ 8) (k : ∀ (r : Option Value) (w' : x_W), K2 r w' → x_G SC y cc nL rt R QF n L (r.toList ++ rest) w' (nc + mc2) (ns + ms2)) : x_G SC y cc nL rt R QF pc L (av.reverse ++ .ref i :: rest) w nc ns := by
  intro p l e s m args below meth c D cI base b H locs ls C I
  subst hn
  refine x_size C I fun hz => ?_
  refine x_back I hz (va_runI (b := base + i) (As := av.map (x_tr base b)) (rest := rest.map (x_tr base b)) ⟨C.1, C.2.1, C.2.2.1, C.2.2.2.1, C.2.2.2.2.1⟩ (hM l D cI base b) ⟨(callB_of av.length C.2.2.2.2.1 (x_gd hcode) rfl rfl rfl (C.2.2.2.2.1 _ hini) (C.2.2.2.2.1 _ hlk) hd2 hR), hinit, C.2.2.2.2.1 _ hinst⟩ ⟨x_blind, fun U hU hW => ⟨rfl, by rw [hU]; exact hz, by rw [hU]; exact I.2.1, va_K.moved hW.alike C.2.2.2.2.2.1, x_warm hW C.2.2.2.2.2.2.1⟩⟩ rfl (by rw [List.length_map]) I.2.2.2.1 (by show List.map _ _ = _; rw [List.map_append, List.map_reverse]; rfl) (lv_room (by rw [x_cat]; exact hcat)) hd hf) (fun r w' H1 locs1 hK I' => ?_)
  have := k r w' hK p l e s m args below meth c D cI base b H1 locs1 ls C I'
  rw [List.map_append] at this
  rw [show (r.map (x_tr base b)).toList = r.toList.map (x_tr base b) by cases r <;> rfl]
  exact this
theorem g_callSN (n : Nat) {y2 : MethodName} {cc2 : ByteArray} {nL2 : Nat} {rt2 : Option FieldType} {d mc2 ms2 idx : Nat} {av rest : List Value} {K2 : Option Value → x_W → Prop} {host : String} (hd : decode cc pc = .ok (.invokestatic idx, 3)) (hn : pc + 3 = n) (hM : x_M y2 cc2 nL2 rt2 d mc2 ms2 av w K2) (hst : Cond.static y2 ∈ x_GT) (hcode : Cond.code y2 cc2 nL2 rt2 ∈ x_GT) (hini : Cond.initialized y2.cls ∈ x_GT) (hlk : Cond.methodLinkNest y.cls idx y2 host ∈ x_NW) (hd2 : y2.cls ≠ "java/lang/invoke/MethodHandle" ∧ y2.cls ≠ "java/lang/invoke/VarHandle" ∧ (parseMethodDescriptor y2.desc).map (fun d => d.parameters.length) = some av.length) (hR : d + 1 ≤ R.frames ∧ 8 + (nL2 + 11) + 60 * d ≤ R.locals) (hf : nc + mc2 ≤ R.cells ∧ ns + ms2 ≤ R.slots) (hcat : (rest.map fun v => v.category).sum ≤ 8) (k : ∀ (r : Option Value) (w' : x_W), K2 r w' → x_G SC y cc nL rt R QF n L (r.toList ++ rest) w' (nc + mc2) (ns + ms2)) : x_G SC y cc nL rt R QF pc L (av.reverse ++ rest) w nc ns := by
  intro p l e s m args below meth c D cI base b H locs ls C I
  subst hn
  refine x_size C I fun hz => ?_
  refine x_back I hz (va_runSN (As := av.map (x_tr base b)) (rest := rest.map (x_tr base b)) ⟨C.1, C.2.1, C.2.2.1, C.2.2.2.1, C.2.2.2.2.1⟩ (hM l D cI base b) ⟨(va_cnB av.length C.2.2.2.2.1 (x_gd hcode) rfl rfl rfl (C.2.2.2.2.2.2.1 _ hlk) (C.2.2.2.2.1 _ hini) hd2 hR), C.2.2.2.2.1 _ hst, trivial⟩ ⟨x_blind, fun U hU hW => ⟨rfl, by rw [hU]; exact hz, by rw [hU]; exact I.2.1, va_K.moved hW.alike C.2.2.2.2.2.1, x_warm hW C.2.2.2.2.2.2.1⟩⟩ rfl (by rw [List.length_map]) I.2.2.2.1 (by show List.map _ _ = _; rw [List.map_append, List.map_reverse]) (lv_room (by rw [x_cat]; exact hcat)) hd hf) (fun r w' H1 locs1 hK I' => ?_)
  have := k r w' hK p l e s m args below meth c D cI base b H1 locs1 ls C I'
  rw [List.map_append] at this
  rw [show (r.map (x_tr base b)).toList = r.toList.map (x_tr base b) by cases r <;> rfl]
  exact this
theorem g_callVN (n : Nat) {y2 : MethodName} {cc2 : ByteArray} {nL2 : Nat} {rt2 : Option FieldType} {d mc2 ms2 idx : Nat} {av rest : List Value} {K2 : Option Value → x_W → Prop} {host : String} {i ci : Nat} {q2 : vw_C} {fs : List Value} (hd : decode cc pc = .ok (.invokevirtual idx, 3)) (hn : pc + 3 = n) (hM : x_M y2 cc2 nL2 rt2 d mc2 ms2 (.ref i :: av) w K2) (hw : w[i]? = some (.inr (ci, fs))) (hc : x_cl[ci]? = some q2) (hq : q2.1 = y2.cls) (hinst : Cond.instanceMethod y2 ∈ x_GT) (hsel : Cond.selects y2.cls y2 y2 ∈ x_GT) (hcode : Cond.code y2 cc2 nL2 rt2 ∈ x_GT) (hini : Cond.initialized y2.cls ∈ x_GT) (hlk : Cond.methodLinkNest y.cls idx y2 host ∈ x_NW) (hd2 : y2.cls ≠ "java/lang/invoke/MethodHandle" ∧ y2.cls ≠ "java/lang/invoke/VarHandle" ∧ (parseMethodDescriptor y2.desc).map (fun d => d.parameters.length) = some av.length) (hR : d + 1 ≤ R.frames ∧ 8 + (nL2 + 11) + 60 * d ≤ R.locals) (hf : nc + mc2 ≤ R.cells ∧ ns + ms2 ≤ R.slots) (hcat : (rest.map fun v => v.category).sum ≤ 8) (k : ∀ (r : Option Value) (w' : x_W), K2 r w' → x_G SC y cc nL rt R QF n L (r.toList ++ rest) w' (nc + mc2) (ns + ms2)) : x_G SC y cc nL rt R QF pc L (av.reverse ++ .ref i :: rest) w nc ns := by
  intro p l e s m args below meth c D cI base b H locs ls C I
  subst hn
  refine x_size C I fun hz => ?_
  refine x_back I hz (va_runVN (C := y2.cls) (b := base + i) (As := av.map (x_tr base b)) (rest := rest.map (x_tr base b)) ⟨C.1, C.2.1, C.2.2.1, C.2.2.2.1, C.2.2.2.2.1⟩ (hM l D cI base b) ⟨(va_cnB av.length C.2.2.2.2.1 (x_gd hcode) rfl rfl rfl (C.2.2.2.2.2.2.1 _ hlk) (C.2.2.2.2.1 _ hini) hd2 hR), C.2.2.2.2.1 _ hinst, C.2.2.2.2.1 _ hsel⟩ ⟨x_blind, by rw [← hq]; exact va_recv C.2.2.2.2.2.1 I.2.1 hc (x_cw_at hw), fun U hU hW => ⟨rfl, by rw [hU]; exact hz, by rw [hU]; exact I.2.1, va_K.moved hW.alike C.2.2.2.2.2.1, x_warm hW C.2.2.2.2.2.2.1⟩⟩ rfl (by rw [List.length_map]) I.2.2.2.1 (by show List.map _ _ = _; rw [List.map_append, List.map_reverse]; rfl) (lv_room (by rw [x_cat]; exact hcat)) hd hf) (fun r w' H1 locs1 hK I' => ?_)
  have := k r w' hK p l e s m args below meth c D cI base b H1 locs1 ls C I'
  rw [List.map_append] at this
  rw [show (r.map (x_tr base b)).toList = r.toList.map (x_tr base b) by cases r <;> rfl]
  exact this
theorem g_callIN (n : Nat) {y2 : MethodName} {cc2 : ByteArray} {nL2 : Nat} {d mc2 ms2 idx : Nat} {av rest : List Value} {K2 : Option Value → x_W → Prop} {host : String} {i : Nat} (hd : decode cc pc = .ok (.invokespecial idx, 3)) (hn : pc + 3 = n) (hM : x_M y2 cc2 nL2 none d mc2 ms2 (.ref i :: av) w K2) (hinit : y2.name = "<init>") (hinst : Cond.instanceMethod y2 ∈ x_GT) (hcode : Cond.code y2 cc2 nL2 none ∈ x_GT) (hini : Cond.initialized y2.cls ∈ x_GT) (hlk : Cond.methodLinkNest y.cls idx y2 host ∈ x_NW) (hd2 : y2.cls ≠ "java/lang/invoke/MethodHandle" ∧ y2.cls ≠ "java/lang/invoke/VarHandle" ∧ (parseMethodDescriptor y2.desc).map (fun d => d.parameters.length) = some av.length) (hR : d + 1 ≤ R.frames ∧ 8 + (nL2 + 11) + 60 * d ≤ R.locals) (hf : nc + mc2 ≤ R.cells ∧ ns + ms2 ≤ R.slots) (hcat : (rest.map fun v => v.category).sum ≤ 8) (k : ∀ (r : Option Value) (w' : x_W), K2 r w' → x_G SC y cc nL rt R QF n L (r.toList ++ rest) w' (nc + mc2) (ns + ms2)) : x_G SC y cc nL rt R QF pc L (av.reverse ++ .ref i :: rest) w nc ns := by
  intro p l e s m args below meth c D cI base b H locs ls C I
  subst hn
  refine x_size C I fun hz => ?_
  refine x_back I hz (va_runIN (b := base + i) (As := av.map (x_tr base b)) (rest := rest.map (x_tr base b)) ⟨C.1, C.2.1, C.2.2.1, C.2.2.2.1, C.2.2.2.2.1⟩ (hM l D cI base b) ⟨(va_cnB av.length C.2.2.2.2.1 (x_gd hcode) rfl rfl rfl (C.2.2.2.2.2.2.1 _ hlk) (C.2.2.2.2.1 _ hini) hd2 hR), hinit, C.2.2.2.2.1 _ hinst⟩ ⟨x_blind, fun U hU hW => ⟨rfl, by rw [hU]; exact hz, by rw [hU]; exact I.2.1, va_K.moved hW.alike C.2.2.2.2.2.1, x_warm hW C.2.2.2.2.2.2.1⟩⟩ rfl (by rw [List.length_map]) I.2.2.2.1 (by show List.map _ _ = _; rw [List.map_append, List.map_reverse]; rfl) (lv_room (by rw [x_cat]; exact hcat)) hd hf) (fun r w' H1 locs1 hK I' => ?_)
  have := k r w' hK p l e s m args below meth c D cI base b H1 locs1 ls C I'
  rw [List.map_append] at this
  rw [show (r.map (x_tr base b)).toList = r.toList.map (x_tr base b) by cases r <;> rfl]
  exact this
theorem g_objInit (n : Nat) {i idx : Nat} (hd : decode cc pc = .ok (.invokespecial idx, 3)) (hn : pc + 3 = n) (hlk : Cond.methodLink y.cls idx Lib.objectInit ∈ x_GT) (hinst : Cond.instanceMethod Lib.objectInit ∈ x_GT) (hcode : Cond.code Lib.objectInit ⟨#[0xb1]⟩ 1 none ∈ x_GT) (h1 : 1 ≤ R.frames) (h2 : 60 ≤ R.locals) (hcat : (st.map fun v => v.category).sum ≤ 8) (k : x_G SC y cc nL rt R QF n L st w nc ns) : x_G SC y cc nL rt R QF pc L (.ref i :: st) w nc ns := by
  intro p l e s m args below meth c D cI base b H locs ls C I
  subst hn
  refine W.objInit C.1 C.2.1 C.2.2.2.1 (C.2.2.2.2.1 _ hlk) (C.2.2.2.2.1 _ hinst) (C.2.2.2.2.1 _ hcode) rfl (by rw [C.2.2.1]; exact I.2.2.2.1) rfl hd h1 (by show 2 * 0 + ((st.map (x_tr base b)).map fun v => v.category).sum + 12 ≤ R.locals; rw [x_cat]; omega) ?_
  exact k p l e s m args below meth c D cI base b H locs ls C I
theorem g_mmax (n : Nat) {idx : Nat} {x z : Int32} (hd : decode cc pc = .ok (.invokestatic idx, 3)) (hn : pc + 3 = n) (hlk : Cond.methodLink y.cls idx Lib.Math.max.name ∈ x_GT) (hst : Cond.static Lib.Math.max.name ∈ x_GT) (hini : Cond.initialized "java/lang/Math" ∈ x_GT) (hcode : Cond.code Lib.Math.max.name Lib.Math.max.code 2 (some .int) ∈ x_GT) (h1 : 1 ≤ R.frames) (h2 : 60 ≤ R.locals) (hc : nc ≤ R.cells) (hs : ns ≤ R.slots) (hcat : (st.map fun v => v.category).sum ≤ 8) (k : x_G SC y cc nL rt R QF n L (.int (if x < z then z else x) :: st) w nc ns) : x_G SC y cc nL rt R QF pc L (.int z :: .int x :: st) w nc ns := by
  intro p l e s m args below meth c D cI base b H locs ls C I
  subst hn
  exact va_mmax C.1 C.2.1 (by rw [C.2.2.1]; exact I.2.2.2.1.symm) C.2.2.2.1 (C.2.2.2.2.1 _ hlk) (C.2.2.2.2.1 _ hst) (C.2.2.2.2.1 _ hini) (C.2.2.2.2.1 _ hcode) h1 (by rw [x_cat]; omega) hc hs hd (k p l e s m args below meth c D cI base b H locs ls C I)
theorem g_mmin (n : Nat) {idx : Nat} {x z : Int32} (hd : decode cc pc = .ok (.invokestatic idx, 3)) (hn : pc + 3 = n) (hlk : Cond.methodLink y.cls idx Lib.Math.min.name ∈ x_GT) (hst : Cond.static Lib.Math.min.name ∈ x_GT) (hini : Cond.initialized "java/lang/Math" ∈ x_GT) (hcode : Cond.code Lib.Math.min.name Lib.Math.min.code 2 (some .int) ∈ x_GT) (h1 : 1 ≤ R.frames) (h2 : 60 ≤ R.locals) (hc : nc ≤ R.cells) (hs : ns ≤ R.slots) (hcat : (st.map fun v => v.category).sum ≤ 8) (k : x_G SC y cc nL rt R QF n L (.int (if z < x then z else x) :: st) w nc ns) : x_G SC y cc nL rt R QF pc L (.int z :: .int x :: st) w nc ns := by
  intro p l e s m args below meth c D cI base b H locs ls C I
  subst hn
  exact va_mmin C.1 C.2.1 (by rw [C.2.2.1]; exact I.2.2.2.1.symm) C.2.2.2.1 (C.2.2.2.2.1 _ hlk) (C.2.2.2.2.1 _ hst) (C.2.2.2.2.1 _ hini) (C.2.2.2.2.1 _ hcode) h1 (by rw [x_cat]; omega) hc hs hd (k p l e s m args below meth c D cI base b H locs ls C I)
theorem x_cp_some {w w' : x_W} {i j : Nat} {sp dp n : Int32} (h : x_cp w i sp j dp n = some w') : ∃ n0 f n1 f1, w[i]? = some (.inl (n0, f)) ∧ w[j]? = some (.inl (n1, f1)) ∧ ¬ sp < 0 ∧ ¬ dp < 0 ∧ ¬ n < 0 ∧ sp.toNatClampNeg + n.toNatClampNeg ≤ n0 ∧ dp.toNatClampNeg + n.toNatClampNeg ≤ n1 ∧ w' = w.set j (.inl (n1, va_cpy f f1 sp.toNatClampNeg dp.toNatClampNeg n.toNatClampNeg)) := by
  unfold x_cp at h
  split at h
  · next a c ha hc =>
    split at h
    · cases h
    · next hn =>
      simp only [not_or, Nat.not_lt] at hn
      exact ⟨a.1, a.2, c.1, c.2, ha, hc, hn.1, hn.2.1, hn.2.2.1, hn.2.2.2.1, hn.2.2.2.2, (Option.some.inj h).symm⟩
  · cases h
def x_kcp (own : String) (idx : Nat) : Prop := Cond.methodLink own idx arraycopyName ∈ x_GT ∧ Cond.native arraycopyName ∈ x_GT ∧ Cond.static arraycopyName ∈ x_GT ∧ Cond.initialized "java/lang/System" ∈ x_GT
theorem g_copy (n : Nat) {idx i j : Nat} {sp dp z : Int32} {w' : x_W} (hd : decode cc pc = .ok (.invokestatic idx, 3)) (hn : pc + 3 = n) (S : x_kcp y.cls idx) (h1 : 1 ≤ R.frames) (h2 : 60 ≤ R.locals) (hcat : (st.map fun v => v.category).sum ≤ 8) (hf : x_cp w i sp j dp z = some w') (k : x_G SC y cc nL rt R QF n L st w' nc ns) : x_G SC y cc nL rt R QF pc L (.int z :: .int dp :: .ref j :: .int sp :: .ref i :: st) w nc ns := by
  intro p l e s m args below meth c D cI base b H locs ls C I
  subst hn
  obtain ⟨n0, f, n1, f1, a1, a2, a3, a4, a5, a6, a7, rfl⟩ := x_cp_some hf
  refine va_copyi C.1 C.2.1 (by rw [C.2.2.1]; exact I.2.2.2.1.symm) C.2.2.2.1 (C.2.2.2.2.1 _ S.1) (C.2.2.2.2.1 _ S.2.1) (C.2.2.2.2.1 _ S.2.2.1) (C.2.2.2.2.1 _ S.2.2.2) C.2.2.2.2.2.1 I.2.1 (x_D w) I.2.2.1 i j 0 0 (ty := .int) (x_cw_at a1) (x_cw_at a2) rfl rfl rfl a3 a4 a5 a6 a7 (fun _ _ => rfl) h1 ?_ hd (fun H1 locs1 hP _ hS => ?_)
  · rw [x_cat]
    have : nativeFrameWords "java/lang/System" "arraycopy" 5 + 11 ≤ 50 := by decide +kernel
    omega
  · have e9 : ((base + j, Sum.inl (cI, n1, .inl (va_cpy f f1 sp.toNatClampNeg dp.toNatClampNeg z.toNatClampNeg))) : Nat × va_E) = (base + j, x_cc base b cI (.inl (n1, va_cpy f f1 sp.toNatClampNeg dp.toNatClampNeg z.toNatClampNeg))) := rfl
    rw [e9, x_cw_st] at hP
    exact k p l e s m args below meth c D cI base b H1 locs1 ls C ⟨by rw [List.length_set]; exact I.1, hP, hS, I.2.2.2⟩
theorem g_ldc (n : Nat) {idx : Nat} (v : Int32) (hd : decode cc pc = .ok (.ldc idx, 2)) (hn : pc + 2 = n) (hc : Cond.constant y.cls idx v ∈ x_GT) (k : x_G SC y cc nL rt R QF n L (.int v :: st) w nc ns) : x_G SC y cc nL rt R QF pc L st w nc ns := by
  intro p l e s m args below meth c D cI base b H locs ls C I
  subst hn
  exact lv_ldc C.1 C.2.1 C.2.2.2.1 (C.2.2.2.2.1 _ hc) hd (k p l e s m args below meth c D cI base b H locs ls C I)
theorem g_ldcw (n : Nat) {idx : Nat} (v : Int32) (hd : decode cc pc = .ok (.ldc_w idx, 3)) (hn : pc + 3 = n) (hc : Cond.constant y.cls idx v ∈ x_GT) (k : x_G SC y cc nL rt R QF n L (.int v :: st) w nc ns) : x_G SC y cc nL rt R QF pc L st w nc ns := by
  intro p l e s m args below meth c D cI base b H locs ls C I
  subst hn
  exact lv_ldcw C.1 C.2.1 C.2.2.2.1 (C.2.2.2.2.1 _ hc) hd (k p l e s m args below meth c D cI base b H locs ls C I)
def x_kS (own : String) (idx : Nat) (y2 : MethodName) (cc2 : ByteArray) (nL2 : Nat) (rt2 : Option FieldType) (n : Nat) : Prop := Cond.static y2 ∈ x_GT ∧ Cond.code y2 cc2 nL2 rt2 ∈ x_GT ∧ Cond.initialized y2.cls ∈ x_GT ∧ Cond.methodLink own idx y2 ∈ x_GT ∧ (y2.cls ≠ "java/lang/invoke/MethodHandle" ∧ y2.cls ≠ "java/lang/invoke/VarHandle" ∧ (parseMethodDescriptor y2.desc).map (fun d => d.parameters.length) = some n)
def x_kV (own : String) (idx : Nat) (y2 : MethodName) (cc2 : ByteArray) (nL2 : Nat) (rt2 : Option FieldType) (n : Nat) (ci : Nat) : Prop := Cond.instanceMethod y2 ∈ x_GT ∧ Cond.selects y2.cls y2 y2 ∈ x_GT ∧ Cond.code y2 cc2 nL2 rt2 ∈ x_GT ∧ Cond.initialized y2.cls ∈ x_GT ∧ Cond.methodLink own idx y2 ∈ x_GT ∧ (y2.cls ≠ "java/lang/invoke/MethodHandle" ∧ y2.cls ≠ "java/lang/invoke/VarHandle" ∧ (parseMethodDescriptor y2.desc).map (fun d => d.parameters.length) = some n) ∧ (x_cl[ci]?).map (fun q => q.1) = some y2.cls
def x_kI (own : String) (idx : Nat) (y2 : MethodName) (cc2 : ByteArray) (nL2 : Nat) (n : Nat) : Prop := y2.name = "<init>" ∧ Cond.instanceMethod y2 ∈ x_GT ∧ Cond.code y2 cc2 nL2 none ∈ x_GT ∧ Cond.initialized y2.cls ∈ x_GT ∧ Cond.methodLink own idx y2 ∈ x_GT ∧ (y2.cls ≠ "java/lang/invoke/MethodHandle" ∧ y2.cls ≠ "java/lang/invoke/VarHandle" ∧ (parseMethodDescriptor y2.desc).map (fun d => d.parameters.length) = some n)
theorem g_cS (n : Nat) (rv : Option Value) (w2 : x_W) (av rest : List Value) {y2 : MethodName} {cc2 : ByteArray} {nL2 : Nat} {rt2 : Option FieldType} {d idx : Nat} (hd : decode cc pc = .ok (.invokestatic idx, 3)) (hn : pc + 3 = n) (hM : ∀ K2 : Option Value → x_W → Prop, K2 rv w2 → x_M y2 cc2 nL2 rt2 d 0 0 av w K2) (S : x_kS y.cls idx y2 cc2 nL2 rt2 av.length) (hR : d + 1 ≤ R.frames ∧ 8 + (nL2 + 11) + 60 * d ≤ R.locals) (hf : nc + 0 ≤ R.cells ∧ ns + 0 ≤ R.slots) (hcat : (rest.map fun v => v.category).sum ≤ 8) (hst : av.reverse ++ rest = st) (k : x_G SC y cc nL rt R QF n L (rv.toList ++ rest) w2 nc ns) : x_G SC y cc nL rt R QF pc L st w nc ns := by
  subst hst
  exact g_callS n hd hn (hM (fun r q => rv = r ∧ w2 = q) ⟨rfl, rfl⟩) S.1 S.2.1 S.2.2.1 S.2.2.2.1 S.2.2.2.2 hR hf hcat (fun r w' hq => by obtain ⟨rfl, rfl⟩ := hq; exact k)
theorem g_cV (n : Nat) (rv : Option Value) (w2 : x_W) (av rest : List Value) {y2 : MethodName} {cc2 : ByteArray} {nL2 : Nat} {rt2 : Option FieldType} {d idx : Nat} {i ci : Nat} (hd : decode cc pc = .ok (.invokevirtual idx, 3)) (hn : pc + 3 = n) (hM : ∀ K2 : Option Value → x_W → Prop, K2 rv w2 → x_M y2 cc2 nL2 rt2 d 0 0 (.ref i :: av) w K2) (hw : ∃ fs, w[i]? = some (.inr (ci, fs))) (S : x_kV y.cls idx y2 cc2 nL2 rt2 av.length ci) (hR : d + 1 ≤ R.frames ∧ 8 + (nL2 + 11) + 60 * d ≤ R.locals) (hf : nc + 0 ≤ R.cells ∧ ns + 0 ≤ R.slots) (hcat : (rest.map fun v => v.category).sum ≤ 8) (hst : av.reverse ++ .ref i :: rest = st) (k : x_G SC y cc nL rt R QF n L (rv.toList ++ rest) w2 nc ns) : x_G SC y cc nL rt R QF pc L st w nc ns := by
  subst hst
  obtain ⟨fs, hw⟩ := hw
  obtain ⟨q2, hc, hq⟩ := Option.map_eq_some_iff.mp S.2.2.2.2.2.2
  exact g_callV n hd hn (hM (fun r q => rv = r ∧ w2 = q) ⟨rfl, rfl⟩) hw hc hq S.1 S.2.1 S.2.2.1 S.2.2.2.1 S.2.2.2.2.1 S.2.2.2.2.2.1 hR hf hcat (fun r w' hq => by obtain ⟨rfl, rfl⟩ := hq; exact k)
theorem g_cI (n : Nat) (rv : Option Value) (w2 : x_W) (av rest : List Value) {y2 : MethodName} {cc2 : ByteArray} {nL2 : Nat} {d idx : Nat} {mc2 ms2 : Nat} {i : Nat} (hd : decode cc pc = .ok (.invokespecial idx, 3)) (hn : pc + 3 = n) (hM : ∀ K2 : Option Value → x_W → Prop, K2 rv w2 → x_M y2 cc2 nL2 none d mc2 ms2 (.ref i :: av) w K2) (S : x_kI y.cls idx y2 cc2 nL2 av.length) (hR : d + 1 ≤ R.frames ∧ 8 + (nL2 + 11) + 60 * d ≤ R.locals) (hf : nc + mc2 ≤ R.cells ∧ ns + ms2 ≤ R.slots) (hcat : (rest.map fun v => v.category).sum ≤ 8) (hst : av.reverse ++ .ref i :: rest = st) (k : x_G SC y cc nL rt R QF n L (rv.toList ++ rest) w2 (nc + mc2) (ns + ms2)) : x_G SC y cc nL rt R QF pc L st w nc ns := by
  subst hst
  exact g_callI n hd hn (hM (fun r q => rv = r ∧ w2 = q) ⟨rfl, rfl⟩) S.1 S.2.1 S.2.2.1 S.2.2.2.1 S.2.2.2.2.1 S.2.2.2.2.2 hR hf hcat (fun r w' hq => by obtain ⟨rfl, rfl⟩ := hq; exact k)
def x_kSN (own : String) (idx : Nat) (y2 : MethodName) (cc2 : ByteArray) (nL2 : Nat) (rt2 : Option FieldType) (n : Nat) (host : String) : Prop := Cond.static y2 ∈ x_GT ∧ Cond.code y2 cc2 nL2 rt2 ∈ x_GT ∧ Cond.initialized y2.cls ∈ x_GT ∧ Cond.methodLinkNest own idx y2 host ∈ x_NW ∧ (y2.cls ≠ "java/lang/invoke/MethodHandle" ∧ y2.cls ≠ "java/lang/invoke/VarHandle" ∧ (parseMethodDescriptor y2.desc).map (fun d => d.parameters.length) = some n)
def x_kVN (own : String) (idx : Nat) (y2 : MethodName) (cc2 : ByteArray) (nL2 : Nat) (rt2 : Option FieldType) (n : Nat) (ci : Nat) (host : String) : Prop := Cond.instanceMethod y2 ∈ x_GT ∧ Cond.selects y2.cls y2 y2 ∈ x_GT ∧ Cond.code y2 cc2 nL2 rt2 ∈ x_GT ∧ Cond.initialized y2.cls ∈ x_GT ∧ Cond.methodLinkNest own idx y2 host ∈ x_NW ∧ (y2.cls ≠ "java/lang/invoke/MethodHandle" ∧ y2.cls ≠ "java/lang/invoke/VarHandle" ∧ (parseMethodDescriptor y2.desc).map (fun d => d.parameters.length) = some n) ∧ (x_cl[ci]?).map (fun q => q.1) = some y2.cls
def x_kIN (own : String) (idx : Nat) (y2 : MethodName) (cc2 : ByteArray) (nL2 : Nat) (n : Nat) (host : String) : Prop := y2.name = "<init>" ∧ Cond.instanceMethod y2 ∈ x_GT ∧ Cond.code y2 cc2 nL2 none ∈ x_GT ∧ Cond.initialized y2.cls ∈ x_GT ∧ Cond.methodLinkNest own idx y2 host ∈ x_NW ∧ (y2.cls ≠ "java/lang/invoke/MethodHandle" ∧ y2.cls ≠ "java/lang/invoke/VarHandle" ∧ (parseMethodDescriptor y2.desc).map (fun d => d.parameters.length) = some n)
theorem g_cSN (n : Nat) (rv : Option Value) (w2 : x_W) (av rest : List Value) {y2 : MethodName} {cc2 : ByteArray} {nL2 : Nat} {rt2 : Option FieldType} {d idx : Nat} {host : String} (hd : decode cc pc = .ok (.invokestatic idx, 3)) (hn : pc + 3 = n) (hM : ∀ K2 : Option Value → x_W → Prop, K2 rv w2 → x_M y2 cc2 nL2 rt2 d 0 0 av w K2) (S : x_kSN y.cls idx y2 cc2 nL2 rt2 av.length host) (hR : d + 1 ≤ R.frames ∧ 8 + (nL2 + 11) + 60 * d ≤ R.locals) (hf : nc + 0 ≤ R.cells ∧ ns + 0 ≤ R.slots) (hcat : (rest.map fun v => v.category).sum ≤ 8) (hst : av.reverse ++ rest = st) (k : x_G SC y cc nL rt R QF n L (rv.toList ++ rest) w2 nc ns) : x_G SC y cc nL rt R QF pc L st w nc ns := by
  subst hst
  exact g_callSN n hd hn (hM (fun r q => rv = r ∧ w2 = q) ⟨rfl, rfl⟩) S.1 S.2.1 S.2.2.1 S.2.2.2.1 S.2.2.2.2 hR hf hcat (fun r w' hq => by obtain ⟨rfl, rfl⟩ := hq; exact k)
theorem g_cVN (n : Nat) (rv : Option Value) (w2 : x_W) (av rest : List Value) {y2 : MethodName} {cc2 : ByteArray} {nL2 : Nat} {rt2 : Option FieldType} {d idx : Nat} {host : String} {i ci : Nat} (hd : decode cc pc = .ok (.invokevirtual idx, 3)) (hn : pc + 3 = n) (hM : ∀ K2 : Option Value → x_W → Prop, K2 rv w2 → x_M y2 cc2 nL2 rt2 d 0 0 (.ref i :: av) w K2) (hw : ∃ fs, w[i]? = some (.inr (ci, fs))) (S : x_kVN y.cls idx y2 cc2 nL2 rt2 av.length ci host) (hR : d + 1 ≤ R.frames ∧ 8 + (nL2 + 11) + 60 * d ≤ R.locals) (hf : nc + 0 ≤ R.cells ∧ ns + 0 ≤ R.slots) (hcat : (rest.map fun v => v.category).sum ≤ 8) (hst : av.reverse ++ .ref i :: rest = st) (k : x_G SC y cc nL rt R QF n L (rv.toList ++ rest) w2 nc ns) : x_G SC y cc nL rt R QF pc L st w nc ns := by
  subst hst
  obtain ⟨fs, hw⟩ := hw
  obtain ⟨q2, hc, hq⟩ := Option.map_eq_some_iff.mp S.2.2.2.2.2.2
  exact g_callVN n hd hn (hM (fun r q => rv = r ∧ w2 = q) ⟨rfl, rfl⟩) hw hc hq S.1 S.2.1 S.2.2.1 S.2.2.2.1 S.2.2.2.2.1 S.2.2.2.2.2.1 hR hf hcat (fun r w' hq => by obtain ⟨rfl, rfl⟩ := hq; exact k)
theorem g_cIN (n : Nat) (rv : Option Value) (w2 : x_W) (av rest : List Value) {y2 : MethodName} {cc2 : ByteArray} {nL2 : Nat} {d idx : Nat} {mc2 ms2 : Nat} {host : String} {i : Nat} (hd : decode cc pc = .ok (.invokespecial idx, 3)) (hn : pc + 3 = n) (hM : ∀ K2 : Option Value → x_W → Prop, K2 rv w2 → x_M y2 cc2 nL2 none d mc2 ms2 (.ref i :: av) w K2) (S : x_kIN y.cls idx y2 cc2 nL2 av.length host) (hR : d + 1 ≤ R.frames ∧ 8 + (nL2 + 11) + 60 * d ≤ R.locals) (hf : nc + mc2 ≤ R.cells ∧ ns + ms2 ≤ R.slots) (hcat : (rest.map fun v => v.category).sum ≤ 8) (hst : av.reverse ++ .ref i :: rest = st) (k : x_G SC y cc nL rt R QF n L (rv.toList ++ rest) w2 (nc + mc2) (ns + ms2)) : x_G SC y cc nL rt R QF pc L st w nc ns := by
  subst hst
  exact g_callIN n hd hn (hM (fun r q => rv = r ∧ w2 = q) ⟨rfl, rfl⟩) S.1 S.2.1 S.2.2.1 S.2.2.2.1 S.2.2.2.2.1 S.2.2.2.2.2 hR hf hcat (fun r w' hq => by obtain ⟨rfl, rfl⟩ := hq; exact k)
theorem x_rm {d mc ms nL2 : Nat} (hd : 1 ≤ d) (hn : nL2 ≤ 41) : (d - 1) + 1 ≤ (x_room d mc ms).frames ∧ 8 + (nL2 + 11) + 60 * (d - 1) ≤ (x_room d mc ms).locals := by
  constructor
  · show (d - 1) + 1 ≤ d
    omega
  · show 8 + (nL2 + 11) + 60 * (d - 1) ≤ 60 * d
    omega
theorem x_r1 {d mc ms : Nat} (hd : 1 ≤ d) : 1 ≤ (x_room d mc ms).frames := hd
theorem x_r60 {d mc ms : Nat} (hd : 1 ≤ d) : 60 ≤ (x_room d mc ms).locals := by
  show 60 ≤ 60 * d
  omega
theorem x_inc {x : Int32} (v : Int32) {j : Int} (h : Int32.ofInt j = v) : x + Int32.ofInt j = x + v := by rw [h]
theorem x_fi_ob {w : x_W} {i ci k : Nat} {x : Int32} (h : x_fi w i ci k = some x) : ∃ fs, w[i]? = some (.inr (ci, fs)) := by
  obtain ⟨fs, h1, -⟩ := x_fv_some (x_fi_some h)
  exact ⟨fs, h1⟩
theorem x_fr_ob {w : x_W} {i ci k : Nat} {x : Nat} (h : x_fr w i ci k = some x) : ∃ fs, w[i]? = some (.inr (ci, fs)) := by
  obtain ⟨fs, h1, -⟩ := x_fv_some (x_fr_some h)
  exact ⟨fs, h1⟩
def x_ob (w : x_W) (i ci : Nat) : Option Unit := match w[i]? with
  | some (.inr o) => if o.1 = ci then some () else none
  | _ => none
theorem x_ob_some {w : x_W} {i ci : Nat} {u : Unit} (h : x_ob w i ci = some u) : ∃ fs, w[i]? = some (.inr (ci, fs)) := by
  unfold x_ob at h
  split at h
  · next o ho =>
    split at h
    · next hc => exact ⟨o.2, by rw [ho, ← hc]⟩
    · cases h
  · cases h
/-- how often a loop may turn: far above what any needs -/
def x_F : Nat := 100000000
end XG
