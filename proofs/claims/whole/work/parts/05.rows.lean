/-! THE JUDGEMENT: the machine at a place of a method, its locals, stack and memory known -/
abbrev wsM (w : Wld) (μ : Mem) : va_W := wWs AL FL w μ
def wTy (w : Wld) : List (ClassId × FieldType) := [(w.2.1 0, .int), (w.2.1 1, .boolean), (w.2.1 2, .long), (w.2.1 3, .array .int), (w.2.1 4, .array .long)]
def wKn (w : Wld) (U : State) : Prop := va_K w.1 vwCl (wTy w) U ∧ (∀ μ, va_D w.2.2.2 (wsM w μ)) ∧ ∀ x ∈ NL, va_Nw x U
def wIs (w : Wld) (μ : Mem) (U : State) : Prop := va_P w.1 vwCl (wsM w μ) U.heap ∧ wKn w U
def rmL (n : Nat) : Room := { frames := n, cells := 0, slots := 0, locals := 40 * n }
def D1 (cc : ByteArray) (pc : Nat) (i : Instr) (pc' : Nat) : Prop := decode cc pc = .ok (i, 1) ∧ pc + 1 = pc'
def D2 (cc : ByteArray) (pc : Nat) (i : Instr) (pc' : Nat) : Prop := decode cc pc = .ok (i, 2) ∧ pc + 2 = pc'
def D3 (cc : ByteArray) (pc : Nat) (i : Instr) (pc' : Nat) : Prop := decode cc pc = .ok (i, 3) ∧ pc + 3 = pc'
def DJ (cc : ByteArray) (pc : Nat) (i : Int → Instr) (tgt pc' : Nat) : Prop := ∃ off : Int, decode cc pc = .ok (i off, 3) ∧ (pc : Int) + off = (tgt : Int) ∧ pc + 3 = pc'
def DN (n : Int) (v : Int32) : Prop := Int32.ofInt n = v
theorem wKn.warm {w : Wld} {s U : State} (hW : s.WarmedH U.vm) (h : wKn w s) : wKn w U := ⟨va_K.moved hW.alike h.1, h.2.1, NL_warm hW h.2.2⟩
theorem wIs.calling {w : Wld} {μ : Mem} {U : State} (g : JFrame) (mk : MethodId) (a : Array Value) (h : wIs w μ U) : wIs w μ (U.calling g mk a) := ⟨h.1, va_K.moved (u := U) (U := U.calling g mk a) (Vm.Alike.refl U.vm) h.2.1, h.2.2.1, NL_same (s := U) (U := U.calling g mk a) rfl h.2.2.2⟩
def Cxt (p : Program) (R : Room) (s : State) (m : MethodId) (args : Array Value) (meth : Method) (c : Code) (w : Wld) (cc : ByteArray) (nL : Nat) (own : String) (lev kc ns : Nat) : Prop :=
  p.tables.exec = Jvm.exec ∧ c.code = cc ∧ c.maxLocals = nL ∧ s.vm.findClass own = some m.cls ∧ (∀ x ∈ BW, x.before args s = true) ∧ wKn w s ∧ lev ≤ R.frames ∧ 40 * lev ≤ R.locals ∧ meth.locks = false ∧ kc ≤ R.cells ∧ ns ≤ R.slots
def Vj (p : Program) (l : Launch) (e : Env) (R : Room) (s : State) (m : MethodId) (args : Array Value) (below : List Frame) (meth : Method) (c : Code) (w : Wld) (nL kc ns : Nat) (Q : State → Prop) (pc : Nat) (L : List (Option Value)) (st : List Value) (μ : Mem) : Prop :=
  ∀ (H : Heap) (locs : List Loc) (ls : Array Slot), va_P w.1 vwCl (wsM w μ) H → va_S w.2.2.2 s.heap H locs → lH ls nL L → W p l e R s m args below meth c H locs kc ns Q (F0 m pc ls st)
section Rows
variable {p : Program} {l : Launch} {e : Env} {R : Room} {s : State} {m : MethodId} {args : Array Value} {below : List Frame} {meth : Method} {c : Code} {w : Wld} {cc : ByteArray} {nL : Nat} {own : String} {lev : Nat} {Q : State → Prop} {pc pc' tgt kc ns : Nat} {L : List (Option Value)} {st : List Value} {μ : Mem}
theorem V_sub {L' : List (Option Value)} (hs : lS L' L) (k : Vj p l e R s m args below meth c w nL kc ns Q pc L' st μ) : Vj p l e R s m args below meth c w nL kc ns Q pc L st μ :=
  fun H locs ls hP hS hl => k H locs ls hP hS (hl.sub (lS_at hs))
theorem V_goto (G : Cxt p R s m args meth c w cc nL own lev kc ns) (d : DJ cc pc .goto tgt pc') (k : Vj p l e R s m args below meth c w nL kc ns Q tgt L st μ) : Vj p l e R s m args below meth c w nL kc ns Q pc L st μ := by
  obtain ⟨off, d1, d2, -⟩ := d
  exact fun H locs ls hP hS hl => lv_goto G.1 G.2.1 d1 d2 (k H locs ls hP hS hl)
theorem V_iadd (G : Cxt p R s m args meth c w cc nL own lev kc ns) {x y : Int32} (d : D1 cc pc .iadd pc') (k : Vj p l e R s m args below meth c w nL kc ns Q pc' L (.int (x + y) :: st) μ) : Vj p l e R s m args below meth c w nL kc ns Q pc L (.int y :: .int x :: st) μ := by
  obtain ⟨d1, rfl⟩ := d
  exact fun H locs ls hP hS hl => lv_iadd G.1 G.2.1 d1 (k H locs ls hP hS hl)
theorem V_isub (G : Cxt p R s m args meth c w cc nL own lev kc ns) {x y : Int32} (d : D1 cc pc .isub pc') (k : Vj p l e R s m args below meth c w nL kc ns Q pc' L (.int (x - y) :: st) μ) : Vj p l e R s m args below meth c w nL kc ns Q pc L (.int y :: .int x :: st) μ := by
  obtain ⟨d1, rfl⟩ := d
  exact fun H locs ls hP hS hl => lv_isub G.1 G.2.1 d1 (k H locs ls hP hS hl)
theorem V_imul (G : Cxt p R s m args meth c w cc nL own lev kc ns) {x y : Int32} (d : D1 cc pc .imul pc') (k : Vj p l e R s m args below meth c w nL kc ns Q pc' L (.int (x * y) :: st) μ) : Vj p l e R s m args below meth c w nL kc ns Q pc L (.int y :: .int x :: st) μ := by
  obtain ⟨d1, rfl⟩ := d
  exact fun H locs ls hP hS hl => lv_imul G.1 G.2.1 d1 (k H locs ls hP hS hl)
theorem V_iand (G : Cxt p R s m args meth c w cc nL own lev kc ns) {x y : Int32} (d : D1 cc pc .iand pc') (k : Vj p l e R s m args below meth c w nL kc ns Q pc' L (.int (x &&& y) :: st) μ) : Vj p l e R s m args below meth c w nL kc ns Q pc L (.int y :: .int x :: st) μ := by
  obtain ⟨d1, rfl⟩ := d
  exact fun H locs ls hP hS hl => lv_iand G.1 G.2.1 d1 (k H locs ls hP hS hl)
theorem V_ior (G : Cxt p R s m args meth c w cc nL own lev kc ns) {x y : Int32} (d : D1 cc pc .ior pc') (k : Vj p l e R s m args below meth c w nL kc ns Q pc' L (.int (x ||| y) :: st) μ) : Vj p l e R s m args below meth c w nL kc ns Q pc L (.int y :: .int x :: st) μ := by
  obtain ⟨d1, rfl⟩ := d
  exact fun H locs ls hP hS hl => lv_ior G.1 G.2.1 d1 (k H locs ls hP hS hl)
theorem V_ixor (G : Cxt p R s m args meth c w cc nL own lev kc ns) {x y : Int32} (d : D1 cc pc .ixor pc') (k : Vj p l e R s m args below meth c w nL kc ns Q pc' L (.int (x ^^^ y) :: st) μ) : Vj p l e R s m args below meth c w nL kc ns Q pc L (.int y :: .int x :: st) μ := by
  obtain ⟨d1, rfl⟩ := d
  exact fun H locs ls hP hS hl => lv_ixor G.1 G.2.1 d1 (k H locs ls hP hS hl)
theorem V_ishl (G : Cxt p R s m args meth c w cc nL own lev kc ns) {x y : Int32} (d : D1 cc pc .ishl pc') (k : Vj p l e R s m args below meth c w nL kc ns Q pc' L (.int (x <<< (y &&& 31)) :: st) μ) : Vj p l e R s m args below meth c w nL kc ns Q pc L (.int y :: .int x :: st) μ := by
  obtain ⟨d1, rfl⟩ := d
  exact fun H locs ls hP hS hl => lv_ishl G.1 G.2.1 d1 (k H locs ls hP hS hl)
theorem V_ishr (G : Cxt p R s m args meth c w cc nL own lev kc ns) {x y : Int32} (d : D1 cc pc .ishr pc') (k : Vj p l e R s m args below meth c w nL kc ns Q pc' L (.int (x >>> (y &&& 31)) :: st) μ) : Vj p l e R s m args below meth c w nL kc ns Q pc L (.int y :: .int x :: st) μ := by
  obtain ⟨d1, rfl⟩ := d
  exact fun H locs ls hP hS hl => lv_ishr G.1 G.2.1 d1 (k H locs ls hP hS hl)
theorem V_iushr (G : Cxt p R s m args meth c w cc nL own lev kc ns) {x y : Int32} (d : D1 cc pc .iushr pc') (k : Vj p l e R s m args below meth c w nL kc ns Q pc' L (.int (x.toUInt32 >>> (y.toUInt32 &&& Int32.toUInt32 31)).toInt32 :: st) μ) : Vj p l e R s m args below meth c w nL kc ns Q pc L (.int y :: .int x :: st) μ := by
  obtain ⟨d1, rfl⟩ := d
  exact fun H locs ls hP hS hl => lv_iushr G.1 G.2.1 d1 rfl (k H locs ls hP hS hl)
theorem V_ineg (G : Cxt p R s m args meth c w cc nL own lev kc ns) {x : Int32} (d : D1 cc pc .ineg pc') (k : Vj p l e R s m args below meth c w nL kc ns Q pc' L (.int (-x) :: st) μ) : Vj p l e R s m args below meth c w nL kc ns Q pc L (.int x :: st) μ := by
  obtain ⟨d1, rfl⟩ := d
  exact fun H locs ls hP hS hl => lv_ineg G.1 G.2.1 d1 (k H locs ls hP hS hl)
theorem V_ladd (G : Cxt p R s m args meth c w cc nL own lev kc ns) {x y : Int64} (d : D1 cc pc .ladd pc') (k : Vj p l e R s m args below meth c w nL kc ns Q pc' L (.long (x + y) :: st) μ) : Vj p l e R s m args below meth c w nL kc ns Q pc L (.long y :: .long x :: st) μ := by
  obtain ⟨d1, rfl⟩ := d
  exact fun H locs ls hP hS hl => lv_ladd G.1 G.2.1 d1 (k H locs ls hP hS hl)
theorem V_lsub (G : Cxt p R s m args meth c w cc nL own lev kc ns) {x y : Int64} (d : D1 cc pc .lsub pc') (k : Vj p l e R s m args below meth c w nL kc ns Q pc' L (.long (x - y) :: st) μ) : Vj p l e R s m args below meth c w nL kc ns Q pc L (.long y :: .long x :: st) μ := by
  obtain ⟨d1, rfl⟩ := d
  exact fun H locs ls hP hS hl => lv_lsub G.1 G.2.1 d1 (k H locs ls hP hS hl)
theorem V_lmul (G : Cxt p R s m args meth c w cc nL own lev kc ns) {x y : Int64} (d : D1 cc pc .lmul pc') (k : Vj p l e R s m args below meth c w nL kc ns Q pc' L (.long (x * y) :: st) μ) : Vj p l e R s m args below meth c w nL kc ns Q pc L (.long y :: .long x :: st) μ := by
  obtain ⟨d1, rfl⟩ := d
  exact fun H locs ls hP hS hl => lv_lmul G.1 G.2.1 d1 (k H locs ls hP hS hl)
theorem V_land (G : Cxt p R s m args meth c w cc nL own lev kc ns) {x y : Int64} (d : D1 cc pc .land pc') (k : Vj p l e R s m args below meth c w nL kc ns Q pc' L (.long (x &&& y) :: st) μ) : Vj p l e R s m args below meth c w nL kc ns Q pc L (.long y :: .long x :: st) μ := by
  obtain ⟨d1, rfl⟩ := d
  exact fun H locs ls hP hS hl => lv_land G.1 G.2.1 d1 (k H locs ls hP hS hl)
theorem V_lor (G : Cxt p R s m args meth c w cc nL own lev kc ns) {x y : Int64} (d : D1 cc pc .lor pc') (k : Vj p l e R s m args below meth c w nL kc ns Q pc' L (.long (x ||| y) :: st) μ) : Vj p l e R s m args below meth c w nL kc ns Q pc L (.long y :: .long x :: st) μ := by
  obtain ⟨d1, rfl⟩ := d
  exact fun H locs ls hP hS hl => lv_lor G.1 G.2.1 d1 (k H locs ls hP hS hl)
theorem V_i2l (G : Cxt p R s m args meth c w cc nL own lev kc ns) {x : Int32} (d : D1 cc pc .i2l pc') (k : Vj p l e R s m args below meth c w nL kc ns Q pc' L (.long x.toInt64 :: st) μ) : Vj p l e R s m args below meth c w nL kc ns Q pc L (.int x :: st) μ := by
  obtain ⟨d1, rfl⟩ := d
  exact fun H locs ls hP hS hl => lv_i2l G.1 G.2.1 d1 rfl (k H locs ls hP hS hl)
theorem V_l2i (G : Cxt p R s m args meth c w cc nL own lev kc ns) {x : Int64} (d : D1 cc pc .l2i pc') (k : Vj p l e R s m args below meth c w nL kc ns Q pc' L (.int x.toInt32 :: st) μ) : Vj p l e R s m args below meth c w nL kc ns Q pc L (.long x :: st) μ := by
  obtain ⟨d1, rfl⟩ := d
  exact fun H locs ls hP hS hl => lv_l2i G.1 G.2.1 d1 rfl (k H locs ls hP hS hl)
theorem V_idiv (G : Cxt p R s m args meth c w cc nL own lev kc ns) {x y : Int32} {α : Type} {f : Int32 → Option α} {o : α} (d : D1 cc pc .idiv pc') (h : (mDv x y).bind f = some o) (k : ∀ z, f z = some o → Vj p l e R s m args below meth c w nL kc ns Q pc' L (.int z :: st) μ) : Vj p l e R s m args below meth c w nL kc ns Q pc L (.int y :: .int x :: st) μ := by
  obtain ⟨d1, rfl⟩ := d
  obtain ⟨z, hz, hf⟩ := bdS h
  unfold mDv at hz
  split at hz
  · cases hz
  · rename_i hy
    cases hz
    exact fun H locs ls hP hS hl => lv_idiv G.1 G.2.1 d1 hy (k _ hf H locs ls hP hS hl)
theorem V_irem (G : Cxt p R s m args meth c w cc nL own lev kc ns) {x y : Int32} {α : Type} {f : Int32 → Option α} {o : α} (d : D1 cc pc .irem pc') (h : (mRm x y).bind f = some o) (k : ∀ z, f z = some o → Vj p l e R s m args below meth c w nL kc ns Q pc' L (.int z :: st) μ) : Vj p l e R s m args below meth c w nL kc ns Q pc L (.int y :: .int x :: st) μ := by
  obtain ⟨d1, rfl⟩ := d
  obtain ⟨z, hz, hf⟩ := bdS h
  unfold mRm at hz
  split at hz
  · cases hz
  · rename_i hy
    cases hz
    exact fun H locs ls hP hS hl => lv_irem G.1 G.2.1 d1 hy (k _ hf H locs ls hP hS hl)
theorem V_ldiv (G : Cxt p R s m args meth c w cc nL own lev kc ns) {x y : Int64} {α : Type} {f : Int64 → Option α} {o : α} (d : D1 cc pc .ldiv pc') (h : (mDl x y).bind f = some o) (k : ∀ z, f z = some o → Vj p l e R s m args below meth c w nL kc ns Q pc' L (.long z :: st) μ) : Vj p l e R s m args below meth c w nL kc ns Q pc L (.long y :: .long x :: st) μ := by
  obtain ⟨d1, rfl⟩ := d
  obtain ⟨z, hz, hf⟩ := bdS h
  unfold mDl at hz
  split at hz
  · cases hz
  · rename_i hy
    cases hz
    exact fun H locs ls hP hS hl => lv_ldiv G.1 G.2.1 d1 hy (k _ hf H locs ls hP hS hl)
theorem V_iconst (G : Cxt p R s m args meth c w cc nL own lev kc ns) {n : Int} {v : Int32} (d : D1 cc pc (.iconst n) pc') (hv : DN n v) (k : Vj p l e R s m args below meth c w nL kc ns Q pc' L (.int v :: st) μ) : Vj p l e R s m args below meth c w nL kc ns Q pc L st μ := by
  obtain ⟨d1, rfl⟩ := d
  exact fun H locs ls hP hS hl => lv_iconst G.1 G.2.1 d1 hv (k H locs ls hP hS hl)
theorem V_bipush (G : Cxt p R s m args meth c w cc nL own lev kc ns) {n : Int} {v : Int32} (d : D2 cc pc (.bipush n) pc') (hv : (Int8.ofInt n).toInt32 = v) (k : Vj p l e R s m args below meth c w nL kc ns Q pc' L (.int v :: st) μ) : Vj p l e R s m args below meth c w nL kc ns Q pc L st μ := by
  obtain ⟨d1, rfl⟩ := d
  exact fun H locs ls hP hS hl => lv_bipush G.1 G.2.1 d1 hv (k H locs ls hP hS hl)
theorem V_sipush (G : Cxt p R s m args meth c w cc nL own lev kc ns) {n : Int} {v : Int32} (d : D3 cc pc (.sipush n) pc') (hv : (Int16.ofInt n).toInt32 = v) (k : Vj p l e R s m args below meth c w nL kc ns Q pc' L (.int v :: st) μ) : Vj p l e R s m args below meth c w nL kc ns Q pc L st μ := by
  obtain ⟨d1, rfl⟩ := d
  exact fun H locs ls hP hS hl => lv_sipush G.1 G.2.1 d1 hv (k H locs ls hP hS hl)
theorem V_lconst (G : Cxt p R s m args meth c w cc nL own lev kc ns) {n : Fin 2} {v : Int64} (d : D1 cc pc (.lconst n) pc') (hv : Int64.ofNat (n : Nat) = v) (k : Vj p l e R s m args below meth c w nL kc ns Q pc' L (.long v :: st) μ) : Vj p l e R s m args below meth c w nL kc ns Q pc L st μ := by
  obtain ⟨d1, rfl⟩ := d
  exact fun H locs ls hP hS hl => lv_lconst G.1 G.2.1 d1 hv (k H locs ls hP hS hl)
theorem V_ldc (G : Cxt p R s m args meth c w cc nL own lev kc ns) {i : Nat} {v : Int32} (hw : Cond.constant own i v ∈ BW) (d : D2 cc pc (.ldc i) pc') (k : Vj p l e R s m args below meth c w nL kc ns Q pc' L (.int v :: st) μ) : Vj p l e R s m args below meth c w nL kc ns Q pc L st μ := by
  obtain ⟨d1, rfl⟩ := d
  exact fun H locs ls hP hS hl => lv_ldc G.1 G.2.1 G.2.2.2.1 (G.2.2.2.2.1 _ hw) d1 (k H locs ls hP hS hl)
theorem V_ldc2 (G : Cxt p R s m args meth c w cc nL own lev kc ns) {i : Nat} {v : Int64} (hw : Cond.constantLong own i v ∈ BW) (d : D3 cc pc (.ldc2_w i) pc') (k : Vj p l e R s m args below meth c w nL kc ns Q pc' L (.long v :: st) μ) : Vj p l e R s m args below meth c w nL kc ns Q pc L st μ := by
  obtain ⟨d1, rfl⟩ := d
  exact fun H locs ls hP hS hl => lv_ldc2 G.1 G.2.1 G.2.2.2.1 (G.2.2.2.2.1 _ hw) d1 (k H locs ls hP hS hl)
theorem V_iload_n (G : Cxt p R s m args meth c w cc nL own lev kc ns) {j : Fin 4} {i : Nat} {x : Int32} (d : D1 cc pc (.iload_n j) pc') (hi : (j : Nat) = i) (hx : L[i]? = some (some (.int x))) (k : Vj p l e R s m args below meth c w nL kc ns Q pc' L (.int x :: st) μ) : Vj p l e R s m args below meth c w nL kc ns Q pc L st μ := by
  obtain ⟨d1, rfl⟩ := d
  exact fun H locs ls hP hS hl => lv_iload_n G.1 G.2.1 d1 hi (hl.at hx) (k H locs ls hP hS hl)
theorem V_iload (G : Cxt p R s m args meth c w cc nL own lev kc ns) {i : Nat} {x : Int32} (d : D2 cc pc (.iload i) pc') (hx : L[i]? = some (some (.int x))) (k : Vj p l e R s m args below meth c w nL kc ns Q pc' L (.int x :: st) μ) : Vj p l e R s m args below meth c w nL kc ns Q pc L st μ := by
  obtain ⟨d1, rfl⟩ := d
  exact fun H locs ls hP hS hl => lv_iload G.1 G.2.1 d1 (hl.at hx) (k H locs ls hP hS hl)
theorem V_lload_n (G : Cxt p R s m args meth c w cc nL own lev kc ns) {j : Fin 4} {i : Nat} {x : Int64} (d : D1 cc pc (.lload_n j) pc') (hi : (j : Nat) = i) (hx : L[i]? = some (some (.long x))) (k : Vj p l e R s m args below meth c w nL kc ns Q pc' L (.long x :: st) μ) : Vj p l e R s m args below meth c w nL kc ns Q pc L st μ := by
  obtain ⟨d1, rfl⟩ := d
  exact fun H locs ls hP hS hl => lv_lload_n G.1 G.2.1 d1 hi (hl.at hx) (k H locs ls hP hS hl)
theorem V_lload (G : Cxt p R s m args meth c w cc nL own lev kc ns) {i : Nat} {x : Int64} (d : D2 cc pc (.lload i) pc') (hx : L[i]? = some (some (.long x))) (k : Vj p l e R s m args below meth c w nL kc ns Q pc' L (.long x :: st) μ) : Vj p l e R s m args below meth c w nL kc ns Q pc L st μ := by
  obtain ⟨d1, rfl⟩ := d
  exact fun H locs ls hP hS hl => lv_lload G.1 G.2.1 d1 (hl.at hx) (k H locs ls hP hS hl)
theorem V_aload_n (G : Cxt p R s m args meth c w cc nL own lev kc ns) {j : Fin 4} {i : Nat} {x : Nat} (d : D1 cc pc (.aload_n j) pc') (hi : (j : Nat) = i) (hx : L[i]? = some (some (.ref x))) (k : Vj p l e R s m args below meth c w nL kc ns Q pc' L (.ref x :: st) μ) : Vj p l e R s m args below meth c w nL kc ns Q pc L st μ := by
  obtain ⟨d1, rfl⟩ := d
  exact fun H locs ls hP hS hl => lv_aload_n G.1 G.2.1 d1 hi (hl.at hx) (k H locs ls hP hS hl)
theorem V_aload (G : Cxt p R s m args meth c w cc nL own lev kc ns) {i : Nat} {x : Nat} (d : D2 cc pc (.aload i) pc') (hx : L[i]? = some (some (.ref x))) (k : Vj p l e R s m args below meth c w nL kc ns Q pc' L (.ref x :: st) μ) : Vj p l e R s m args below meth c w nL kc ns Q pc L st μ := by
  obtain ⟨d1, rfl⟩ := d
  exact fun H locs ls hP hS hl => lv_aload G.1 G.2.1 d1 (hl.at hx) (k H locs ls hP hS hl)
theorem V_istore_n (G : Cxt p R s m args meth c w cc nL own lev kc ns) {i : Nat} {j : Fin 4} (hi : (j : Nat) = i) {x : Int32} {α : Type} {f : Int32 → Option α} {o : α} {L' : Int32 → List (Option Value)} (d : D1 cc pc (.istore_n j) pc') (hn : i < nL) (hc : lC L i = true) (hL : ∀ y, L.set i (some (.int y)) = L' y) (h : (some x).bind f = some o) (k : ∀ y, f y = some o → Vj p l e R s m args below meth c w nL kc ns Q pc' (L' y) st μ) : Vj p l e R s m args below meth c w nL kc ns Q pc L (.int x :: st) μ := by
  obtain ⟨d1, rfl⟩ := d
  intro H locs ls hP hS hl
  refine lv_istore_n (lv' := _) G.1 G.2.1 d1 hi hl hn rfl (fun ls' hl' => k x h H locs ls' hP hS ?_)
  rw [← hL]
  exact lA_store hl' (lC_set hc)
theorem V_istore (G : Cxt p R s m args meth c w cc nL own lev kc ns) {i : Nat}  {x : Int32} {α : Type} {f : Int32 → Option α} {o : α} {L' : Int32 → List (Option Value)} (d : D2 cc pc (.istore i) pc') (hn : i < nL) (hc : lC L i = true) (hL : ∀ y, L.set i (some (.int y)) = L' y) (h : (some x).bind f = some o) (k : ∀ y, f y = some o → Vj p l e R s m args below meth c w nL kc ns Q pc' (L' y) st μ) : Vj p l e R s m args below meth c w nL kc ns Q pc L (.int x :: st) μ := by
  obtain ⟨d1, rfl⟩ := d
  intro H locs ls hP hS hl
  refine lv_istore (lv' := _) G.1 G.2.1 d1 hl hn rfl (fun ls' hl' => k x h H locs ls' hP hS ?_)
  rw [← hL]
  exact lA_store hl' (lC_set hc)
theorem V_astore_n (G : Cxt p R s m args meth c w cc nL own lev kc ns) {i : Nat} {j : Fin 4} (hi : (j : Nat) = i) {x : Nat} {α : Type} {f : Nat → Option α} {o : α} {L' : Nat → List (Option Value)} (d : D1 cc pc (.astore_n j) pc') (hn : i < nL) (hc : lC L i = true) (hL : ∀ y, L.set i (some (.ref y)) = L' y) (h : (some x).bind f = some o) (k : ∀ y, f y = some o → Vj p l e R s m args below meth c w nL kc ns Q pc' (L' y) st μ) : Vj p l e R s m args below meth c w nL kc ns Q pc L (.ref x :: st) μ := by
  obtain ⟨d1, rfl⟩ := d
  intro H locs ls hP hS hl
  refine lv_astore_n (lv' := _) G.1 G.2.1 d1 hi hl hn rfl (fun ls' hl' => k x h H locs ls' hP hS ?_)
  rw [← hL]
  exact lA_store hl' (lC_set hc)
theorem V_astore (G : Cxt p R s m args meth c w cc nL own lev kc ns) {i : Nat}  {x : Nat} {α : Type} {f : Nat → Option α} {o : α} {L' : Nat → List (Option Value)} (d : D2 cc pc (.astore i) pc') (hn : i < nL) (hc : lC L i = true) (hL : ∀ y, L.set i (some (.ref y)) = L' y) (h : (some x).bind f = some o) (k : ∀ y, f y = some o → Vj p l e R s m args below meth c w nL kc ns Q pc' (L' y) st μ) : Vj p l e R s m args below meth c w nL kc ns Q pc L (.ref x :: st) μ := by
  obtain ⟨d1, rfl⟩ := d
  intro H locs ls hP hS hl
  refine lv_astore (lv' := _) G.1 G.2.1 d1 hl hn rfl (fun ls' hl' => k x h H locs ls' hP hS ?_)
  rw [← hL]
  exact lA_store hl' (lC_set hc)
theorem V_lstore_n (G : Cxt p R s m args meth c w cc nL own lev kc ns) {i : Nat} {j : Fin 4} (hi : (j : Nat) = i) {x : Int64} {α : Type} {f : Int64 → Option α} {o : α} {L' : Int64 → List (Option Value)} (d : D1 cc pc (.lstore_n j) pc') (hn : i + 1 < nL) (hc : lC L i = true) (hL : ∀ y, (L.set i (some (.long y))).set (i + 1) none = L' y) (h : (some x).bind f = some o) (k : ∀ y, f y = some o → Vj p l e R s m args below meth c w nL kc ns Q pc' (L' y) st μ) : Vj p l e R s m args below meth c w nL kc ns Q pc L (.long x :: st) μ := by
  obtain ⟨d1, rfl⟩ := d
  intro H locs ls hP hS hl
  refine lv_lstore_n (lv' := _) G.1 G.2.1 d1 hi hl hn rfl (fun ls' hl' => k x h H locs ls' hP hS ?_)
  rw [← hL]
  exact lA_storeL hl' (lC_setL hc)
theorem V_lstore (G : Cxt p R s m args meth c w cc nL own lev kc ns) {i : Nat}  {x : Int64} {α : Type} {f : Int64 → Option α} {o : α} {L' : Int64 → List (Option Value)} (d : D2 cc pc (.lstore i) pc') (hn : i + 1 < nL) (hc : lC L i = true) (hL : ∀ y, (L.set i (some (.long y))).set (i + 1) none = L' y) (h : (some x).bind f = some o) (k : ∀ y, f y = some o → Vj p l e R s m args below meth c w nL kc ns Q pc' (L' y) st μ) : Vj p l e R s m args below meth c w nL kc ns Q pc L (.long x :: st) μ := by
  obtain ⟨d1, rfl⟩ := d
  intro H locs ls hP hS hl
  refine lv_lstore (lv' := _) G.1 G.2.1 d1 hl hn rfl (fun ls' hl' => k x h H locs ls' hP hS ?_)
  rw [← hL]
  exact lA_storeL hl' (lC_setL hc)
theorem V_iinc (G : Cxt p R s m args meth c w cc nL own lev kc ns) {i : Nat} {n : Int} {x z : Int32} {α : Type} {f : Int32 → Option α} {o : α} {L' : Int32 → List (Option Value)} (d : D3 cc pc (.iinc i n) pc') (hx : L[i]? = some (some (.int x))) (hz : Int32.ofInt n = z) (hn : i < nL) (hc : lC L i = true) (hL : ∀ y, L.set i (some (.int y)) = L' y) (h : (some (x + z)).bind f = some o) (k : ∀ y, f y = some o → Vj p l e R s m args below meth c w nL kc ns Q pc' (L' y) st μ) : Vj p l e R s m args below meth c w nL kc ns Q pc L st μ := by
  obtain ⟨d1, rfl⟩ := d
  subst hz
  intro H locs ls hP hS hl
  obtain ⟨q, hq⟩ := List.getElem?_of_mem (lA_mem.mpr ⟨i, by omega, hx⟩ : (i, Value.int x) ∈ lA 0 L)
  refine lv_iinc (lv' := _) (v := x + Int32.ofInt n) G.1 G.2.1 d1 hl hq rfl hn rfl (fun ls' hl' => k _ h H locs ls' hP hS ?_)
  rw [← hL]
  exact lA_store hl' (lC_set hc)
theorem V_istoreA_n (G : Cxt p R s m args meth c w cc nL own lev kc ns) {i : Nat} {j : Fin 4} (hi : (j : Nat) = i) {x : Int32} {L' : List (Option Value)} (d : D1 cc pc (.istore_n j) pc') (hn : i < nL) (hc : lC L i = true) (hL : L.set i (some (.int x)) = L') (k : Vj p l e R s m args below meth c w nL kc ns Q pc' L' st μ) : Vj p l e R s m args below meth c w nL kc ns Q pc L (.int x :: st) μ := by
  obtain ⟨d1, rfl⟩ := d
  intro H locs ls hP hS hl
  refine lv_istore_n (lv' := _) G.1 G.2.1 d1 hi hl hn rfl (fun ls' hl' => k H locs ls' hP hS ?_)
  rw [← hL]
  exact lA_store hl' (lC_set hc)
theorem V_istoreA (G : Cxt p R s m args meth c w cc nL own lev kc ns) {i : Nat}  {x : Int32} {L' : List (Option Value)} (d : D2 cc pc (.istore i) pc') (hn : i < nL) (hc : lC L i = true) (hL : L.set i (some (.int x)) = L') (k : Vj p l e R s m args below meth c w nL kc ns Q pc' L' st μ) : Vj p l e R s m args below meth c w nL kc ns Q pc L (.int x :: st) μ := by
  obtain ⟨d1, rfl⟩ := d
  intro H locs ls hP hS hl
  refine lv_istore (lv' := _) G.1 G.2.1 d1 hl hn rfl (fun ls' hl' => k H locs ls' hP hS ?_)
  rw [← hL]
  exact lA_store hl' (lC_set hc)
theorem V_lstoreA_n (G : Cxt p R s m args meth c w cc nL own lev kc ns) {i : Nat} {j : Fin 4} (hi : (j : Nat) = i) {x : Int64} {L' : List (Option Value)} (d : D1 cc pc (.lstore_n j) pc') (hn : i + 1 < nL) (hc : lC L i = true) (hL : (L.set i (some (.long x))).set (i + 1) none = L') (k : Vj p l e R s m args below meth c w nL kc ns Q pc' L' st μ) : Vj p l e R s m args below meth c w nL kc ns Q pc L (.long x :: st) μ := by
  obtain ⟨d1, rfl⟩ := d
  intro H locs ls hP hS hl
  refine lv_lstore_n (lv' := _) G.1 G.2.1 d1 hi hl hn rfl (fun ls' hl' => k H locs ls' hP hS ?_)
  rw [← hL]
  exact lA_storeL hl' (lC_setL hc)
theorem V_lstoreA (G : Cxt p R s m args meth c w cc nL own lev kc ns) {i : Nat}  {x : Int64} {L' : List (Option Value)} (d : D2 cc pc (.lstore i) pc') (hn : i + 1 < nL) (hc : lC L i = true) (hL : (L.set i (some (.long x))).set (i + 1) none = L') (k : Vj p l e R s m args below meth c w nL kc ns Q pc' L' st μ) : Vj p l e R s m args below meth c w nL kc ns Q pc L (.long x :: st) μ := by
  obtain ⟨d1, rfl⟩ := d
  intro H locs ls hP hS hl
  refine lv_lstore (lv' := _) G.1 G.2.1 d1 hl hn rfl (fun ls' hl' => k H locs ls' hP hS ?_)
  rw [← hL]
  exact lA_storeL hl' (lC_setL hc)
theorem V_lcmp (G : Cxt p R s m args meth c w cc nL own lev kc ns) {x y : Int64} (d : D1 cc pc .lcmp pc') (k : Vj p l e R s m args below meth c w nL kc ns Q pc' L (.int (lg_cmp x y) :: st) μ) : Vj p l e R s m args below meth c w nL kc ns Q pc L (.long y :: .long x :: st) μ := by
  obtain ⟨d1, rfl⟩ := d
  exact fun H locs ls hP hS hl => W.lcmp G.1 G.2.1 d1 (k H locs ls hP hS hl)
theorem V_icmp_eq (G : Cxt p R s m args meth c w cc nL own lev kc ns) {x y : Int32} {α : Type} {a b : Option α} {o : α} (d : DJ cc pc (.if_icmp .eq) tgt pc') (h : (if x = y then a else b) = some o) (kt : a = some o → Vj p l e R s m args below meth c w nL kc ns Q tgt L st μ) (kf : b = some o → Vj p l e R s m args below meth c w nL kc ns Q pc' L st μ) : Vj p l e R s m args below meth c w nL kc ns Q pc L (.int y :: .int x :: st) μ := by
  obtain ⟨off, d1, d2, rfl⟩ := d
  exact fun H locs ls hP hS hl => lv_icmp_eq G.1 G.2.1 d1 d2 (fun c => kt ((if_pos c).symm.trans h) H locs ls hP hS hl) (fun c => kf ((if_neg c).symm.trans h) H locs ls hP hS hl)
theorem V_if_eq (G : Cxt p R s m args meth c w cc nL own lev kc ns) {x : Int32} {α : Type} {a b : Option α} {o : α} (d : DJ cc pc (.ifCond .eq) tgt pc') (h : (if x = 0 then a else b) = some o) (kt : a = some o → Vj p l e R s m args below meth c w nL kc ns Q tgt L st μ) (kf : b = some o → Vj p l e R s m args below meth c w nL kc ns Q pc' L st μ) : Vj p l e R s m args below meth c w nL kc ns Q pc L (.int x :: st) μ := by
  obtain ⟨off, d1, d2, rfl⟩ := d
  exact fun H locs ls hP hS hl => lv_if_eq G.1 G.2.1 d1 d2 (fun c => kt ((if_pos c).symm.trans h) H locs ls hP hS hl) (fun c => kf ((if_neg c).symm.trans h) H locs ls hP hS hl)
theorem V_icmp_ne (G : Cxt p R s m args meth c w cc nL own lev kc ns) {x y : Int32} {α : Type} {a b : Option α} {o : α} (d : DJ cc pc (.if_icmp .ne) tgt pc') (h : (if x = y then b else a) = some o) (kt : a = some o → Vj p l e R s m args below meth c w nL kc ns Q tgt L st μ) (kf : b = some o → Vj p l e R s m args below meth c w nL kc ns Q pc' L st μ) : Vj p l e R s m args below meth c w nL kc ns Q pc L (.int y :: .int x :: st) μ := by
  obtain ⟨off, d1, d2, rfl⟩ := d
  exact fun H locs ls hP hS hl => lv_icmp_ne G.1 G.2.1 d1 d2 (fun c => kt ((if_neg c).symm.trans h) H locs ls hP hS hl) (fun c => kf ((if_pos c).symm.trans h) H locs ls hP hS hl)
theorem V_if_ne (G : Cxt p R s m args meth c w cc nL own lev kc ns) {x : Int32} {α : Type} {a b : Option α} {o : α} (d : DJ cc pc (.ifCond .ne) tgt pc') (h : (if x = 0 then b else a) = some o) (kt : a = some o → Vj p l e R s m args below meth c w nL kc ns Q tgt L st μ) (kf : b = some o → Vj p l e R s m args below meth c w nL kc ns Q pc' L st μ) : Vj p l e R s m args below meth c w nL kc ns Q pc L (.int x :: st) μ := by
  obtain ⟨off, d1, d2, rfl⟩ := d
  exact fun H locs ls hP hS hl => lv_if_ne G.1 G.2.1 d1 d2 (fun c => kt ((if_neg c).symm.trans h) H locs ls hP hS hl) (fun c => kf ((if_pos c).symm.trans h) H locs ls hP hS hl)
theorem V_icmp_lt (G : Cxt p R s m args meth c w cc nL own lev kc ns) {x y : Int32} {α : Type} {a b : Option α} {o : α} (d : DJ cc pc (.if_icmp .lt) tgt pc') (h : (if x < y then a else b) = some o) (kt : a = some o → Vj p l e R s m args below meth c w nL kc ns Q tgt L st μ) (kf : b = some o → Vj p l e R s m args below meth c w nL kc ns Q pc' L st μ) : Vj p l e R s m args below meth c w nL kc ns Q pc L (.int y :: .int x :: st) μ := by
  obtain ⟨off, d1, d2, rfl⟩ := d
  exact fun H locs ls hP hS hl => lv_icmp_lt G.1 G.2.1 d1 d2 (fun c => kt ((if_pos c).symm.trans h) H locs ls hP hS hl) (fun c => kf ((if_neg c).symm.trans h) H locs ls hP hS hl)
theorem V_if_lt (G : Cxt p R s m args meth c w cc nL own lev kc ns) {x : Int32} {α : Type} {a b : Option α} {o : α} (d : DJ cc pc (.ifCond .lt) tgt pc') (h : (if x < 0 then a else b) = some o) (kt : a = some o → Vj p l e R s m args below meth c w nL kc ns Q tgt L st μ) (kf : b = some o → Vj p l e R s m args below meth c w nL kc ns Q pc' L st μ) : Vj p l e R s m args below meth c w nL kc ns Q pc L (.int x :: st) μ := by
  obtain ⟨off, d1, d2, rfl⟩ := d
  exact fun H locs ls hP hS hl => lv_if_lt G.1 G.2.1 d1 d2 (fun c => kt ((if_pos c).symm.trans h) H locs ls hP hS hl) (fun c => kf ((if_neg c).symm.trans h) H locs ls hP hS hl)
theorem V_icmp_ge (G : Cxt p R s m args meth c w cc nL own lev kc ns) {x y : Int32} {α : Type} {a b : Option α} {o : α} (d : DJ cc pc (.if_icmp .ge) tgt pc') (h : (if x < y then b else a) = some o) (kt : a = some o → Vj p l e R s m args below meth c w nL kc ns Q tgt L st μ) (kf : b = some o → Vj p l e R s m args below meth c w nL kc ns Q pc' L st μ) : Vj p l e R s m args below meth c w nL kc ns Q pc L (.int y :: .int x :: st) μ := by
  obtain ⟨off, d1, d2, rfl⟩ := d
  exact fun H locs ls hP hS hl => lv_icmp_ge G.1 G.2.1 d1 d2 (fun c => kt ((if_neg (Int32.not_lt.mpr c)).symm.trans h) H locs ls hP hS hl) (fun c => kf ((if_pos (Int32.not_le.mp c)).symm.trans h) H locs ls hP hS hl)
theorem V_if_ge (G : Cxt p R s m args meth c w cc nL own lev kc ns) {x : Int32} {α : Type} {a b : Option α} {o : α} (d : DJ cc pc (.ifCond .ge) tgt pc') (h : (if x < 0 then b else a) = some o) (kt : a = some o → Vj p l e R s m args below meth c w nL kc ns Q tgt L st μ) (kf : b = some o → Vj p l e R s m args below meth c w nL kc ns Q pc' L st μ) : Vj p l e R s m args below meth c w nL kc ns Q pc L (.int x :: st) μ := by
  obtain ⟨off, d1, d2, rfl⟩ := d
  exact fun H locs ls hP hS hl => lv_if_ge G.1 G.2.1 d1 d2 (fun c => kt ((if_neg (Int32.not_lt.mpr c)).symm.trans h) H locs ls hP hS hl) (fun c => kf ((if_pos (Int32.not_le.mp c)).symm.trans h) H locs ls hP hS hl)
theorem V_icmp_gt (G : Cxt p R s m args meth c w cc nL own lev kc ns) {x y : Int32} {α : Type} {a b : Option α} {o : α} (d : DJ cc pc (.if_icmp .gt) tgt pc') (h : (if y < x then a else b) = some o) (kt : a = some o → Vj p l e R s m args below meth c w nL kc ns Q tgt L st μ) (kf : b = some o → Vj p l e R s m args below meth c w nL kc ns Q pc' L st μ) : Vj p l e R s m args below meth c w nL kc ns Q pc L (.int y :: .int x :: st) μ := by
  obtain ⟨off, d1, d2, rfl⟩ := d
  exact fun H locs ls hP hS hl => lv_icmp_gt G.1 G.2.1 d1 d2 (fun c => kt ((if_pos c).symm.trans h) H locs ls hP hS hl) (fun c => kf ((if_neg c).symm.trans h) H locs ls hP hS hl)
theorem V_if_gt (G : Cxt p R s m args meth c w cc nL own lev kc ns) {x : Int32} {α : Type} {a b : Option α} {o : α} (d : DJ cc pc (.ifCond .gt) tgt pc') (h : (if 0 < x then a else b) = some o) (kt : a = some o → Vj p l e R s m args below meth c w nL kc ns Q tgt L st μ) (kf : b = some o → Vj p l e R s m args below meth c w nL kc ns Q pc' L st μ) : Vj p l e R s m args below meth c w nL kc ns Q pc L (.int x :: st) μ := by
  obtain ⟨off, d1, d2, rfl⟩ := d
  exact fun H locs ls hP hS hl => lv_if_gt G.1 G.2.1 d1 d2 (fun c => kt ((if_pos c).symm.trans h) H locs ls hP hS hl) (fun c => kf ((if_neg c).symm.trans h) H locs ls hP hS hl)
theorem V_icmp_le (G : Cxt p R s m args meth c w cc nL own lev kc ns) {x y : Int32} {α : Type} {a b : Option α} {o : α} (d : DJ cc pc (.if_icmp .le) tgt pc') (h : (if y < x then b else a) = some o) (kt : a = some o → Vj p l e R s m args below meth c w nL kc ns Q tgt L st μ) (kf : b = some o → Vj p l e R s m args below meth c w nL kc ns Q pc' L st μ) : Vj p l e R s m args below meth c w nL kc ns Q pc L (.int y :: .int x :: st) μ := by
  obtain ⟨off, d1, d2, rfl⟩ := d
  exact fun H locs ls hP hS hl => lv_icmp_le G.1 G.2.1 d1 d2 (fun c => kt ((if_neg (Int32.not_lt.mpr c)).symm.trans h) H locs ls hP hS hl) (fun c => kf ((if_pos (Int32.not_le.mp c)).symm.trans h) H locs ls hP hS hl)
theorem V_if_le (G : Cxt p R s m args meth c w cc nL own lev kc ns) {x : Int32} {α : Type} {a b : Option α} {o : α} (d : DJ cc pc (.ifCond .le) tgt pc') (h : (if 0 < x then b else a) = some o) (kt : a = some o → Vj p l e R s m args below meth c w nL kc ns Q tgt L st μ) (kf : b = some o → Vj p l e R s m args below meth c w nL kc ns Q pc' L st μ) : Vj p l e R s m args below meth c w nL kc ns Q pc L (.int x :: st) μ := by
  obtain ⟨off, d1, d2, rfl⟩ := d
  exact fun H locs ls hP hS hl => lv_if_le G.1 G.2.1 d1 d2 (fun c => kt ((if_neg (Int32.not_lt.mpr c)).symm.trans h) H locs ls hP hS hl) (fun c => kf ((if_pos (Int32.not_le.mp c)).symm.trans h) H locs ls hP hS hl)
theorem V_dup (G : Cxt p R s m args meth c w cc nL own lev kc ns) {v : Value} (d : D1 cc pc .dup pc') (hv : v.category = 1) (k : Vj p l e R s m args below meth c w nL kc ns Q pc' L (v :: v :: st) μ) : Vj p l e R s m args below meth c w nL kc ns Q pc L (v :: st) μ := by
  obtain ⟨d1, rfl⟩ := d
  exact fun H locs ls hP hS hl => lv_dup G.1 G.2.1 d1 hv (k H locs ls hP hS hl)
theorem V_pop (G : Cxt p R s m args meth c w cc nL own lev kc ns) {v : Value} (d : D1 cc pc .pop pc') (hv : v.category = 1) (k : Vj p l e R s m args below meth c w nL kc ns Q pc' L st μ) : Vj p l e R s m args below meth c w nL kc ns Q pc L (v :: st) μ := by
  obtain ⟨d1, rfl⟩ := d
  exact fun H locs ls hP hS hl => lv_pop G.1 G.2.1 d1 hv (k H locs ls hP hS hl)
theorem V_dup_x1 (G : Cxt p R s m args meth c w cc nL own lev kc ns) {va vb : Value} (d : D1 cc pc .dup_x1 pc') (ha : va.category = 1) (hb : vb.category = 1) (k : Vj p l e R s m args below meth c w nL kc ns Q pc' L (va :: vb :: va :: st) μ) : Vj p l e R s m args below meth c w nL kc ns Q pc L (va :: vb :: st) μ := by
  obtain ⟨d1, rfl⟩ := d
  exact fun H locs ls hP hS hl => lv_dup_x1 G.1 G.2.1 d1 ha hb (k H locs ls hP hS hl)
theorem V_dup2_11 (G : Cxt p R s m args meth c w cc nL own lev kc ns) {va vb : Value} (d : D1 cc pc .dup2 pc') (ha : va.category = 1) (hb : vb.category = 1) (k : Vj p l e R s m args below meth c w nL kc ns Q pc' L (va :: vb :: va :: vb :: st) μ) : Vj p l e R s m args below meth c w nL kc ns Q pc L (va :: vb :: st) μ := by
  obtain ⟨d1, rfl⟩ := d
  exact fun H locs ls hP hS hl => lv_dup2_11 G.1 G.2.1 d1 ha hb (k H locs ls hP hS hl)
theorem V_dup_x2 (G : Cxt p R s m args meth c w cc nL own lev kc ns) {va vb vd : Value} (d : D1 cc pc .dup_x2 pc') (ha : va.category = 1) (hb : vb.category = 1) (hd : vd.category = 1) (k : Vj p l e R s m args below meth c w nL kc ns Q pc' L (va :: vb :: vd :: va :: st) μ) : Vj p l e R s m args below meth c w nL kc ns Q pc L (va :: vb :: vd :: st) μ := by
  obtain ⟨d1, rfl⟩ := d
  exact fun H locs ls hP hS hl => lv_dup_x2 G.1 G.2.1 d1 ha hb hd (k H locs ls hP hS hl)
theorem AL_one {e e' : Ent} (h : e ∈ AL) (h' : e' ∈ AL) (q : e.1 = e'.1) : e = e' := by
  obtain ⟨i, hi⟩ := List.getElem?_of_mem h
  obtain ⟨j, hj⟩ := List.getElem?_of_mem h'
  have hp := List.pairwise_iff_getElem.mp AL_nd
  have hi' := (List.getElem?_eq_some_iff.mp hi).1
  have hj' := (List.getElem?_eq_some_iff.mp hj).1
  have ei := (List.getElem?_eq_some_iff.mp hi).2
  have ej := (List.getElem?_eq_some_iff.mp hj).2
  rcases Nat.lt_trichotomy i j with h2 | h2 | h2
  · exact (hp i j (by simpa using hi') (by simpa using hj') h2 (by simp only [List.getElem_map, ei, ej, q])).elim
  · subst h2
    exact Option.some.inj (hi.symm.trans hj)
  · exact (hp j i (by simpa using hj') (by simpa using hi') h2 (by simp only [List.getElem_map, ei, ej, q])).elim
/-- a row is written: the others stay -/
theorem wEn_keep {w : Wld} {μ μ' : Mem} {e : Ent} {r : Nat} (he : e ∈ AL) (h0 : e.2.2.1 ≠ 0) (hi : ∀ a b d, ¬ (a = e.1 ∧ b = r) → mI μ' a b d = mI μ a b d) (hl : ∀ a b d, ¬ (a = e.1 ∧ b = r) → mL μ' a b d = mL μ a b d) :
    ∀ e' r', e' ∈ AL → r' < e'.2.1 → (e', r') ≠ (e, r) → wEn FL w μ' e' r' = wEn FL w μ e' r' := by
  intro e' r' he' _ hne
  have hq : ¬ (e'.1 = e.1 ∧ r' = r) := fun q => hne (by rw [AL_one he' he q.1, q.2])
  unfold wEn
  split
  · rw [wFs_congr]
    intro v hv
    exact hi _ _ _ fun q => FL_no he h0 (by rw [← q.1]; exact hv)
  · have : (fun i => mI μ' e'.1 r' i) = fun i => mI μ e'.1 r' i := funext fun i => hi _ _ _ hq
    rw [this]
  · have : (fun i => mI μ' e'.1 r' i) = fun i => mI μ e'.1 r' i := funext fun i => hi _ _ _ hq
    rw [this]
  · have : (fun i => mL μ' e'.1 r' i) = fun i => mL μ e'.1 r' i := funext fun i => hl _ _ _ hq
    rw [this]
  · rfl
  · rfl
theorem mSI_ne {μ : Mem} {v r c : Nat} {x : Int32} {a b d : Nat} (h : ¬ (a = v ∧ b = r)) : mI (mSI μ v r c x) a b d = mI μ a b d := by
  unfold mI mSI
  simp only
  rw [if_neg fun q => h ⟨q.1, q.2.1⟩]
theorem mSI_upd {μ : Mem} {v r c : Nat} {x : Int32} : upd (fun i => mI μ v r i) c x = fun i => mI (mSI μ v r c x) v r i := by
  funext i
  unfold upd mI mSI
  simp
theorem mSL_ne {μ : Mem} {v r c : Nat} {x : Int64} {a b d : Nat} (h : ¬ (a = v ∧ b = r)) : mL (mSL μ v r c x) a b d = mL μ a b d := by
  unfold mL mSL
  simp only
  rw [if_neg fun q => h ⟨q.1, q.2.1⟩]
theorem mSL_upd {μ : Mem} {v r c : Nat} {x : Int64} : vp_updL (fun i => mL μ v r i) c x = fun i => mL (mSL μ v r c x) v r i := by
  funext i
  unfold vp_updL mL mSL
  simp
theorem wKx {id rows kd n r : Nat} (he : ((id, rows, kd, n) : Ent) ∈ AL) (hr : r < rows) : ∃ i : Nat, (wKs AL)[i]? = some ((id, rows, kd, n), r) := wKs_mem he hr
theorem V_iald (G : Cxt p R s m args meth c w cc nL own lev kc ns) {id rows n r : Nat} {i : Int32} {α : Type} {f : Int32 → Option α} {o : α} (he : ((id, rows, 1, n) : Ent) ∈ AL) (hr : r < rows) (d : D1 cc pc .iaload pc') (h : (mRd μ id r n i).bind f = some o)
    (k : ∀ x, f x = some o → Vj p l e R s m args below meth c w nL kc ns Q pc' L (.int x :: st) μ) : Vj p l e R s m args below meth c w nL kc ns Q pc L (.int i :: .ref (wad w id r) :: st) μ := by
  obtain ⟨d1, rfl⟩ := d
  obtain ⟨x, hx, hf⟩ := bdS h
  unfold mRd at hx
  split at hx
  · rename_i hin
    cases hx
    intro H locs ls hP hS hl
    obtain ⟨q, hq⟩ := wKx he hr
    exact va_iald G.1 G.2.1 G.2.2.2.2.2.1.1 hP q 0 (wWs_at hq) rfl (mIn_iff.mp hin) d1 (k _ hf H locs ls hP hS hl)
  · cases hx
theorem V_zald (G : Cxt p R s m args meth c w cc nL own lev kc ns) {id rows n r : Nat} {i : Int32} {α : Type} {f : Int32 → Option α} {o : α} (he : ((id, rows, 2, n) : Ent) ∈ AL) (hr : r < rows) (d : D1 cc pc .baload pc') (h : (mRd μ id r n i).bind f = some o)
    (k : ∀ x, f x = some o → Vj p l e R s m args below meth c w nL kc ns Q pc' L (.int x :: st) μ) : Vj p l e R s m args below meth c w nL kc ns Q pc L (.int i :: .ref (wad w id r) :: st) μ := by
  obtain ⟨d1, rfl⟩ := d
  obtain ⟨x, hx, hf⟩ := bdS h
  unfold mRd at hx
  split at hx
  · rename_i hin
    cases hx
    intro H locs ls hP hS hl
    obtain ⟨q, hq⟩ := wKx he hr
    exact va_zald G.1 G.2.1 G.2.2.2.2.2.1.1 hP q 1 (wWs_at hq) rfl (mIn_iff.mp hin) d1 (k _ hf H locs ls hP hS hl)
  · cases hx
theorem V_lald (G : Cxt p R s m args meth c w cc nL own lev kc ns) {id rows n r : Nat} {i : Int32} {α : Type} {f : Int64 → Option α} {o : α} (he : ((id, rows, 3, n) : Ent) ∈ AL) (hr : r < rows) (d : D1 cc pc .laload pc') (h : (mRl μ id r n i).bind f = some o)
    (k : ∀ x, f x = some o → Vj p l e R s m args below meth c w nL kc ns Q pc' L (.long x :: st) μ) : Vj p l e R s m args below meth c w nL kc ns Q pc L (.int i :: .ref (wad w id r) :: st) μ := by
  obtain ⟨d1, rfl⟩ := d
  obtain ⟨x, hx, hf⟩ := bdS h
  unfold mRl at hx
  split at hx
  · rename_i hin
    cases hx
    intro H locs ls hP hS hl
    obtain ⟨q, hq⟩ := wKx he hr
    exact va_lald G.1 G.2.1 G.2.2.2.2.2.1.1 hP q 2 (wWs_at hq) rfl (mIn_iff.mp hin) d1 (k _ hf H locs ls hP hS hl)
  · cases hx
theorem V_iast (G : Cxt p R s m args meth c w cc nL own lev kc ns) {id rows n r : Nat} {i x : Int32} {α : Type} {f : Mem → Option α} {o : α} (he : ((id, rows, 1, n) : Ent) ∈ AL) (hr : r < rows) (d : D1 cc pc .iastore pc') (h : (mWr μ id r n i x).bind f = some o)
    (k : ∀ μ', f μ' = some o → Vj p l e R s m args below meth c w nL kc ns Q pc' L st μ') : Vj p l e R s m args below meth c w nL kc ns Q pc L (.int x :: .int i :: .ref (wad w id r) :: st) μ := by
  obtain ⟨d1, rfl⟩ := d
  obtain ⟨z, hx, hf⟩ := bdS h
  unfold mWr at hx
  split at hx
  · rename_i hin
    cases hx
    intro H locs ls hP hS hl
    obtain ⟨q, hq⟩ := wKx he hr
    have hset : (wsM w μ).set q (wad w id r, .inl (w.2.1 0, n, .inl (upd (fun i => mI μ id r i) i.toNatClampNeg x))) = wsM w (mSI μ id r i.toNatClampNeg x) := wWs_set AL_nd hq (by rw [mSI_upd]; rfl) (wEn_keep he (by show 1 ≠ 0; decide) (fun a b d h => mSI_ne h) (fun a b d h => rfl))
    refine va_iast G.1 G.2.1 G.2.2.2.2.2.1.1 hP (G.2.2.2.2.2.1.2.1 μ) hS q 0 (wWs_at hq) rfl (mIn_iff.mp hin) d1 (fun H1 locs1 hP1 _ hS1 => k _ hf H1 locs1 ls ?_ hS1 hl)
    rw [← hset]
    exact hP1
  · cases hx
theorem V_zast (G : Cxt p R s m args meth c w cc nL own lev kc ns) {id rows n r : Nat} {i x : Int32} {α : Type} {f : Mem → Option α} {o : α} (he : ((id, rows, 2, n) : Ent) ∈ AL) (hr : r < rows) (d : D1 cc pc .bastore pc') (h : (mWz μ id r n i x).bind f = some o)
    (k : ∀ μ', f μ' = some o → Vj p l e R s m args below meth c w nL kc ns Q pc' L st μ') : Vj p l e R s m args below meth c w nL kc ns Q pc L (.int x :: .int i :: .ref (wad w id r) :: st) μ := by
  obtain ⟨d1, rfl⟩ := d
  obtain ⟨z, hx, hf⟩ := bdS h
  unfold mWz at hx
  split at hx
  · rename_i hin
    cases hx
    intro H locs ls hP hS hl
    obtain ⟨q, hq⟩ := wKx he hr
    have hz : vp_nar .boolean x = x := by rcases hin.2 with rfl | rfl <;> rfl
    have hset : (wsM w μ).set q (wad w id r, .inl (w.2.1 1, n, .inl (upd (fun i => mI μ id r i) i.toNatClampNeg x))) = wsM w (mSI μ id r i.toNatClampNeg x) := wWs_set AL_nd hq (by rw [mSI_upd]; rfl) (wEn_keep he (by show 2 ≠ 0; decide) (fun a b d h => mSI_ne h) (fun a b d h => rfl))
    refine va_zast G.1 G.2.1 G.2.2.2.2.2.1.1 hP (G.2.2.2.2.2.1.2.1 μ) hS q 1 (wWs_at hq) rfl (mIn_iff.mp hin.1) d1 (fun H1 locs1 hP1 _ hS1 => k _ hf H1 locs1 ls ?_ hS1 hl)
    rw [hz] at hP1
    rw [← hset]
    exact hP1
  · cases hx
theorem V_last (G : Cxt p R s m args meth c w cc nL own lev kc ns) {id rows n r : Nat} {i : Int32} {x : Int64} {α : Type} {f : Mem → Option α} {o : α} (he : ((id, rows, 3, n) : Ent) ∈ AL) (hr : r < rows) (d : D1 cc pc .lastore pc') (h : (mWl μ id r n i x).bind f = some o)
    (k : ∀ μ', f μ' = some o → Vj p l e R s m args below meth c w nL kc ns Q pc' L st μ') : Vj p l e R s m args below meth c w nL kc ns Q pc L (.long x :: .int i :: .ref (wad w id r) :: st) μ := by
  obtain ⟨d1, rfl⟩ := d
  obtain ⟨z, hx, hf⟩ := bdS h
  unfold mWl at hx
  split at hx
  · rename_i hin
    cases hx
    intro H locs ls hP hS hl
    obtain ⟨q, hq⟩ := wKx he hr
    have hset : (wsM w μ).set q (wad w id r, .inl (w.2.1 2, n, .inr (.inl (vp_updL (fun i => mL μ id r i) i.toNatClampNeg x)))) = wsM w (mSL μ id r i.toNatClampNeg x) := wWs_set AL_nd hq (by rw [mSL_upd]; rfl) (wEn_keep he (by show 3 ≠ 0; decide) (fun a b d h => rfl) (fun a b d h => mSL_ne h))
    refine va_last G.1 G.2.1 G.2.2.2.2.2.1.1 hP (G.2.2.2.2.2.1.2.1 μ) hS q 2 (wWs_at hq) rfl (mIn_iff.mp hin) d1 (fun H1 locs1 hP1 _ hS1 => k _ hf H1 locs1 ls ?_ hS1 hl)
    rw [← hset]
    exact hP1
  · cases hx
/-- a row of a table of rows -/
theorem V_aaldI (G : Cxt p R s m args meth c w cc nL own lev kc ns) {id n : Nat} {i : Int32} {α : Type} {f : Nat → Option α} {o : α} (he : ((10000 + id, 1, 4, n) : Ent) ∈ AL) (d : D1 cc pc .aaload pc') (h : (mIx i n).bind f = some o)
    (k : ∀ r, r < n → f r = some o → Vj p l e R s m args below meth c w nL kc ns Q pc' L (.ref (wad w id r) :: st) μ) : Vj p l e R s m args below meth c w nL kc ns Q pc L (.int i :: .ref (wad w (10000 + id) 0) :: st) μ := by
  obtain ⟨d1, rfl⟩ := d
  obtain ⟨x, hx, hf⟩ := bdS h
  unfold mIx at hx
  split at hx
  · rename_i hin
    cases hx
    intro H locs ls hP hS hl
    obtain ⟨q, hq⟩ := wKx he (Nat.zero_lt_one)
    have hlt : i.toNatClampNeg < n := Nat.not_le.mp fun q => mIn_iff.mp hin (Or.inr q)
    have hc := hP q _ (wWs_at hq)
    have hc : H[wad w (10000 + id) 0]? = some (arrV (w.2.1 3) n (fun j => va_rf (if j < n then some (wad w (10000 + id - 10000) j) else none))) := hc
    refine W.aald (v := .ref (wad w id i.toNatClampNeg)) (ty := .array .int) G.1 G.2.1 hc (((G.2.2.2.2.2.1.1).2 3 _ rfl).1 n _) rfl (fun q => by cases q) (by show ¬ (i < 0 ∨ (arrV _ _ _).slots.size ≤ _); rw [arrV_size]; exact mIn_iff.mp hin) (by show (arrV _ _ _).slots[_]? = _; rw [arrV_read _ _ hlt, if_pos hlt, Nat.add_sub_cancel_left]; rfl) rfl rfl d1 (k _ hlt hf H locs ls hP hS hl)
  · cases hx
theorem V_aaldL (G : Cxt p R s m args meth c w cc nL own lev kc ns) {id n : Nat} {i : Int32} {α : Type} {f : Nat → Option α} {o : α} (he : ((10000 + id, 1, 5, n) : Ent) ∈ AL) (d : D1 cc pc .aaload pc') (h : (mIx i n).bind f = some o)
    (k : ∀ r, r < n → f r = some o → Vj p l e R s m args below meth c w nL kc ns Q pc' L (.ref (wad w id r) :: st) μ) : Vj p l e R s m args below meth c w nL kc ns Q pc L (.int i :: .ref (wad w (10000 + id) 0) :: st) μ := by
  obtain ⟨d1, rfl⟩ := d
  obtain ⟨x, hx, hf⟩ := bdS h
  unfold mIx at hx
  split at hx
  · rename_i hin
    cases hx
    intro H locs ls hP hS hl
    obtain ⟨q, hq⟩ := wKx he (Nat.zero_lt_one)
    have hlt : i.toNatClampNeg < n := Nat.not_le.mp fun q => mIn_iff.mp hin (Or.inr q)
    have hc := hP q _ (wWs_at hq)
    have hc : H[wad w (10000 + id) 0]? = some (arrV (w.2.1 4) n (fun j => va_rf (if j < n then some (wad w (10000 + id - 10000) j) else none))) := hc
    refine W.aald (v := .ref (wad w id i.toNatClampNeg)) (ty := .array .long) G.1 G.2.1 hc (((G.2.2.2.2.2.1.1).2 4 _ rfl).1 n _) rfl (fun q => by cases q) (by show ¬ (i < 0 ∨ (arrV _ _ _).slots.size ≤ _); rw [arrV_size]; exact mIn_iff.mp hin) (by show (arrV _ _ _).slots[_]? = _; rw [arrV_read _ _ hlt, if_pos hlt, Nat.add_sub_cancel_left]; rfl) rfl rfl d1 (k _ hlt hf H locs ls hP hS hl)
  · cases hx
theorem V_alen (G : Cxt p R s m args meth c w cc nL own lev kc ns) {id rows n r : Nat} {v : Int32} (he : ((id, rows, 1, n) : Ent) ∈ AL) (hr : r < rows) (hv : Int32.ofNat n = v) (d : D1 cc pc .arraylength pc')
    (k : Vj p l e R s m args below meth c w nL kc ns Q pc' L (.int v :: st) μ) : Vj p l e R s m args below meth c w nL kc ns Q pc L (.ref (wad w id r) :: st) μ := by
  obtain ⟨d1, rfl⟩ := d
  intro H locs ls hP hS hl
  obtain ⟨q, hq⟩ := wKx he hr
  exact va_alen G.1 G.2.1 G.2.2.2.2.2.1.1 hP q 0 (wWs_at hq) (ty := .int) rfl hv d1 (k H locs ls hP hS hl)
/-! fields -/
def FG (own : String) (idx j k : Nat) : Prop := ∃ (C : String) (T : u_T) (N : Nat), Cf j C T N ∧ k < N ∧ (Cond.fieldLink own idx (T k).1 (T k).2.1 (T k).2.2.1 ∈ BW ∨ ∃ host, Cond.fieldLinkNest own idx (T k).1 (T k).2.1 (T k).2.2.1 host ∈ NL)
theorem V_get (G : Cxt p R s m args meth c w cc nL own lev kc ns) {idx j k : Nat} {v : Value} (hf : FG own idx j k) (hv : (wFs w μ (FL j))[k]? = some v) (d : D3 cc pc (.getfield idx) pc')
    (kk : Vj p l e R s m args below meth c w nL kc ns Q pc' L (v :: st) μ) : Vj p l e R s m args below meth c w nL kc ns Q pc L (.ref (wad w j 0) :: st) μ := by
  obtain ⟨d1, rfl⟩ := d
  obtain ⟨C, T, N, ⟨f1, f2, f3, f4, f5, f6⟩, hk, hlink⟩ := hf
  intro H locs ls hP hS hl
  obtain ⟨q, hq⟩ := wKx f5 (Nat.zero_lt_one)
  rcases hlink with hlink | ⟨host, hlink⟩
  · exact va_get (own := own) G.1 G.2.1 G.2.2.2.2.1 f2 G.2.2.2.1 G.2.2.2.2.2.1.1 hP q (wWs_at hq) f1 k hk (G.2.2.2.2.1 _ hlink) (fun _ h => h) hv d1 (kk H locs ls hP hS hl)
  · exact va_getN (own := own) G.1 G.2.1 G.2.2.2.2.1 f2 G.2.2.2.1 G.2.2.2.2.2.1.1 hP q (wWs_at hq) f1 k hk (va_Nw.use rfl (G.2.2.2.2.2.1.2.2 _ hlink)) (fun _ h => h) hv d1 (kk H locs ls hP hS hl)
def FP (j k v : Nat) : Prop := ∃ (C : String) (T : u_T) (N : Nat), Cf j C T N ∧ (T k).2.2.2 = false ∧ (∃ ty : FieldType, parseFieldDescriptor (T k).2.2.1 = some ty ∧ (ty = .int)) ∧ (FL j)[k]? = some (.inr v)
theorem FL_keep {w : Wld} {μ : Mem} {j k v : Nat} {x : Int32} (h : (FL j)[k]? = some (.inr v)) : (wFs w μ (FL j)).set k (.int x) = wFs w (mSI μ v 0 0 x) (FL j) := by
  apply List.ext_getElem?
  intro i
  have hlt := (List.getElem?_eq_some_iff.mp h).1
  by_cases hi : i = k
  · subst hi
    rw [List.getElem?_set_self (by simpa [wFs] using hlt)]
    simp [wFs, List.getElem?_map, h, wFld, mI, mSI]
  · rw [List.getElem?_set_ne (fun q => hi q.symm)]
    simp only [wFs, List.getElem?_map]
    cases hq : (FL j)[i]? with
    | none => rfl
    | some f =>
      cases f with
      | inl a => rfl
      | inr v' =>
        have h1 := FL_num h
        have h2 := FL_num hq
        have : v' ≠ v := by omega
        simp [wFld, mI, mSI, this]
theorem wEn_keepF {w : Wld} {μ : Mem} {j k v : Nat} {x : Int32} (h : (FL j)[k]? = some (.inr v)) (hj : ((j, 1, 0, 0) : Ent) ∈ AL) : ∀ e' r', e' ∈ AL → r' < e'.2.1 → (e', r') ≠ (((j, 1, 0, 0) : Ent), 0) → wEn FL w (mSI μ v 0 0 x) e' r' = wEn FL w μ e' r' := by
  intro e' r' he' hr' hne
  have hje : e' ≠ (j, 1, 0, 0) := by
    rintro rfl
    exact hne (by rw [Nat.lt_one_iff.mp hr'])
  have hmem : (.inr v : Nat ⊕ Nat) ∈ FL j := List.mem_of_getElem? h
  unfold wEn
  have hv : e'.2.2.1 ≠ 0 → e'.1 ≠ v := fun h0 q => FL_no he' h0 (by rw [q]; exact hmem)
  split
  · rw [wFs_congr]
    intro v' hv'
    obtain ⟨i, hi⟩ := List.getElem?_of_mem hv'
    have h1 := FL_num h
    have h2 := FL_num hi
    have h3 : e'.1 ≠ j := fun q => hje (AL_one he' hj q)
    exact mSI_ne fun q => by omega
  · have h0 := hv (by omega)
    have : (fun i => mI (mSI μ v 0 0 x) e'.1 r' i) = fun i => mI μ e'.1 r' i := funext fun i => mSI_ne fun q => h0 q.1
    rw [this]
  · have h0 := hv (by omega)
    have : (fun i => mI (mSI μ v 0 0 x) e'.1 r' i) = fun i => mI μ e'.1 r' i := funext fun i => mSI_ne fun q => h0 q.1
    rw [this]
  · rfl
  · rfl
  · rfl
theorem V_put (G : Cxt p R s m args meth c w cc nL own lev kc ns) {idx j k v : Nat} {x : Int32} {α : Type} {f : Mem → Option α} {o : α} (hf : FG own idx j k) (hp : FP j k v) (d : D3 cc pc (.putfield idx) pc') (h : (some (mSI μ v 0 0 x)).bind f = some o)
    (kk : ∀ μ', f μ' = some o → Vj p l e R s m args below meth c w nL kc ns Q pc' L st μ') : Vj p l e R s m args below meth c w nL kc ns Q pc L (.int x :: .ref (wad w j 0) :: st) μ := by
  obtain ⟨d1, rfl⟩ := d
  obtain ⟨C, T, N, ⟨f1, f2, ⟨ty0, f3⟩, f4, f5, f6⟩, hk, hlink⟩ := hf
  obtain ⟨C', T', N', ⟨g1, -⟩, p1, ⟨ty, p2, rfl⟩, p3⟩ := hp
  cases Option.some.inj (g1.symm.trans f1)
  intro H locs ls hP hS hl
  obtain ⟨q, hq⟩ := wKx f5 (Nat.zero_lt_one)
  have hset : (wsM w μ).set q (wad w j 0, .inr (j, (wFs w μ (FL j)).set k (.int x))) = wsM w (mSI μ v 0 0 x) := by
    exact wWs_set AL_nd hq (by rw [FL_keep p3]; rfl) (wEn_keepF p3 f5)
  have hl' : k < (wFs w μ (FL j)).length := by
    have := (List.getElem?_eq_some_iff.mp p3).1
    simpa [wFs] using this
  rcases hlink with hlink | ⟨host, hlink⟩
  · refine va_put (own := own) G.1 G.2.1 G.2.2.2.2.1 f2 ty0 f3 f4 G.2.2.2.1 G.2.2.2.2.2.1.1 hP (G.2.2.2.2.2.1.2.1 μ) hS q (wWs_at hq) f1 k hk (G.2.2.2.2.1 _ hlink) (fun _ h => h) p1 p2 rfl rfl hl' d1 (fun H1 locs1 hP1 _ hS1 => kk _ h H1 locs1 ls ?_ hS1 hl)
    rw [← hset]
    exact hP1
  · refine va_putN (own := own) G.1 G.2.1 G.2.2.2.2.1 f2 ty0 f3 f4 G.2.2.2.1 G.2.2.2.2.2.1.1 hP (G.2.2.2.2.2.1.2.1 μ) hS q (wWs_at hq) f1 k hk (va_Nw.use rfl (G.2.2.2.2.2.1.2.2 _ hlink)) (fun _ h => h) p1 p2 rfl rfl hl' d1 (fun H1 locs1 hP1 _ hS1 => kk _ h H1 locs1 ls ?_ hS1 hl)
    rw [← hset]
    exact hP1
end Rows
