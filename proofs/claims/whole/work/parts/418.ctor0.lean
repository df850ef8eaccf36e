/-! a judgement over any picture of the heap: constructors, the law -/
def Cxg (p : Program) (R : Room) (s : State) (m : MethodId) (args : Array Value) (meth : Method) (c : Code) (cc : ByteArray) (nL : Nat) (own : String) (kc ns : Nat) : Prop :=
  p.tables.exec = Jvm.exec ∧ c.code = cc ∧ c.maxLocals = nL ∧ s.vm.findClass own = some m.cls ∧ (∀ x ∈ BW, x.before args s = true) ∧ kc ≤ R.cells ∧ ns ≤ R.slots
def VG (p : Program) (l : Launch) (e : Env) (R : Room) (s : State) (m : MethodId) (args : Array Value) (below : List Frame) (meth : Method) (c : Code) (nL kc ns : Nat) (Q : State → Prop) (Pr : Heap → List Loc → Prop) (pc : Nat) (L : List (Option Value)) (st : List Value) : Prop :=
  ∀ (H : Heap) (locs : List Loc) (ls : Array Slot), Pr H locs → lH ls nL L → W p l e R s m args below meth c H locs kc ns Q (F0 m pc ls st)
section RowsN
variable {p : Program} {l : Launch} {e : Env} {R : Room} {s : State} {m : MethodId} {args : Array Value} {below : List Frame} {meth : Method} {c : Code} {cc : ByteArray} {nL : Nat} {own : String} {lev : Nat} {Q : State → Prop} {pc pc' tgt kc ns : Nat} {L : List (Option Value)} {st : List Value} {Pr : Heap → List Loc → Prop}
theorem N_sub {L' : List (Option Value)} (hs : lS L' L) (k : VG p l e R s m args below meth c nL kc ns Q Pr pc L' st) : VG p l e R s m args below meth c nL kc ns Q Pr pc L st :=
  fun H locs ls hP hl => k H locs ls hP (hl.sub (lS_at hs))
theorem N_goto (G : Cxg p R s m args meth c cc nL own kc ns) (d : DJ cc pc .goto tgt pc') (k : VG p l e R s m args below meth c nL kc ns Q Pr tgt L st) : VG p l e R s m args below meth c nL kc ns Q Pr pc L st := by
  obtain ⟨off, d1, d2, -⟩ := d
  exact fun H locs ls hP hl => lv_goto G.1 G.2.1 d1 d2 (k H locs ls hP hl)
theorem N_ldcw (G : Cxg p R s m args meth c cc nL own kc ns) {i : Nat} {v : Int32} (hw : Cond.constant own i v ∈ BW) (d : D3 cc pc (.ldc_w i) pc') (k : VG p l e R s m args below meth c nL kc ns Q Pr pc' L (.int v :: st)) : VG p l e R s m args below meth c nL kc ns Q Pr pc L st := by
  obtain ⟨d1, rfl⟩ := d
  exact fun H locs ls hP hl => lv_ldcw G.1 G.2.1 G.2.2.2.1 (G.2.2.2.2.1 _ hw) d1 (k H locs ls hP hl)
theorem N_geT (G : Cxg p R s m args meth c cc nL own kc ns) {x y : Int32} (d : DJ cc pc (.if_icmp .ge) tgt pc') (hc : y ≤ x) (k : VG p l e R s m args below meth c nL kc ns Q Pr tgt L st) : VG p l e R s m args below meth c nL kc ns Q Pr pc L (.int y :: .int x :: st) := by
  obtain ⟨off, d1, d2, rfl⟩ := d
  exact fun H locs ls hP hl => lv_icmp_ge G.1 G.2.1 d1 d2 (fun _ => k H locs ls hP hl) (fun q => absurd hc q)
theorem N_geF (G : Cxg p R s m args meth c cc nL own kc ns) {x y : Int32} (d : DJ cc pc (.if_icmp .ge) tgt pc') (hc : ¬ y ≤ x) (k : VG p l e R s m args below meth c nL kc ns Q Pr pc' L st) : VG p l e R s m args below meth c nL kc ns Q Pr pc L (.int y :: .int x :: st) := by
  obtain ⟨off, d1, d2, rfl⟩ := d
  exact fun H locs ls hP hl => lv_icmp_ge G.1 G.2.1 d1 d2 (fun q => absurd q hc) (fun _ => k H locs ls hP hl)
theorem N_neT (G : Cxg p R s m args meth c cc nL own kc ns) {x y : Int32} (d : DJ cc pc (.if_icmp .ne) tgt pc') (hc : ¬ x = y) (k : VG p l e R s m args below meth c nL kc ns Q Pr tgt L st) : VG p l e R s m args below meth c nL kc ns Q Pr pc L (.int y :: .int x :: st) := by
  obtain ⟨off, d1, d2, rfl⟩ := d
  exact fun H locs ls hP hl => lv_icmp_ne G.1 G.2.1 d1 d2 (fun _ => k H locs ls hP hl) (fun q => absurd q hc)
theorem N_neF (G : Cxg p R s m args meth c cc nL own kc ns) {x y : Int32} (d : DJ cc pc (.if_icmp .ne) tgt pc') (hc : x = y) (k : VG p l e R s m args below meth c nL kc ns Q Pr pc' L st) : VG p l e R s m args below meth c nL kc ns Q Pr pc L (.int y :: .int x :: st) := by
  obtain ⟨off, d1, d2, rfl⟩ := d
  exact fun H locs ls hP hl => lv_icmp_ne G.1 G.2.1 d1 d2 (fun q => absurd hc q) (fun _ => k H locs ls hP hl)
theorem N_iincC (G : Cxg p R s m args meth c cc nL own kc ns) {i : Nat} {n : Int} {x v : Int32} {L' : List (Option Value)} (d : D3 cc pc (.iinc i n) pc') (hx : L[i]? = some (some (.int x))) (hv : x + Int32.ofInt n = v) (hn : i < nL) (hc : lC L i = true) (hL : L.set i (some (.int v)) = L') (k : VG p l e R s m args below meth c nL kc ns Q Pr pc' L' st) : VG p l e R s m args below meth c nL kc ns Q Pr pc L st := by
  obtain ⟨d1, rfl⟩ := d
  intro H locs ls hP hl
  obtain ⟨q, hq⟩ := List.getElem?_of_mem (lA_mem.mpr ⟨i, by omega, hx⟩ : (i, Value.int x) ∈ lA 0 L)
  refine lv_iinc (lv' := _) (v := v) G.1 G.2.1 d1 hl hq hv hn rfl (fun ls' hl' => k H locs ls' hP ?_)
  rw [← hL]
  exact lA_store hl' (lC_set hc)
theorem N_divC (G : Cxg p R s m args meth c cc nL own kc ns) {x y v : Int32} (d : D1 cc pc .idiv pc') (hy : ¬ y = 0) (hv : x / y = v) (k : VG p l e R s m args below meth c nL kc ns Q Pr pc' L (.int v :: st)) : VG p l e R s m args below meth c nL kc ns Q Pr pc L (.int y :: .int x :: st) := by
  obtain ⟨d1, rfl⟩ := d
  subst hv
  exact fun H locs ls hP hl => lv_idiv G.1 G.2.1 d1 hy (k H locs ls hP hl)
theorem N_remC (G : Cxg p R s m args meth c cc nL own kc ns) {x y v : Int32} (d : D1 cc pc .irem pc') (hy : ¬ y = 0) (hv : x - x / y * y = v) (k : VG p l e R s m args below meth c nL kc ns Q Pr pc' L (.int v :: st)) : VG p l e R s m args below meth c nL kc ns Q Pr pc L (.int y :: .int x :: st) := by
  obtain ⟨d1, rfl⟩ := d
  subst hv
  exact fun H locs ls hP hl => lv_irem G.1 G.2.1 d1 hy (k H locs ls hP hl)
theorem N_iadd (G : Cxg p R s m args meth c cc nL own kc ns) {x y : Int32} (d : D1 cc pc .iadd pc') (k : VG p l e R s m args below meth c nL kc ns Q Pr pc' L (.int (x + y) :: st)) : VG p l e R s m args below meth c nL kc ns Q Pr pc L (.int y :: .int x :: st) := by
  obtain ⟨d1, rfl⟩ := d
  exact fun H locs ls hP hl => lv_iadd G.1 G.2.1 d1 (k H locs ls hP hl)
theorem N_isub (G : Cxg p R s m args meth c cc nL own kc ns) {x y : Int32} (d : D1 cc pc .isub pc') (k : VG p l e R s m args below meth c nL kc ns Q Pr pc' L (.int (x - y) :: st)) : VG p l e R s m args below meth c nL kc ns Q Pr pc L (.int y :: .int x :: st) := by
  obtain ⟨d1, rfl⟩ := d
  exact fun H locs ls hP hl => lv_isub G.1 G.2.1 d1 (k H locs ls hP hl)
theorem N_imul (G : Cxg p R s m args meth c cc nL own kc ns) {x y : Int32} (d : D1 cc pc .imul pc') (k : VG p l e R s m args below meth c nL kc ns Q Pr pc' L (.int (x * y) :: st)) : VG p l e R s m args below meth c nL kc ns Q Pr pc L (.int y :: .int x :: st) := by
  obtain ⟨d1, rfl⟩ := d
  exact fun H locs ls hP hl => lv_imul G.1 G.2.1 d1 (k H locs ls hP hl)
theorem N_iand (G : Cxg p R s m args meth c cc nL own kc ns) {x y : Int32} (d : D1 cc pc .iand pc') (k : VG p l e R s m args below meth c nL kc ns Q Pr pc' L (.int (x &&& y) :: st)) : VG p l e R s m args below meth c nL kc ns Q Pr pc L (.int y :: .int x :: st) := by
  obtain ⟨d1, rfl⟩ := d
  exact fun H locs ls hP hl => lv_iand G.1 G.2.1 d1 (k H locs ls hP hl)
theorem N_ior (G : Cxg p R s m args meth c cc nL own kc ns) {x y : Int32} (d : D1 cc pc .ior pc') (k : VG p l e R s m args below meth c nL kc ns Q Pr pc' L (.int (x ||| y) :: st)) : VG p l e R s m args below meth c nL kc ns Q Pr pc L (.int y :: .int x :: st) := by
  obtain ⟨d1, rfl⟩ := d
  exact fun H locs ls hP hl => lv_ior G.1 G.2.1 d1 (k H locs ls hP hl)
theorem N_ixor (G : Cxg p R s m args meth c cc nL own kc ns) {x y : Int32} (d : D1 cc pc .ixor pc') (k : VG p l e R s m args below meth c nL kc ns Q Pr pc' L (.int (x ^^^ y) :: st)) : VG p l e R s m args below meth c nL kc ns Q Pr pc L (.int y :: .int x :: st) := by
  obtain ⟨d1, rfl⟩ := d
  exact fun H locs ls hP hl => lv_ixor G.1 G.2.1 d1 (k H locs ls hP hl)
theorem N_ishl (G : Cxg p R s m args meth c cc nL own kc ns) {x y : Int32} (d : D1 cc pc .ishl pc') (k : VG p l e R s m args below meth c nL kc ns Q Pr pc' L (.int (x <<< (y &&& 31)) :: st)) : VG p l e R s m args below meth c nL kc ns Q Pr pc L (.int y :: .int x :: st) := by
  obtain ⟨d1, rfl⟩ := d
  exact fun H locs ls hP hl => lv_ishl G.1 G.2.1 d1 (k H locs ls hP hl)
theorem N_ishr (G : Cxg p R s m args meth c cc nL own kc ns) {x y : Int32} (d : D1 cc pc .ishr pc') (k : VG p l e R s m args below meth c nL kc ns Q Pr pc' L (.int (x >>> (y &&& 31)) :: st)) : VG p l e R s m args below meth c nL kc ns Q Pr pc L (.int y :: .int x :: st) := by
  obtain ⟨d1, rfl⟩ := d
  exact fun H locs ls hP hl => lv_ishr G.1 G.2.1 d1 (k H locs ls hP hl)
theorem N_iushr (G : Cxg p R s m args meth c cc nL own kc ns) {x y : Int32} (d : D1 cc pc .iushr pc') (k : VG p l e R s m args below meth c nL kc ns Q Pr pc' L (.int (x.toUInt32 >>> (y.toUInt32 &&& Int32.toUInt32 31)).toInt32 :: st)) : VG p l e R s m args below meth c nL kc ns Q Pr pc L (.int y :: .int x :: st) := by
  obtain ⟨d1, rfl⟩ := d
  exact fun H locs ls hP hl => lv_iushr G.1 G.2.1 d1 rfl (k H locs ls hP hl)
theorem N_ineg (G : Cxg p R s m args meth c cc nL own kc ns) {x : Int32} (d : D1 cc pc .ineg pc') (k : VG p l e R s m args below meth c nL kc ns Q Pr pc' L (.int (-x) :: st)) : VG p l e R s m args below meth c nL kc ns Q Pr pc L (.int x :: st) := by
  obtain ⟨d1, rfl⟩ := d
  exact fun H locs ls hP hl => lv_ineg G.1 G.2.1 d1 (k H locs ls hP hl)
theorem N_ladd (G : Cxg p R s m args meth c cc nL own kc ns) {x y : Int64} (d : D1 cc pc .ladd pc') (k : VG p l e R s m args below meth c nL kc ns Q Pr pc' L (.long (x + y) :: st)) : VG p l e R s m args below meth c nL kc ns Q Pr pc L (.long y :: .long x :: st) := by
  obtain ⟨d1, rfl⟩ := d
  exact fun H locs ls hP hl => lv_ladd G.1 G.2.1 d1 (k H locs ls hP hl)
theorem N_lsub (G : Cxg p R s m args meth c cc nL own kc ns) {x y : Int64} (d : D1 cc pc .lsub pc') (k : VG p l e R s m args below meth c nL kc ns Q Pr pc' L (.long (x - y) :: st)) : VG p l e R s m args below meth c nL kc ns Q Pr pc L (.long y :: .long x :: st) := by
  obtain ⟨d1, rfl⟩ := d
  exact fun H locs ls hP hl => lv_lsub G.1 G.2.1 d1 (k H locs ls hP hl)
theorem N_lmul (G : Cxg p R s m args meth c cc nL own kc ns) {x y : Int64} (d : D1 cc pc .lmul pc') (k : VG p l e R s m args below meth c nL kc ns Q Pr pc' L (.long (x * y) :: st)) : VG p l e R s m args below meth c nL kc ns Q Pr pc L (.long y :: .long x :: st) := by
  obtain ⟨d1, rfl⟩ := d
  exact fun H locs ls hP hl => lv_lmul G.1 G.2.1 d1 (k H locs ls hP hl)
theorem N_land (G : Cxg p R s m args meth c cc nL own kc ns) {x y : Int64} (d : D1 cc pc .land pc') (k : VG p l e R s m args below meth c nL kc ns Q Pr pc' L (.long (x &&& y) :: st)) : VG p l e R s m args below meth c nL kc ns Q Pr pc L (.long y :: .long x :: st) := by
  obtain ⟨d1, rfl⟩ := d
  exact fun H locs ls hP hl => lv_land G.1 G.2.1 d1 (k H locs ls hP hl)
theorem N_lor (G : Cxg p R s m args meth c cc nL own kc ns) {x y : Int64} (d : D1 cc pc .lor pc') (k : VG p l e R s m args below meth c nL kc ns Q Pr pc' L (.long (x ||| y) :: st)) : VG p l e R s m args below meth c nL kc ns Q Pr pc L (.long y :: .long x :: st) := by
  obtain ⟨d1, rfl⟩ := d
  exact fun H locs ls hP hl => lv_lor G.1 G.2.1 d1 (k H locs ls hP hl)
theorem N_i2l (G : Cxg p R s m args meth c cc nL own kc ns) {x : Int32} (d : D1 cc pc .i2l pc') (k : VG p l e R s m args below meth c nL kc ns Q Pr pc' L (.long x.toInt64 :: st)) : VG p l e R s m args below meth c nL kc ns Q Pr pc L (.int x :: st) := by
  obtain ⟨d1, rfl⟩ := d
  exact fun H locs ls hP hl => lv_i2l G.1 G.2.1 d1 rfl (k H locs ls hP hl)
theorem N_l2i (G : Cxg p R s m args meth c cc nL own kc ns) {x : Int64} (d : D1 cc pc .l2i pc') (k : VG p l e R s m args below meth c nL kc ns Q Pr pc' L (.int x.toInt32 :: st)) : VG p l e R s m args below meth c nL kc ns Q Pr pc L (.long x :: st) := by
  obtain ⟨d1, rfl⟩ := d
  exact fun H locs ls hP hl => lv_l2i G.1 G.2.1 d1 rfl (k H locs ls hP hl)
theorem N_idiv (G : Cxg p R s m args meth c cc nL own kc ns) {x y : Int32} {α : Type} {f : Int32 → Option α} {o : α} (d : D1 cc pc .idiv pc') (h : (mDv x y).bind f = some o) (k : ∀ z, f z = some o → VG p l e R s m args below meth c nL kc ns Q Pr pc' L (.int z :: st)) : VG p l e R s m args below meth c nL kc ns Q Pr pc L (.int y :: .int x :: st) := by
  obtain ⟨d1, rfl⟩ := d
  obtain ⟨z, hz, hf⟩ := bdS h
  unfold mDv at hz
  split at hz
  · cases hz
  · rename_i hy
    cases hz
    exact fun H locs ls hP hl => lv_idiv G.1 G.2.1 d1 hy (k _ hf H locs ls hP hl)
theorem N_irem (G : Cxg p R s m args meth c cc nL own kc ns) {x y : Int32} {α : Type} {f : Int32 → Option α} {o : α} (d : D1 cc pc .irem pc') (h : (mRm x y).bind f = some o) (k : ∀ z, f z = some o → VG p l e R s m args below meth c nL kc ns Q Pr pc' L (.int z :: st)) : VG p l e R s m args below meth c nL kc ns Q Pr pc L (.int y :: .int x :: st) := by
  obtain ⟨d1, rfl⟩ := d
  obtain ⟨z, hz, hf⟩ := bdS h
  unfold mRm at hz
  split at hz
  · cases hz
  · rename_i hy
    cases hz
    exact fun H locs ls hP hl => lv_irem G.1 G.2.1 d1 hy (k _ hf H locs ls hP hl)
theorem N_ldiv (G : Cxg p R s m args meth c cc nL own kc ns) {x y : Int64} {α : Type} {f : Int64 → Option α} {o : α} (d : D1 cc pc .ldiv pc') (h : (mDl x y).bind f = some o) (k : ∀ z, f z = some o → VG p l e R s m args below meth c nL kc ns Q Pr pc' L (.long z :: st)) : VG p l e R s m args below meth c nL kc ns Q Pr pc L (.long y :: .long x :: st) := by
  obtain ⟨d1, rfl⟩ := d
  obtain ⟨z, hz, hf⟩ := bdS h
  unfold mDl at hz
  split at hz
  · cases hz
  · rename_i hy
    cases hz
    exact fun H locs ls hP hl => lv_ldiv G.1 G.2.1 d1 hy (k _ hf H locs ls hP hl)
theorem N_iconst (G : Cxg p R s m args meth c cc nL own kc ns) {n : Int} {v : Int32} (d : D1 cc pc (.iconst n) pc') (hv : DN n v) (k : VG p l e R s m args below meth c nL kc ns Q Pr pc' L (.int v :: st)) : VG p l e R s m args below meth c nL kc ns Q Pr pc L st := by
  obtain ⟨d1, rfl⟩ := d
  exact fun H locs ls hP hl => lv_iconst G.1 G.2.1 d1 hv (k H locs ls hP hl)
theorem N_bipush (G : Cxg p R s m args meth c cc nL own kc ns) {n : Int} {v : Int32} (d : D2 cc pc (.bipush n) pc') (hv : (Int8.ofInt n).toInt32 = v) (k : VG p l e R s m args below meth c nL kc ns Q Pr pc' L (.int v :: st)) : VG p l e R s m args below meth c nL kc ns Q Pr pc L st := by
  obtain ⟨d1, rfl⟩ := d
  exact fun H locs ls hP hl => lv_bipush G.1 G.2.1 d1 hv (k H locs ls hP hl)
theorem N_sipush (G : Cxg p R s m args meth c cc nL own kc ns) {n : Int} {v : Int32} (d : D3 cc pc (.sipush n) pc') (hv : (Int16.ofInt n).toInt32 = v) (k : VG p l e R s m args below meth c nL kc ns Q Pr pc' L (.int v :: st)) : VG p l e R s m args below meth c nL kc ns Q Pr pc L st := by
  obtain ⟨d1, rfl⟩ := d
  exact fun H locs ls hP hl => lv_sipush G.1 G.2.1 d1 hv (k H locs ls hP hl)
theorem N_lconst (G : Cxg p R s m args meth c cc nL own kc ns) {n : Fin 2} {v : Int64} (d : D1 cc pc (.lconst n) pc') (hv : Int64.ofNat (n : Nat) = v) (k : VG p l e R s m args below meth c nL kc ns Q Pr pc' L (.long v :: st)) : VG p l e R s m args below meth c nL kc ns Q Pr pc L st := by
  obtain ⟨d1, rfl⟩ := d
  exact fun H locs ls hP hl => lv_lconst G.1 G.2.1 d1 hv (k H locs ls hP hl)
theorem N_ldc (G : Cxg p R s m args meth c cc nL own kc ns) {i : Nat} {v : Int32} (hw : Cond.constant own i v ∈ BW) (d : D2 cc pc (.ldc i) pc') (k : VG p l e R s m args below meth c nL kc ns Q Pr pc' L (.int v :: st)) : VG p l e R s m args below meth c nL kc ns Q Pr pc L st := by
  obtain ⟨d1, rfl⟩ := d
  exact fun H locs ls hP hl => lv_ldc G.1 G.2.1 G.2.2.2.1 (G.2.2.2.2.1 _ hw) d1 (k H locs ls hP hl)
theorem N_ldc2 (G : Cxg p R s m args meth c cc nL own kc ns) {i : Nat} {v : Int64} (hw : Cond.constantLong own i v ∈ BW) (d : D3 cc pc (.ldc2_w i) pc') (k : VG p l e R s m args below meth c nL kc ns Q Pr pc' L (.long v :: st)) : VG p l e R s m args below meth c nL kc ns Q Pr pc L st := by
  obtain ⟨d1, rfl⟩ := d
  exact fun H locs ls hP hl => lv_ldc2 G.1 G.2.1 G.2.2.2.1 (G.2.2.2.2.1 _ hw) d1 (k H locs ls hP hl)
theorem N_iload_n (G : Cxg p R s m args meth c cc nL own kc ns) {j : Fin 4} {i : Nat} {x : Int32} (d : D1 cc pc (.iload_n j) pc') (hi : (j : Nat) = i) (hx : L[i]? = some (some (.int x))) (k : VG p l e R s m args below meth c nL kc ns Q Pr pc' L (.int x :: st)) : VG p l e R s m args below meth c nL kc ns Q Pr pc L st := by
  obtain ⟨d1, rfl⟩ := d
  exact fun H locs ls hP hl => lv_iload_n G.1 G.2.1 d1 hi (hl.at hx) (k H locs ls hP hl)
theorem N_iload (G : Cxg p R s m args meth c cc nL own kc ns) {i : Nat} {x : Int32} (d : D2 cc pc (.iload i) pc') (hx : L[i]? = some (some (.int x))) (k : VG p l e R s m args below meth c nL kc ns Q Pr pc' L (.int x :: st)) : VG p l e R s m args below meth c nL kc ns Q Pr pc L st := by
  obtain ⟨d1, rfl⟩ := d
  exact fun H locs ls hP hl => lv_iload G.1 G.2.1 d1 (hl.at hx) (k H locs ls hP hl)
theorem N_lload_n (G : Cxg p R s m args meth c cc nL own kc ns) {j : Fin 4} {i : Nat} {x : Int64} (d : D1 cc pc (.lload_n j) pc') (hi : (j : Nat) = i) (hx : L[i]? = some (some (.long x))) (k : VG p l e R s m args below meth c nL kc ns Q Pr pc' L (.long x :: st)) : VG p l e R s m args below meth c nL kc ns Q Pr pc L st := by
  obtain ⟨d1, rfl⟩ := d
  exact fun H locs ls hP hl => lv_lload_n G.1 G.2.1 d1 hi (hl.at hx) (k H locs ls hP hl)
theorem N_lload (G : Cxg p R s m args meth c cc nL own kc ns) {i : Nat} {x : Int64} (d : D2 cc pc (.lload i) pc') (hx : L[i]? = some (some (.long x))) (k : VG p l e R s m args below meth c nL kc ns Q Pr pc' L (.long x :: st)) : VG p l e R s m args below meth c nL kc ns Q Pr pc L st := by
  obtain ⟨d1, rfl⟩ := d
  exact fun H locs ls hP hl => lv_lload G.1 G.2.1 d1 (hl.at hx) (k H locs ls hP hl)
theorem N_aload_n (G : Cxg p R s m args meth c cc nL own kc ns) {j : Fin 4} {i : Nat} {x : Nat} (d : D1 cc pc (.aload_n j) pc') (hi : (j : Nat) = i) (hx : L[i]? = some (some (.ref x))) (k : VG p l e R s m args below meth c nL kc ns Q Pr pc' L (.ref x :: st)) : VG p l e R s m args below meth c nL kc ns Q Pr pc L st := by
  obtain ⟨d1, rfl⟩ := d
  exact fun H locs ls hP hl => lv_aload_n G.1 G.2.1 d1 hi (hl.at hx) (k H locs ls hP hl)
theorem N_aload (G : Cxg p R s m args meth c cc nL own kc ns) {i : Nat} {x : Nat} (d : D2 cc pc (.aload i) pc') (hx : L[i]? = some (some (.ref x))) (k : VG p l e R s m args below meth c nL kc ns Q Pr pc' L (.ref x :: st)) : VG p l e R s m args below meth c nL kc ns Q Pr pc L st := by
  obtain ⟨d1, rfl⟩ := d
  exact fun H locs ls hP hl => lv_aload G.1 G.2.1 d1 (hl.at hx) (k H locs ls hP hl)
theorem N_istore_n (G : Cxg p R s m args meth c cc nL own kc ns) {i : Nat} {j : Fin 4} (hi : (j : Nat) = i) {x : Int32} {α : Type} {f : Int32 → Option α} {o : α} {L' : Int32 → List (Option Value)} (d : D1 cc pc (.istore_n j) pc') (hn : i < nL) (hc : lC L i = true) (hL : ∀ y, L.set i (some (.int y)) = L' y) (h : (some x).bind f = some o) (k : ∀ y, f y = some o → VG p l e R s m args below meth c nL kc ns Q Pr pc' (L' y) st) : VG p l e R s m args below meth c nL kc ns Q Pr pc L (.int x :: st) := by
  obtain ⟨d1, rfl⟩ := d
  intro H locs ls hP hl
  refine lv_istore_n (lv' := _) G.1 G.2.1 d1 hi hl hn rfl (fun ls' hl' => k x h H locs ls' hP ?_)
  rw [← hL]
  exact lA_store hl' (lC_set hc)
theorem N_istore (G : Cxg p R s m args meth c cc nL own kc ns) {i : Nat}  {x : Int32} {α : Type} {f : Int32 → Option α} {o : α} {L' : Int32 → List (Option Value)} (d : D2 cc pc (.istore i) pc') (hn : i < nL) (hc : lC L i = true) (hL : ∀ y, L.set i (some (.int y)) = L' y) (h : (some x).bind f = some o) (k : ∀ y, f y = some o → VG p l e R s m args below meth c nL kc ns Q Pr pc' (L' y) st) : VG p l e R s m args below meth c nL kc ns Q Pr pc L (.int x :: st) := by
  obtain ⟨d1, rfl⟩ := d
  intro H locs ls hP hl
  refine lv_istore (lv' := _) G.1 G.2.1 d1 hl hn rfl (fun ls' hl' => k x h H locs ls' hP ?_)
  rw [← hL]
  exact lA_store hl' (lC_set hc)
theorem N_astore_n (G : Cxg p R s m args meth c cc nL own kc ns) {i : Nat} {j : Fin 4} (hi : (j : Nat) = i) {x : Nat} {α : Type} {f : Nat → Option α} {o : α} {L' : Nat → List (Option Value)} (d : D1 cc pc (.astore_n j) pc') (hn : i < nL) (hc : lC L i = true) (hL : ∀ y, L.set i (some (.ref y)) = L' y) (h : (some x).bind f = some o) (k : ∀ y, f y = some o → VG p l e R s m args below meth c nL kc ns Q Pr pc' (L' y) st) : VG p l e R s m args below meth c nL kc ns Q Pr pc L (.ref x :: st) := by
  obtain ⟨d1, rfl⟩ := d
  intro H locs ls hP hl
  refine lv_astore_n (lv' := _) G.1 G.2.1 d1 hi hl hn rfl (fun ls' hl' => k x h H locs ls' hP ?_)
  rw [← hL]
  exact lA_store hl' (lC_set hc)
theorem N_astore (G : Cxg p R s m args meth c cc nL own kc ns) {i : Nat}  {x : Nat} {α : Type} {f : Nat → Option α} {o : α} {L' : Nat → List (Option Value)} (d : D2 cc pc (.astore i) pc') (hn : i < nL) (hc : lC L i = true) (hL : ∀ y, L.set i (some (.ref y)) = L' y) (h : (some x).bind f = some o) (k : ∀ y, f y = some o → VG p l e R s m args below meth c nL kc ns Q Pr pc' (L' y) st) : VG p l e R s m args below meth c nL kc ns Q Pr pc L (.ref x :: st) := by
  obtain ⟨d1, rfl⟩ := d
  intro H locs ls hP hl
  refine lv_astore (lv' := _) G.1 G.2.1 d1 hl hn rfl (fun ls' hl' => k x h H locs ls' hP ?_)
  rw [← hL]
  exact lA_store hl' (lC_set hc)
theorem N_lstore_n (G : Cxg p R s m args meth c cc nL own kc ns) {i : Nat} {j : Fin 4} (hi : (j : Nat) = i) {x : Int64} {α : Type} {f : Int64 → Option α} {o : α} {L' : Int64 → List (Option Value)} (d : D1 cc pc (.lstore_n j) pc') (hn : i + 1 < nL) (hc : lC L i = true) (hL : ∀ y, (L.set i (some (.long y))).set (i + 1) none = L' y) (h : (some x).bind f = some o) (k : ∀ y, f y = some o → VG p l e R s m args below meth c nL kc ns Q Pr pc' (L' y) st) : VG p l e R s m args below meth c nL kc ns Q Pr pc L (.long x :: st) := by
  obtain ⟨d1, rfl⟩ := d
  intro H locs ls hP hl
  refine lv_lstore_n (lv' := _) G.1 G.2.1 d1 hi hl hn rfl (fun ls' hl' => k x h H locs ls' hP ?_)
  rw [← hL]
  exact lA_storeL hl' (lC_setL hc)
theorem N_lstore (G : Cxg p R s m args meth c cc nL own kc ns) {i : Nat}  {x : Int64} {α : Type} {f : Int64 → Option α} {o : α} {L' : Int64 → List (Option Value)} (d : D2 cc pc (.lstore i) pc') (hn : i + 1 < nL) (hc : lC L i = true) (hL : ∀ y, (L.set i (some (.long y))).set (i + 1) none = L' y) (h : (some x).bind f = some o) (k : ∀ y, f y = some o → VG p l e R s m args below meth c nL kc ns Q Pr pc' (L' y) st) : VG p l e R s m args below meth c nL kc ns Q Pr pc L (.long x :: st) := by
  obtain ⟨d1, rfl⟩ := d
  intro H locs ls hP hl
  refine lv_lstore (lv' := _) G.1 G.2.1 d1 hl hn rfl (fun ls' hl' => k x h H locs ls' hP ?_)
  rw [← hL]
  exact lA_storeL hl' (lC_setL hc)
theorem N_iinc (G : Cxg p R s m args meth c cc nL own kc ns) {i : Nat} {n : Int} {x z : Int32} {α : Type} {f : Int32 → Option α} {o : α} {L' : Int32 → List (Option Value)} (d : D3 cc pc (.iinc i n) pc') (hx : L[i]? = some (some (.int x))) (hz : Int32.ofInt n = z) (hn : i < nL) (hc : lC L i = true) (hL : ∀ y, L.set i (some (.int y)) = L' y) (h : (some (x + z)).bind f = some o) (k : ∀ y, f y = some o → VG p l e R s m args below meth c nL kc ns Q Pr pc' (L' y) st) : VG p l e R s m args below meth c nL kc ns Q Pr pc L st := by
  obtain ⟨d1, rfl⟩ := d
  subst hz
  intro H locs ls hP hl
  obtain ⟨q, hq⟩ := List.getElem?_of_mem (lA_mem.mpr ⟨i, by omega, hx⟩ : (i, Value.int x) ∈ lA 0 L)
  refine lv_iinc (lv' := _) (v := x + Int32.ofInt n) G.1 G.2.1 d1 hl hq rfl hn rfl (fun ls' hl' => k _ h H locs ls' hP ?_)
  rw [← hL]
  exact lA_store hl' (lC_set hc)
theorem N_istoreA_n (G : Cxg p R s m args meth c cc nL own kc ns) {i : Nat} {j : Fin 4} (hi : (j : Nat) = i) {x : Int32} {L' : List (Option Value)} (d : D1 cc pc (.istore_n j) pc') (hn : i < nL) (hc : lC L i = true) (hL : L.set i (some (.int x)) = L') (k : VG p l e R s m args below meth c nL kc ns Q Pr pc' L' st) : VG p l e R s m args below meth c nL kc ns Q Pr pc L (.int x :: st) := by
  obtain ⟨d1, rfl⟩ := d
  intro H locs ls hP hl
  refine lv_istore_n (lv' := _) G.1 G.2.1 d1 hi hl hn rfl (fun ls' hl' => k H locs ls' hP ?_)
  rw [← hL]
  exact lA_store hl' (lC_set hc)
theorem N_istoreA (G : Cxg p R s m args meth c cc nL own kc ns) {i : Nat}  {x : Int32} {L' : List (Option Value)} (d : D2 cc pc (.istore i) pc') (hn : i < nL) (hc : lC L i = true) (hL : L.set i (some (.int x)) = L') (k : VG p l e R s m args below meth c nL kc ns Q Pr pc' L' st) : VG p l e R s m args below meth c nL kc ns Q Pr pc L (.int x :: st) := by
  obtain ⟨d1, rfl⟩ := d
  intro H locs ls hP hl
  refine lv_istore (lv' := _) G.1 G.2.1 d1 hl hn rfl (fun ls' hl' => k H locs ls' hP ?_)
  rw [← hL]
  exact lA_store hl' (lC_set hc)
theorem N_lstoreA_n (G : Cxg p R s m args meth c cc nL own kc ns) {i : Nat} {j : Fin 4} (hi : (j : Nat) = i) {x : Int64} {L' : List (Option Value)} (d : D1 cc pc (.lstore_n j) pc') (hn : i + 1 < nL) (hc : lC L i = true) (hL : (L.set i (some (.long x))).set (i + 1) none = L') (k : VG p l e R s m args below meth c nL kc ns Q Pr pc' L' st) : VG p l e R s m args below meth c nL kc ns Q Pr pc L (.long x :: st) := by
  obtain ⟨d1, rfl⟩ := d
  intro H locs ls hP hl
  refine lv_lstore_n (lv' := _) G.1 G.2.1 d1 hi hl hn rfl (fun ls' hl' => k H locs ls' hP ?_)
  rw [← hL]
  exact lA_storeL hl' (lC_setL hc)
theorem N_lstoreA (G : Cxg p R s m args meth c cc nL own kc ns) {i : Nat}  {x : Int64} {L' : List (Option Value)} (d : D2 cc pc (.lstore i) pc') (hn : i + 1 < nL) (hc : lC L i = true) (hL : (L.set i (some (.long x))).set (i + 1) none = L') (k : VG p l e R s m args below meth c nL kc ns Q Pr pc' L' st) : VG p l e R s m args below meth c nL kc ns Q Pr pc L (.long x :: st) := by
  obtain ⟨d1, rfl⟩ := d
  intro H locs ls hP hl
  refine lv_lstore (lv' := _) G.1 G.2.1 d1 hl hn rfl (fun ls' hl' => k H locs ls' hP ?_)
  rw [← hL]
  exact lA_storeL hl' (lC_setL hc)
theorem N_lcmp (G : Cxg p R s m args meth c cc nL own kc ns) {x y : Int64} (d : D1 cc pc .lcmp pc') (k : VG p l e R s m args below meth c nL kc ns Q Pr pc' L (.int (lg_cmp x y) :: st)) : VG p l e R s m args below meth c nL kc ns Q Pr pc L (.long y :: .long x :: st) := by
  obtain ⟨d1, rfl⟩ := d
  exact fun H locs ls hP hl => W.lcmp G.1 G.2.1 d1 (k H locs ls hP hl)
theorem N_icmp_eq (G : Cxg p R s m args meth c cc nL own kc ns) {x y : Int32} {α : Type} {a b : Option α} {o : α} (d : DJ cc pc (.if_icmp .eq) tgt pc') (h : (if x = y then a else b) = some o) (kt : a = some o → VG p l e R s m args below meth c nL kc ns Q Pr tgt L st) (kf : b = some o → VG p l e R s m args below meth c nL kc ns Q Pr pc' L st) : VG p l e R s m args below meth c nL kc ns Q Pr pc L (.int y :: .int x :: st) := by
  obtain ⟨off, d1, d2, rfl⟩ := d
  exact fun H locs ls hP hl => lv_icmp_eq G.1 G.2.1 d1 d2 (fun c => kt ((if_pos c).symm.trans h) H locs ls hP hl) (fun c => kf ((if_neg c).symm.trans h) H locs ls hP hl)
theorem N_if_eq (G : Cxg p R s m args meth c cc nL own kc ns) {x : Int32} {α : Type} {a b : Option α} {o : α} (d : DJ cc pc (.ifCond .eq) tgt pc') (h : (if x = 0 then a else b) = some o) (kt : a = some o → VG p l e R s m args below meth c nL kc ns Q Pr tgt L st) (kf : b = some o → VG p l e R s m args below meth c nL kc ns Q Pr pc' L st) : VG p l e R s m args below meth c nL kc ns Q Pr pc L (.int x :: st) := by
  obtain ⟨off, d1, d2, rfl⟩ := d
  exact fun H locs ls hP hl => lv_if_eq G.1 G.2.1 d1 d2 (fun c => kt ((if_pos c).symm.trans h) H locs ls hP hl) (fun c => kf ((if_neg c).symm.trans h) H locs ls hP hl)
theorem N_icmp_ne (G : Cxg p R s m args meth c cc nL own kc ns) {x y : Int32} {α : Type} {a b : Option α} {o : α} (d : DJ cc pc (.if_icmp .ne) tgt pc') (h : (if x = y then b else a) = some o) (kt : a = some o → VG p l e R s m args below meth c nL kc ns Q Pr tgt L st) (kf : b = some o → VG p l e R s m args below meth c nL kc ns Q Pr pc' L st) : VG p l e R s m args below meth c nL kc ns Q Pr pc L (.int y :: .int x :: st) := by
  obtain ⟨off, d1, d2, rfl⟩ := d
  exact fun H locs ls hP hl => lv_icmp_ne G.1 G.2.1 d1 d2 (fun c => kt ((if_neg c).symm.trans h) H locs ls hP hl) (fun c => kf ((if_pos c).symm.trans h) H locs ls hP hl)
theorem N_if_ne (G : Cxg p R s m args meth c cc nL own kc ns) {x : Int32} {α : Type} {a b : Option α} {o : α} (d : DJ cc pc (.ifCond .ne) tgt pc') (h : (if x = 0 then b else a) = some o) (kt : a = some o → VG p l e R s m args below meth c nL kc ns Q Pr tgt L st) (kf : b = some o → VG p l e R s m args below meth c nL kc ns Q Pr pc' L st) : VG p l e R s m args below meth c nL kc ns Q Pr pc L (.int x :: st) := by
  obtain ⟨off, d1, d2, rfl⟩ := d
  exact fun H locs ls hP hl => lv_if_ne G.1 G.2.1 d1 d2 (fun c => kt ((if_neg c).symm.trans h) H locs ls hP hl) (fun c => kf ((if_pos c).symm.trans h) H locs ls hP hl)
theorem N_icmp_lt (G : Cxg p R s m args meth c cc nL own kc ns) {x y : Int32} {α : Type} {a b : Option α} {o : α} (d : DJ cc pc (.if_icmp .lt) tgt pc') (h : (if x < y then a else b) = some o) (kt : a = some o → VG p l e R s m args below meth c nL kc ns Q Pr tgt L st) (kf : b = some o → VG p l e R s m args below meth c nL kc ns Q Pr pc' L st) : VG p l e R s m args below meth c nL kc ns Q Pr pc L (.int y :: .int x :: st) := by
  obtain ⟨off, d1, d2, rfl⟩ := d
  exact fun H locs ls hP hl => lv_icmp_lt G.1 G.2.1 d1 d2 (fun c => kt ((if_pos c).symm.trans h) H locs ls hP hl) (fun c => kf ((if_neg c).symm.trans h) H locs ls hP hl)
theorem N_if_lt (G : Cxg p R s m args meth c cc nL own kc ns) {x : Int32} {α : Type} {a b : Option α} {o : α} (d : DJ cc pc (.ifCond .lt) tgt pc') (h : (if x < 0 then a else b) = some o) (kt : a = some o → VG p l e R s m args below meth c nL kc ns Q Pr tgt L st) (kf : b = some o → VG p l e R s m args below meth c nL kc ns Q Pr pc' L st) : VG p l e R s m args below meth c nL kc ns Q Pr pc L (.int x :: st) := by
  obtain ⟨off, d1, d2, rfl⟩ := d
  exact fun H locs ls hP hl => lv_if_lt G.1 G.2.1 d1 d2 (fun c => kt ((if_pos c).symm.trans h) H locs ls hP hl) (fun c => kf ((if_neg c).symm.trans h) H locs ls hP hl)
theorem N_icmp_ge (G : Cxg p R s m args meth c cc nL own kc ns) {x y : Int32} {α : Type} {a b : Option α} {o : α} (d : DJ cc pc (.if_icmp .ge) tgt pc') (h : (if x < y then b else a) = some o) (kt : a = some o → VG p l e R s m args below meth c nL kc ns Q Pr tgt L st) (kf : b = some o → VG p l e R s m args below meth c nL kc ns Q Pr pc' L st) : VG p l e R s m args below meth c nL kc ns Q Pr pc L (.int y :: .int x :: st) := by
  obtain ⟨off, d1, d2, rfl⟩ := d
  exact fun H locs ls hP hl => lv_icmp_ge G.1 G.2.1 d1 d2 (fun c => kt ((if_neg (Int32.not_lt.mpr c)).symm.trans h) H locs ls hP hl) (fun c => kf ((if_pos (Int32.not_le.mp c)).symm.trans h) H locs ls hP hl)
theorem N_if_ge (G : Cxg p R s m args meth c cc nL own kc ns) {x : Int32} {α : Type} {a b : Option α} {o : α} (d : DJ cc pc (.ifCond .ge) tgt pc') (h : (if x < 0 then b else a) = some o) (kt : a = some o → VG p l e R s m args below meth c nL kc ns Q Pr tgt L st) (kf : b = some o → VG p l e R s m args below meth c nL kc ns Q Pr pc' L st) : VG p l e R s m args below meth c nL kc ns Q Pr pc L (.int x :: st) := by
  obtain ⟨off, d1, d2, rfl⟩ := d
  exact fun H locs ls hP hl => lv_if_ge G.1 G.2.1 d1 d2 (fun c => kt ((if_neg (Int32.not_lt.mpr c)).symm.trans h) H locs ls hP hl) (fun c => kf ((if_pos (Int32.not_le.mp c)).symm.trans h) H locs ls hP hl)
theorem N_icmp_gt (G : Cxg p R s m args meth c cc nL own kc ns) {x y : Int32} {α : Type} {a b : Option α} {o : α} (d : DJ cc pc (.if_icmp .gt) tgt pc') (h : (if y < x then a else b) = some o) (kt : a = some o → VG p l e R s m args below meth c nL kc ns Q Pr tgt L st) (kf : b = some o → VG p l e R s m args below meth c nL kc ns Q Pr pc' L st) : VG p l e R s m args below meth c nL kc ns Q Pr pc L (.int y :: .int x :: st) := by
  obtain ⟨off, d1, d2, rfl⟩ := d
  exact fun H locs ls hP hl => lv_icmp_gt G.1 G.2.1 d1 d2 (fun c => kt ((if_pos c).symm.trans h) H locs ls hP hl) (fun c => kf ((if_neg c).symm.trans h) H locs ls hP hl)
theorem N_if_gt (G : Cxg p R s m args meth c cc nL own kc ns) {x : Int32} {α : Type} {a b : Option α} {o : α} (d : DJ cc pc (.ifCond .gt) tgt pc') (h : (if 0 < x then a else b) = some o) (kt : a = some o → VG p l e R s m args below meth c nL kc ns Q Pr tgt L st) (kf : b = some o → VG p l e R s m args below meth c nL kc ns Q Pr pc' L st) : VG p l e R s m args below meth c nL kc ns Q Pr pc L (.int x :: st) := by
  obtain ⟨off, d1, d2, rfl⟩ := d
  exact fun H locs ls hP hl => lv_if_gt G.1 G.2.1 d1 d2 (fun c => kt ((if_pos c).symm.trans h) H locs ls hP hl) (fun c => kf ((if_neg c).symm.trans h) H locs ls hP hl)
theorem N_icmp_le (G : Cxg p R s m args meth c cc nL own kc ns) {x y : Int32} {α : Type} {a b : Option α} {o : α} (d : DJ cc pc (.if_icmp .le) tgt pc') (h : (if y < x then b else a) = some o) (kt : a = some o → VG p l e R s m args below meth c nL kc ns Q Pr tgt L st) (kf : b = some o → VG p l e R s m args below meth c nL kc ns Q Pr pc' L st) : VG p l e R s m args below meth c nL kc ns Q Pr pc L (.int y :: .int x :: st) := by
  obtain ⟨off, d1, d2, rfl⟩ := d
  exact fun H locs ls hP hl => lv_icmp_le G.1 G.2.1 d1 d2 (fun c => kt ((if_neg (Int32.not_lt.mpr c)).symm.trans h) H locs ls hP hl) (fun c => kf ((if_pos (Int32.not_le.mp c)).symm.trans h) H locs ls hP hl)
theorem N_if_le (G : Cxg p R s m args meth c cc nL own kc ns) {x : Int32} {α : Type} {a b : Option α} {o : α} (d : DJ cc pc (.ifCond .le) tgt pc') (h : (if 0 < x then b else a) = some o) (kt : a = some o → VG p l e R s m args below meth c nL kc ns Q Pr tgt L st) (kf : b = some o → VG p l e R s m args below meth c nL kc ns Q Pr pc' L st) : VG p l e R s m args below meth c nL kc ns Q Pr pc L (.int x :: st) := by
  obtain ⟨off, d1, d2, rfl⟩ := d
  exact fun H locs ls hP hl => lv_if_le G.1 G.2.1 d1 d2 (fun c => kt ((if_neg (Int32.not_lt.mpr c)).symm.trans h) H locs ls hP hl) (fun c => kf ((if_pos (Int32.not_le.mp c)).symm.trans h) H locs ls hP hl)
theorem N_dup (G : Cxg p R s m args meth c cc nL own kc ns) {v : Value} (d : D1 cc pc .dup pc') (hv : v.category = 1) (k : VG p l e R s m args below meth c nL kc ns Q Pr pc' L (v :: v :: st)) : VG p l e R s m args below meth c nL kc ns Q Pr pc L (v :: st) := by
  obtain ⟨d1, rfl⟩ := d
  exact fun H locs ls hP hl => lv_dup G.1 G.2.1 d1 hv (k H locs ls hP hl)
theorem N_pop (G : Cxg p R s m args meth c cc nL own kc ns) {v : Value} (d : D1 cc pc .pop pc') (hv : v.category = 1) (k : VG p l e R s m args below meth c nL kc ns Q Pr pc' L st) : VG p l e R s m args below meth c nL kc ns Q Pr pc L (v :: st) := by
  obtain ⟨d1, rfl⟩ := d
  exact fun H locs ls hP hl => lv_pop G.1 G.2.1 d1 hv (k H locs ls hP hl)
theorem N_dup_x1 (G : Cxg p R s m args meth c cc nL own kc ns) {va vb : Value} (d : D1 cc pc .dup_x1 pc') (ha : va.category = 1) (hb : vb.category = 1) (k : VG p l e R s m args below meth c nL kc ns Q Pr pc' L (va :: vb :: va :: st)) : VG p l e R s m args below meth c nL kc ns Q Pr pc L (va :: vb :: st) := by
  obtain ⟨d1, rfl⟩ := d
  exact fun H locs ls hP hl => lv_dup_x1 G.1 G.2.1 d1 ha hb (k H locs ls hP hl)
theorem N_dup2_11 (G : Cxg p R s m args meth c cc nL own kc ns) {va vb : Value} (d : D1 cc pc .dup2 pc') (ha : va.category = 1) (hb : vb.category = 1) (k : VG p l e R s m args below meth c nL kc ns Q Pr pc' L (va :: vb :: va :: vb :: st)) : VG p l e R s m args below meth c nL kc ns Q Pr pc L (va :: vb :: st) := by
  obtain ⟨d1, rfl⟩ := d
  exact fun H locs ls hP hl => lv_dup2_11 G.1 G.2.1 d1 ha hb (k H locs ls hP hl)
theorem N_dup_x2 (G : Cxg p R s m args meth c cc nL own kc ns) {va vb vd : Value} (d : D1 cc pc .dup_x2 pc') (ha : va.category = 1) (hb : vb.category = 1) (hd : vd.category = 1) (k : VG p l e R s m args below meth c nL kc ns Q Pr pc' L (va :: vb :: vd :: va :: st)) : VG p l e R s m args below meth c nL kc ns Q Pr pc L (va :: vb :: vd :: st) := by
  obtain ⟨d1, rfl⟩ := d
  exact fun H locs ls hP hl => lv_dup_x2 G.1 G.2.1 d1 ha hb hd (k H locs ls hP hl)
end RowsN
/-! the cells made since: by their places behind h -/
def dW (h : Nat) : List va_E → va_W
  | [] => []
  | e :: t => (h, e) :: dW (h + 1) t
theorem dW_at {ds : List va_E} : ∀ {h k : Nat} {e : va_E}, ds[k]? = some e → (dW h ds)[k]? = some (h + k, e) := by
  induction ds with
  | nil => intro h k e q; simp at q
  | cons a t ih =>
    intro h k e q
    cases k with
    | zero => simp at q; subst q; rfl
    | succ k =>
      have := ih (h := h + 1) (k := k) (e := e) (by simpa using q)
      simp only [dW, List.getElem?_cons_succ, this]
      congr 2
      omega
theorem dW_of {ds : List va_E} : ∀ {h k : Nat} {q : Nat × va_E}, (dW h ds)[k]? = some q → q.1 = h + k ∧ ds[k]? = some q.2 := by
  induction ds with
  | nil => intro h k q hq; simp [dW] at hq
  | cons a t ih =>
    intro h k q hq
    cases k with
    | zero => simp [dW] at hq; subst hq; exact ⟨rfl, rfl⟩
    | succ k =>
      have := ih (h := h + 1) (k := k) (q := q) (by simpa [dW] using hq)
      exact ⟨by omega, by simpa using this.2⟩
theorem dW_len {ds : List va_E} : ∀ {h : Nat}, (dW h ds).length = ds.length := by
  induction ds with
  | nil => intro h; rfl
  | cons a t ih => intro h; simp [dW, ih]
theorem dW_set {ds : List va_E} : ∀ {h k : Nat} {e : va_E}, (dW h ds).set k (h + k, e) = dW h (ds.set k e) := by
  induction ds with
  | nil => intro h k e; rfl
  | cons a t ih =>
    intro h k e
    cases k with
    | zero => rfl
    | succ k =>
      have := ih (h := h + 1) (k := k) (e := e)
      rw [show h + (k + 1) = h + 1 + k by omega]
      simp only [dW, List.set_cons_succ, this]
theorem dW_app {a b : List va_E} : ∀ {h : Nat}, dW h (a ++ b) = dW h a ++ dW (h + a.length) b := by
  induction a with
  | nil => intro h; rfl
  | cons x t ih =>
    intro h
    simp only [List.cons_append, dW, ih, List.length_cons]
    rw [show h + 1 + t.length = h + (t.length + 1) by omega]
/-- what is known of the tables where objects are made -/
def aOv (U : State) : Prop := (Cond.arrayOver (.array .int)).before #[] U = true ∧ (Cond.arrayOver (.array .long)).before #[] U = true
theorem aOv.moved {u U : State} (hvm : u.vm.Alike U.vm) (h : aOv u) : aOv U := by
  constructor
  · have := h.1
    rw [← Cond.arrayOver_setVmC (s := u) (vm' := U.vm) hvm] at this
    exact this
  · have := h.2
    rw [← Cond.arrayOver_setVmC (s := u) (vm' := U.vm) hvm] at this
    exact this
def cKn (w : Wld) (U : State) : Prop := va_K w.1 vwCl (wTy w) U ∧ (∀ x ∈ NL, va_Nw x U) ∧ aOv U
theorem cKn.warm {w : Wld} {s U : State} (hW : s.WarmedH U.vm) (h : cKn w s) : cKn w U := ⟨va_K.moved hW.alike h.1, NL_warm hW h.2.1, h.2.2.moved hW.alike⟩
theorem cKn.calling {w : Wld} {U : State} (g : JFrame) (mk : MethodId) (a : Array Value) (h : cKn w U) : cKn w (U.calling g mk a) := ⟨va_K.moved (u := U) (U := U.calling g mk a) (Vm.Alike.refl U.vm) h.1, NL_same (s := U) (U := U.calling g mk a) rfl h.2.1, h.2.2.moved (u := U) (U := U.calling g mk a) (Vm.Alike.refl U.vm)⟩
/-- the object under making at o, the cells made since at h and on -/
def cA (o h : Nat) : Nat → Prop := fun q => q = o ∨ h ≤ q
def cPr (w : Wld) (s : State) (X : va_W) (A : Nat → Prop) (ds : List va_E) : Heap → List Loc → Prop := fun H locs =>
  va_P w.1 vwCl (X ++ dW s.heap.size ds) H ∧ H.size = s.heap.size + ds.length ∧ va_S A s.heap H locs
def cOk (h : Nat) (X : va_W) (A : Nat → Prop) : Prop := va_D A X ∧ (∀ (k : Nat) (q : Nat × va_E), X[k]? = some q → q.1 < h) ∧ ∀ q, h ≤ q → A q
theorem cOk_this {o h j : Nat} {fs : List Value} (ho : o < h) : cOk h [(o, .inr (j, fs))] (cA o h) := by
  refine ⟨⟨fun a b p q hp hq _ => ?_, fun k q hq => ?_⟩, fun k q hq => ?_, fun q hq => Or.inr hq⟩
  · have h1 := (List.getElem?_eq_some_iff.mp hp).1
    have h2 := (List.getElem?_eq_some_iff.mp hq).1
    simp at h1 h2
    omega
  · have h1 := (List.getElem?_eq_some_iff.mp hq).1
    simp at h1
    subst h1
    simp at hq
    subst hq
    exact Or.inl rfl
  · have h1 := (List.getElem?_eq_some_iff.mp hq).1
    simp at h1
    subst h1
    simp at hq
    subst hq
    exact ho
theorem cOk_nil {h : Nat} : cOk h [] (fun q => h ≤ q) := ⟨⟨fun a b p q hp _ _ => by simp at hp, fun k q hq => by simp at hq⟩, fun k q hq => by simp at hq, fun _ h => h⟩
theorem cD {h : Nat} {X : va_W} {A : Nat → Prop} {ds : List va_E} (hX : cOk h X A) : va_D A (X ++ dW h ds) := by
  constructor
  · intro a b p q hp hq e
    rw [List.getElem?_append] at hp hq
    split at hp <;> split at hq
    · exact hX.1.1 a b p q hp hq e
    · have h1 := hX.2.1 a p hp
      have h2 := dW_of hq
      omega
    · have h1 := hX.2.1 b q hq
      have h2 := dW_of hp
      omega
    · have h1 := dW_of hp
      have h2 := dW_of hq
      omega
  · intro k q hq
    rw [List.getElem?_append] at hq
    split at hq
    · exact hX.1.2 k q hq
    · have h2 := dW_of hq
      exact hX.2.2 _ (by omega)
theorem cAt {h q : Nat} {X : va_W} {ds : List va_E} {e : va_E} (he : ds[q]? = some e) : (X ++ dW h ds)[X.length + q]? = some (h + q, e) := by
  rw [List.getElem?_append_right (by omega), show X.length + q - X.length = q by omega]
  exact dW_at he
theorem cSet {h q : Nat} {X : va_W} {ds : List va_E} {e : va_E} : (X ++ dW h ds).set (X.length + q) (h + q, e) = X ++ dW h (ds.set q e) := by
  rw [List.set_append_right _ _ (by omega), show X.length + q - X.length = q by omega, dW_set]
section RowsC
variable {p : Program} {l : Launch} {e : Env} {R : Room} {s : State} {m : MethodId} {args : Array Value} {below : List Frame} {meth : Method} {c : Code} {cc : ByteArray} {nL : Nat} {own : String} {lev : Nat} {Q : State → Prop} {pc pc' tgt kc ns : Nat} {L : List (Option Value)} {st st0 : List Value} {w : Wld} {o j : Nat} {fs : List Value} {X : va_W} {A : Nat → Prop} {ds : List va_E}
theorem C_get (G : Cxg p R s m args meth c cc nL own kc ns) (K : cKn w s) {idx k : Nat} {v : Value} (hf : FG own idx j k) (hv : fs[k]? = some v) (d : D3 cc pc (.getfield idx) pc')
    (kk : VG p l e R s m args below meth c nL kc ns Q (cPr w s [(o, .inr (j, fs))] (cA o s.heap.size) ds) pc' L (v :: st)) : VG p l e R s m args below meth c nL kc ns Q (cPr w s [(o, .inr (j, fs))] (cA o s.heap.size) ds) pc L (.ref o :: st) := by
  obtain ⟨d1, rfl⟩ := d
  obtain ⟨C, T, N, ⟨f1, f2, f3, f4, f5, f6⟩, hk, hlink⟩ := hf
  intro H locs ls hP hl
  rcases hlink with hlink | ⟨host, hlink⟩
  · exact va_get (own := own) G.1 G.2.1 G.2.2.2.2.1 f2 G.2.2.2.1 K.1 hP.1 0 rfl f1 k hk (G.2.2.2.2.1 _ hlink) (fun _ h => h) hv d1 (kk H locs ls hP hl)
  · exact va_getN (own := own) G.1 G.2.1 G.2.2.2.2.1 f2 G.2.2.2.1 K.1 hP.1 0 rfl f1 k hk (va_Nw.use rfl (K.2.1 _ hlink)) (fun _ h => h) hv d1 (kk H locs ls hP hl)
/-- a final field of the object under making -/
def FF (own : String) (idx j k : Nat) (ty : FieldType) : Prop := ∃ (C : String) (T : u_T) (N : Nat), Cf j C T N ∧ k < N ∧ Cond.fieldLink own idx (T k).1 (T k).2.1 (T k).2.2.1 ∈ BW ∧ (T k).2.2.2 = true ∧ (T k).1 = own ∧ parseFieldDescriptor (T k).2.2.1 = some ty
theorem C_putF (G : Cxg p R s m args meth c cc nL own kc ns) (K : cKn w s) (hin2 : meth.name = "<init>") (ho : o < s.heap.size) {idx k : Nat} {ty : FieldType} {v : Value} (hf : FF own idx j k ty) (hn : narrow ty v = v) (hfit : fits ty v = true) (hl' : k < fs.length) (d : D3 cc pc (.putfield idx) pc')
    (kk : VG p l e R s m args below meth c nL kc ns Q (cPr w s [(o, .inr (j, fs.set k v))] (cA o s.heap.size) ds) pc' L st) : VG p l e R s m args below meth c nL kc ns Q (cPr w s [(o, .inr (j, fs))] (cA o s.heap.size) ds) pc L (v :: .ref o :: st) := by
  obtain ⟨d1, rfl⟩ := d
  obtain ⟨C, T, N, ⟨f1, f2, ⟨ty0, f3⟩, f4, f5, f6⟩, hk, hlink, hfin, hdecl, hd⟩ := hf
  intro H locs ls hP hl
  have hts := G.2.2.2.2.1
  have hown := G.2.2.2.1
  have hap := va_apart (own := own) hts f2 ty0 f3 f4 K.1 f1
  obtain ⟨r, h1, cell, q1, q2, q3, q4⟩ := hP.1 0 _ rfl
  have hr : r = (C, T, N) := Option.some.inj (h1.symm.trans f1)
  subst hr
  obtain ⟨hS, hfc, kC, hkC, hkind⟩ := K.1.1 j _ f1
  obtain ⟨cf, kf, fi, f, hi, hsl⟩ := hS k hk
  have hlay := hts _ (f2 _ (u_in_lay hk))
  unfold u_lay at hlay
  rw [if_pos hfin] at hlay
  have hst := (u_facts hfc hkC (u_lays hts f2 hk) hi).1
  have hcf : m.cls = cf := by
    obtain ⟨_, _, c', _, _, _, -, -, hf', -, -, -, hown2, -⟩ := Cond.laysFinal_spec hlay
    have e1 : c' = cf := by have := hi.symm.trans hf'; simp at this; exact this.1.symm
    rw [hdecl] at hown2
    rw [← e1]; exact Option.some.inj (hown.symm.trans hown2)
  have h6 := u_fits hfc hkC hkind (Or.inr hlay) hi hd hn hfit
  refine W.putFinK G.1 G.2.1 hown (hts _ hlink) hi hst hcf hin2 (by rw [q2]; exact h6) q1 q3 (by rw [hsl]; exact k2_hasslot (q4 k hk)) rfl rfl d1 fun H' e1 e2 e3 => ?_
  rw [hsl] at e1 ⊢
  refine kk H' _ ls ⟨hP.1.set (p := 0) (cD (cOk_this ho)) rfl ⟨_, h1, t_OB.to (V := updV (vp_V fs) k v) ⟨_, e1, q2, q3, t_set q4 hap hk v⟩ (fun i _ => vp_updV_set hl' v i)⟩ e3, by rw [e2]; exact hP.2.1, hP.2.2.put e2 e3 (Or.inl rfl)⟩ hl
/-- a field of the object under making -/
def FN (own : String) (idx j k : Nat) : Prop := ∃ (C : String) (T : u_T) (N : Nat), Cf j C T N ∧ k < N ∧ Cond.fieldLink own idx (T k).1 (T k).2.1 (T k).2.2.1 ∈ BW
theorem C_put (G : Cxg p R s m args meth c cc nL own kc ns) (K : cKn w s) (ho : o < s.heap.size) {idx k v : Nat} {x : Int32} (hf : FN own idx j k) (hp : FP j k v) (hl' : k < fs.length) (d : D3 cc pc (.putfield idx) pc')
    (kk : VG p l e R s m args below meth c nL kc ns Q (cPr w s [(o, .inr (j, fs.set k (.int x)))] (cA o s.heap.size) ds) pc' L st) : VG p l e R s m args below meth c nL kc ns Q (cPr w s [(o, .inr (j, fs))] (cA o s.heap.size) ds) pc L (.int x :: .ref o :: st) := by
  obtain ⟨d1, rfl⟩ := d
  obtain ⟨C, T, N, ⟨f1, f2, ⟨ty0, f3⟩, f4, f5, f6⟩, hk, hlink⟩ := hf
  obtain ⟨C', T', N', ⟨g1, -⟩, p1, ⟨ty, p2, rfl⟩, p3⟩ := hp
  cases Option.some.inj (g1.symm.trans f1)
  intro H locs ls hP hl
  have hts := G.2.2.2.2.1
  have hown := G.2.2.2.1
  have hap := va_apart (own := own) hts f2 ty0 f3 f4 K.1 f1
  obtain ⟨r, h1, cell, q1, q2, q3, q4⟩ := hP.1 0 _ rfl
  have hr : r = (C, T, N) := Option.some.inj (h1.symm.trans f1)
  subst hr
  obtain ⟨hS, hfc, kC, hkC, hkind⟩ := K.1.1 j _ f1
  obtain ⟨cf, kf, fi, f, hi, hsl⟩ := hS k hk
  have hlay := hts _ (f2 _ (u_in_lay hk))
  unfold u_lay at hlay
  rw [if_neg (by rw [p1]; decide)] at hlay
  have hst := (u_facts hfc hkC (u_lays hts f2 hk) hi).1
  have h6 := u_store hfc hkC hkind hlay hi p2 (v := .int x) rfl rfl
  refine W.putK G.1 G.2.1 (f := f) ⟨hown, hts _ hlink, ⟨_, _, _, hi⟩, hst⟩ (by rw [q2]; exact h6) q1 q3 (by rw [hsl]; exact k2_hasslot (q4 k hk)) rfl rfl d1 fun H' e1 e2 e3 => ?_
  rw [hsl] at e1 ⊢
  exact kk H' _ ls ⟨hP.1.set (p := 0) (cD (cOk_this ho)) rfl ⟨_, h1, t_OB.to (V := updV (vp_V fs) k (.int x)) ⟨_, e1, q2, q3, t_set q4 hap hk (.int x)⟩ (fun i _ => vp_updV_set hl' (.int x) i)⟩ e3, by rw [e2]; exact hP.2.1, hP.2.2.put e2 e3 (Or.inl rfl)⟩ hl
theorem cPr_grow {w : Wld} {s : State} {X : va_W} {A : Nat → Prop} {ds ds' : List va_E} {H H1 : Heap} {locs : List Loc} (hP : cPr w s X A ds H locs) (hz : H1.size = H.size + ds'.length) (hold : ∀ q : Nat, q < H.size → H1[q]? = H[q]?) (hnew : va_P w.1 vwCl (dW H.size ds') H1) : cPr w s X A (ds ++ ds') H1 locs := by
  refine ⟨?_, by rw [hz, hP.2.1, List.length_append]; omega, ⟨by rw [hz]; have := hP.2.2.1; omega, fun q h1 h2 => ?_, hP.2.2.2.2⟩⟩
  · rw [dW_app, ← List.append_assoc]
    refine va_P.app (hP.1.kept fun k q hq => hold _ (hP.1 k q hq).lt) ?_
    rw [← hP.2.1]
    exact hnew
  · rw [hold q (Nat.lt_of_lt_of_le h1 hP.2.2.1)]
    exact hP.2.2.2.1 q h1 h2
theorem C_newarr (G : Cxg p R s m args meth c cc nL own kc ns) (K : cKn w s) {ty : FieldType} {i : Nat} {atype : ArrayType} {n : Int32} {N : Nat} {z : vp_A} (hty : newarray.typeOf atype = ty) (hi : (wTy w)[i]? = some (w.2.1 i, ty)) (hra : ∀ cA, va_RA s cA ty → s.vm.findClass ("[" ++ ty.toString) = some cA) (hw : Cond.arrayClass ty ∈ BW) (hn : ¬ n < 0) (hN : n.toNatClampNeg = N) (hb : N * componentBytes ty ≤ 536870912) (hz : ∀ cA, vp_cell cA z = arrV cA N (fun _ => defaultValue ty)) (hc : kc + 1 ≤ R.cells) (hs : ns + N ≤ R.slots) (d : D2 cc pc (.newarray atype) pc')
    (kk : VG p l e R s m args below meth c nL (kc + 1) (ns + N) Q (cPr w s X A (ds ++ [.inl (w.2.1 i, z)])) pc' L (.ref (s.heap.size + ds.length) :: st)) : VG p l e R s m args below meth c nL kc ns Q (cPr w s X A ds) pc L (.int n :: st) := by
  obtain ⟨d1, rfl⟩ := d
  subst hty
  intro H locs ls hP hl
  refine va_newaK G.1 G.2.1 (G.2.2.2.2.1 _ hw) rfl d1 rfl hn hN hb hc hs rfl (fun H1 cA e1 e2 e3 e4 e5 => ?_)
  have hca : cA = w.2.1 i := Option.some.inj (e5.symm.trans (hra _ (K.1.2 i _ hi).2))
  subst hca
  rw [hP.2.1]
  refine kk H1 locs ls (cPr_grow hP (by rw [e2]; rfl) e3 ?_) hl
  intro k q hq
  obtain ⟨h1, h2⟩ := dW_of hq
  have hk : k = 0 := by
    have := (List.getElem?_eq_some_iff.mp h2).1
    simpa using this
  subst hk
  obtain ⟨a, ee⟩ := q
  simp at h1 h2
  subst h1; subst h2
  show H1[H.size]? = some (vp_cell _ _)
  rw [hz]
  exact e1
end RowsC
section RowsC2
variable {p : Program} {l : Launch} {e : Env} {R : Room} {s : State} {m : MethodId} {args : Array Value} {below : List Frame} {meth : Method} {c : Code} {cc : ByteArray} {nL : Nat} {own : String} {lev : Nat} {Q : State → Prop} {pc pc' tgt kc ns : Nat} {L : List (Option Value)} {st st0 : List Value} {w : Wld} {o j : Nat} {fs : List Value} {X : va_W} {A : Nat → Prop} {ds : List va_E}
/-- rows behind their table: outer at h, row i at h + 1 + i -/
def eOut (w : Wld) (i N h : Nat) : va_E := .inl (w.2.1 i, N, .inr (.inr (.inr (.inr (fun k => if k < N then some (h + 1 + k) else none)))))
theorem C_objInit (G : Cxg p R s m args meth c cc nL own kc ns) {Pr : Heap → List Loc → Prop} {idx a : Nat} (hw : Cond.methodLink own idx Lib.objectInit ∈ BW ∧ Cond.instanceMethod Lib.objectInit ∈ BW ∧ Cond.code Lib.objectInit ⟨#[0xb1]⟩ 1 none ∈ BW) (hf : 1 ≤ R.frames) (hcat : (st.map fun v => v.category).sum ≤ 8) (hlo : 20 ≤ R.locals) (d : D3 cc pc (.invokespecial idx) pc')
    (kk : VG p l e R s m args below meth c nL kc ns Q Pr pc' L st) : VG p l e R s m args below meth c nL kc ns Q Pr pc L (.ref a :: st) := by
  obtain ⟨d1, rfl⟩ := d
  have hts := G.2.2.2.2.1
  exact fun H locs ls hP hl => W.objInit G.1 G.2.1 G.2.2.2.1 (hts _ hw.1) (hts _ hw.2.1) (hts _ hw.2.2) rfl (hl.1.trans G.2.2.1.symm) rfl d1 hf (by have := lv_room (m := m) (pc := pc) (ls := ls) (rest := .ref a :: st) hcat; omega) (kk H locs ls hP hl)
/-- a new object behind all others: its fields at their first values -/
theorem C_new (G : Cxg p R s m args meth c cc nL own kc ns) (K : cKn w s) {idx j' : Nat} {C : String} {T : u_T} {N : Nat} {ty : Nat → FieldType} (f1 : vwCl[j']? = some (C, T, N)) (f2 : ∀ x ∈ u_ws C T N, x ∈ BW) (hty : ∀ k, k < N → parseFieldDescriptor (T k).2.2.1 = some (ty k)) {fs' : List Value} (hfs : ∀ q, q < N → defaultValue (ty q) = vp_V fs' q)
    (hw : Cond.classLink own idx C ∈ BW ∧ Cond.instantiable C N ∈ BW ∧ Cond.initialized C ∈ BW) (hc : kc + 1 ≤ R.cells) (hs : ns + N ≤ R.slots) (d : D3 cc pc (.new idx) pc')
    (kk : VG p l e R s m args below meth c nL (kc + 1) (ns + N) Q (cPr w s X A (ds ++ [.inr (j', fs')])) pc' L (.ref (s.heap.size + ds.length) :: st)) : VG p l e R s m args below meth c nL kc ns Q (cPr w s X A ds) pc L st := by
  obtain ⟨d1, rfl⟩ := d
  intro H locs ls hP hl
  have hts := G.2.2.2.2.1
  have hKn := K.1.1 j' _ f1
  refine W.newcK G.1 G.2.1 G.2.2.2.1 (hts _ hw.1) (hts _ hw.2.1) (hts _ hw.2.2) rfl d1 hc hs hKn.2.1 rfl fun H1 kC hkC e1 z1 o1 => ?_
  rw [hP.2.1]
  refine kk H1 locs ls (cPr_grow hP (by rw [z1]; rfl) o1 ?_) hl
  intro k q hq
  obtain ⟨h1, h2⟩ := dW_of hq
  have hk : k = 0 := by
    have := (List.getElem?_eq_some_iff.mp h2).1
    simpa using this
  subst hk
  obtain ⟨a, ee⟩ := q
  simp at h1 h2
  subst h1; subst h2
  exact ⟨_, f1, (u_born ty hts f2 hKn hkC e1 hty).to hfs⟩
/-- a store into a row of numbers made since -/
theorem C_iast (G : Cxg p R s m args meth c cc nL own kc ns) (K : cKn w s) (hX : cOk s.heap.size X A) {q n : Nat} {f : Nat → Int32} {i x : Int32} (he : ds[q]? = some (.inl (w.2.1 0, n, .inl f))) (hin : vp_in i n) (d : D1 cc pc .iastore pc')
    (kk : VG p l e R s m args below meth c nL kc ns Q (cPr w s X A (ds.set q (.inl (w.2.1 0, n, .inl (upd f i.toNatClampNeg x))))) pc' L st) : VG p l e R s m args below meth c nL kc ns Q (cPr w s X A ds) pc L (.int x :: .int i :: .ref (s.heap.size + q) :: st) := by
  obtain ⟨d1, rfl⟩ := d
  intro H locs ls hP hl
  have he' := cAt (h := s.heap.size) (X := X) he
  refine W.iast G.1 G.2.1 (hP.1 (X.length + q) _ he') ((K.1.2 0 _ rfl).1 n (fun j => .int (f j))) (fun q => by cases q) (by show ¬ (i < 0 ∨ (arrV _ _ _).slots.size ≤ _); rw [arrV_size]; exact hin) rfl rfl d1 fun H1 e1 z oq => ?_
  have hset := hP.1.set (cD hX) he' (e := .inl (w.2.1 0, n, .inl (upd f i.toNatClampNeg x))) (by
    show H1[s.heap.size + q]? = some (vp_cell _ _)
    rw [e1, vp_cell_i, vp_cell_i, arrV_store]
    congr 2
    funext k
    by_cases hk : k = i.toNatClampNeg
    · subst hk
      simp [updV, upd]
    · simp [updV, upd, hk]) oq
  rw [cSet] at hset
  exact kk H1 _ ls ⟨hset, by rw [z, List.length_set]; exact hP.2.1, hP.2.2.put z oq (hX.2.2 _ (Nat.le_add_right _ _))⟩ hl
theorem C_aald (G : Cxg p R s m args meth c cc nL own kc ns) (K : cKn w s) {q n h : Nat} {i : Int32} {a : Nat} (he : ds[q]? = some (eOut w 3 n h)) (hin : vp_in i n) (ha : h + 1 + i.toNatClampNeg = a) (d : D1 cc pc .aaload pc')
    (kk : VG p l e R s m args below meth c nL kc ns Q (cPr w s X A ds) pc' L (.ref a :: st)) : VG p l e R s m args below meth c nL kc ns Q (cPr w s X A ds) pc L (.int i :: .ref (s.heap.size + q) :: st) := by
  obtain ⟨d1, rfl⟩ := d
  subst ha
  intro H locs ls hP hl
  have he' := cAt (h := s.heap.size) (X := X) he
  have hc := hP.1 (X.length + q) _ he'
  have hc : H[s.heap.size + q]? = some (arrV (w.2.1 3) n (fun j => va_rf (if j < n then some (h + 1 + j) else none))) := hc
  have hlt : i.toNatClampNeg < n := Nat.not_le.mp fun q => hin (Or.inr q)
  exact W.aald (v := .ref (h + 1 + i.toNatClampNeg)) (ty := .array .int) G.1 G.2.1 hc ((K.1.2 3 _ rfl).1 n _) rfl (fun q => by cases q) (by show ¬ (i < 0 ∨ (arrV _ _ _).slots.size ≤ _); rw [arrV_size]; exact hin) (by show (arrV _ _ _).slots[_]? = _; rw [arrV_read _ _ hlt, if_pos hlt]; rfl) rfl rfl d1 (kk H locs ls hP hl)
/-- what a constructor's contract says: the object filled, the cells made behind all -/
def cQ (w : Wld) (o j : Nat) (fs : List Value) (ds : Nat → List va_E) : Array Value → State → Outcome → State → Prop := fun _ st oc t =>
  oc = .returned none ∧ va_P w.1 vwCl ((o, .inr (j, fs)) :: dW st.heap.size (ds st.heap.size)) t.heap ∧ t.heap.size = st.heap.size + (ds st.heap.size).length ∧ va_F (cA o st.heap.size) st t
theorem C_ret (G : Cxg p R s m args meth c cc nL own kc ns) (hr : meth.sig.returnType = none) (hlk : meth.locks = false) {dF : Nat → List va_E} (hd : dF s.heap.size = ds) (d : D1 cc pc .return_ pc') : VG p l e R s m args below meth c nL kc ns (MQ below (cQ w o j fs dF) args s kc ns (cA o s.heap.size)) (cPr w s [(o, .inr (j, fs))] (cA o s.heap.size) ds) pc L [] := by
  obtain ⟨d1, rfl⟩ := d
  subst hd
  exact fun H locs ls hP hl => W.vret G.1 G.2.1 hr (fun t ht _ => ⟨rfl, by rw [ht]; exact hP.1, by rw [ht]; exact hP.2.1, by rw [va_F, ht]; exact ⟨hP.2.2.1, hP.2.2.2.1⟩⟩) hP.2.2.2.2 d1 hlk
end RowsC2
def rmC (lev mc ms : Nat) : Room := { frames := lev, cells := mc, slots := ms, locals := 40 * lev }
/-- a constructor's contract -/
def CtC (l : Launch) (w : Wld) (y : MethodName) (cc : ByteArray) (nL : Nat) (lev : Nat) (as : List Value) (o j sz : Nat) (fs0 fs : List Value) (ds : Nat → List va_E) (mc ms : Nat) : Prop :=
  Met l y (Cond.code y cc nL none :: BW) (rmC lev mc ms) (va_Pc as (fun U => U.heap.size = sz ∧ o < sz ∧ va_at w.1 vwCl (o, .inr (j, fs0)) U.heap ∧ cKn w U)) (cQ w o j fs ds) mc ms (cA o sz)
theorem CtC_of {l : Launch} {w : Wld} {y : MethodName} {cc : ByteArray} {nL lev : Nat} {as : List Value} {o j sz : Nat} {fs0 fs : List Value} {ds : Nat → List va_E} {mc ms : Nat} {own : String} (L : List (Option Value)) (hy : plainName y.cls = true) (hyi : y.name = "<init>") (hown : y.cls = own) (hL : lA 0 L = lv_args 0 as) (hn : (lg_sl as).length ≤ nL)
    (body : ∀ (p : Program) (e : Env) (s : State) (m : MethodId) (args : Array Value) (below : List Frame) (meth : Method) (c : Code), p.tables.exec = Jvm.exec → c.code = cc → c.maxLocals = nL → s.vm.findClass own = some m.cls → (∀ x ∈ BW, x.before args s = true) → cKn w s → s.heap.size = sz → o < s.heap.size → meth.name = "<init>" → meth.sig.returnType = none → meth.locks = false →
      VG p l e (rmC lev mc ms) s m args below meth c nL 0 0 (MQ below (cQ w o j fs ds) args s mc ms (cA o s.heap.size)) (cPr w s [(o, .inr (j, fs0))] (cA o s.heap.size) []) 0 L []) : CtC l w y cc nL lev as o j sz fs0 fs ds mc ms := by
  refine Met.ofW (cc := cc) (maxL := nL) (ret := none) hy rfl ?_
  intro p e s m args below meth c s₁ B hml hv
  obtain ⟨rfl, hsz, ho, hP, hK⟩ := hv
  have hts := atoms_spec (ws := Cond.code y cc nL none :: BW) B.pre
  have hl := lv_entry as (n := nL) hn
  have hin : meth.name = "<init>" := ((name_of_methodNamed B.named B.method).1).trans hyi
  have hb := body p e s m as.toArray below meth c B.exec B.bytes hml (by rw [← hown]; exact findClass_of_methodNamed B.named) (fun x hx => hts x (List.mem_cons_of_mem _ hx)) hK hsz (by rw [hsz]; exact ho) hin B.returns B.notSynchronized
  rw [lg_entry_eq]
  rw [hsz] at hb
  refine hb s.heap [] _ ⟨?_, by simp, ⟨Nat.le_refl _, fun _ _ _ => rfl, fun _ h => by cases h⟩⟩ (by unfold lH; rw [hL]; exact hl)
  intro k q hq
  cases k with
  | zero => simp at hq; subst hq; exact hP
  | succ k => simp [dW] at hq
section RowsC3
variable {p : Program} {l : Launch} {e : Env} {R : Room} {s : State} {m : MethodId} {args : Array Value} {below : List Frame} {meth : Method} {c : Code} {cc : ByteArray} {nL : Nat} {own : String} {lev : Nat} {Q : State → Prop} {pc pc' tgt kc ns : Nat} {L : List (Option Value)} {st st0 : List Value} {w : Wld} {o j : Nat} {fs : List Value} {X : va_W} {A : Nat → Prop} {ds : List va_E}
theorem cPr_ctor {H H1 : Heap} {locs L1 : List Loc} {q j' : Nat} {fs0' fs' : List Value} {ds' : List va_E} (hX : cOk s.heap.size X A) (hP : cPr w s X A ds H locs) (he : ds[q]? = some (.inr (j', fs0'))) (h1 : va_P w.1 vwCl ((s.heap.size + q, .inr (j', fs')) :: dW H.size ds') H1) (hz : H1.size = H.size + ds'.length) (hF : ∀ a : Nat, a < H.size → ¬ cA (s.heap.size + q) H.size a → H1[a]? = H[a]?) (hL : ∀ x ∈ L1, cA (s.heap.size + q) H.size x.base) :
    cPr w s X A (ds.set q (.inr (j', fs')) ++ ds') H1 (locs ++ L1) := by
  have hq : q < ds.length := (List.getElem?_eq_some_iff.mp he).1
  have hqq := cAt (h := s.heap.size) (X := X) he
  refine ⟨?_, by rw [hz, hP.2.1, List.length_append, List.length_set]; omega, ⟨by rw [hz]; have := hP.2.2.1; omega, fun a a1 a2 => ?_, fun x hx => ?_⟩⟩
  · rw [dW_app, ← List.append_assoc]
    refine va_P.app ?_ ?_
    · rw [← cSet]
      intro k x hx
      by_cases hk : k = X.length + q
      · subst hk
        rw [List.getElem?_set_self (by rw [List.length_append, dW_len]; omega)] at hx
        cases hx
        exact h1 0 _ rfl
      · rw [List.getElem?_set_ne (fun z => hk z.symm)] at hx
        have h2 := hP.1 k x hx
        refine h2.kept (hF _ h2.lt ?_)
        rintro (z | z)
        · exact hk ((cD hX).1 k _ _ _ hx hqq z)
        · have := h2.lt
          omega
    · rw [List.length_set, ← hP.2.1]
      intro k x hx
      exact h1 (k + 1) x (by simpa using hx)
  · have h3 := hP.2.2.1
    rw [hF a (by omega) (fun z => by rcases z with z | z <;> omega)]
    exact hP.2.2.2.1 a a1 a2
  · have h3 := hP.2.2.1
    rcases List.mem_append.mp hx with h | h
    · exact hP.2.2.2.2 x h
    · refine hX.2.2 _ ?_
      rcases hL x h with z | z <;> omega
theorem C_ctor (G : Cxg p R s m args meth c cc nL own kc ns) (K : cKn w s) (hX : cOk s.heap.size X A) {y : MethodName} {cc' : ByteArray} {nL' idx n lev' mc ms q j' : Nat} {As : List Value} {fs0' fs' : List Value} {ds' : Nat → List va_E} (lk : LkB own idx y cc' nL' none n ∧ y.name = "<init>" ∧ Cond.instanceMethod y ∈ BW) (he : ds[q]? = some (.inr (j', fs0')))
    (hc : CtC l w y cc' nL' lev' (.ref (s.heap.size + q) :: As) (s.heap.size + q) j' (s.heap.size + ds.length) fs0' fs' ds' mc ms) (hlev : lev' + 1 ≤ R.frames ∧ 40 * lev' + 40 ≤ R.locals) (hn : As.length = n) (hst : st0 = As.reverse ++ .ref (s.heap.size + q) :: st) (hcat : (st.map fun v => v.category).sum ≤ 8) (hcs : kc + mc ≤ R.cells ∧ ns + ms ≤ R.slots) (d : D3 cc pc (.invokespecial idx) pc')
    (kk : VG p l e R s m args below meth c nL (kc + mc) (ns + ms) Q (cPr w s X A (ds.set q (.inr (j', fs')) ++ ds' (s.heap.size + ds.length))) pc' L st) : VG p l e R s m args below meth c nL kc ns Q (cPr w s X A ds) pc L st0 := by
  obtain ⟨d1, rfl⟩ := d
  obtain ⟨⟨b1, b2, b3, b4, b5⟩, v1, v2⟩ := lk
  intro H locs ls hP hl T hT X
  have hts := G.2.2.2.2.1
  have hR : (rmC lev' mc ms).frames + 1 ≤ R.frames ∧ 8 + (nL' + 11) + (rmC lev' mc ms).locals ≤ R.locals := by
    show lev' + 1 ≤ R.frames ∧ 8 + (nL' + 11) + 40 * lev' ≤ R.locals
    constructor <;> omega
  have hq : q < ds.length := (List.getElem?_eq_some_iff.mp he).1
  have hp : PreS s H (va_Pc (.ref (s.heap.size + q) :: As) (fun U => U.heap.size = s.heap.size + ds.length ∧ s.heap.size + q < s.heap.size + ds.length ∧ va_at w.1 vwCl (s.heap.size + q, .inr (j', fs0')) U.heap ∧ cKn w U)) (.ref (s.heap.size + q) :: As) :=
    ⟨fun a U g mk h => ⟨h.1, h.2.1, h.2.2.1, h.2.2.2.1, h.2.2.2.2.calling g mk a⟩, fun U hU hW => ⟨rfl, by rw [hU]; exact hP.2.1, by omega, by rw [hU]; exact hP.1 _ _ (cAt he), K.warm hW⟩⟩
  have hr : va_Run p l e R s m args below meth c H locs kc ns mc ms (F0 m pc ls st0) st (cQ w (s.heap.size + q) j' fs' ds' (Value.ref (s.heap.size + q) :: As).toArray) (cA (s.heap.size + q) (s.heap.size + ds.length)) := by
    rcases b1 with b1 | ⟨host, b1⟩
    · exact va_runI ⟨G.1, G.2.1, G.2.2.1, G.2.2.2.1, hts⟩ hc ⟨callB_of n hts (BW_code b2) rfl rfl rfl (hts _ b3) (hts _ b1) b4 hR, v1, hts _ v2⟩ hp rfl hn hl.1 hst (lv_room hcat) d1 hcs
    · exact va_runIN ⟨G.1, G.2.1, G.2.2.1, G.2.2.2.1, hts⟩ hc ⟨va_cnB n hts (BW_code b2) rfl rfl rfl (K.2.1 _ b1) (hts _ b3) b4 hR, v1, hts _ v2⟩ hp rfl hn hl.1 hst (lv_room hcat) d1 hcs
  obtain ⟨v, st₀, t, T', L1, h0, X', hL, e1, e2, ⟨hv, q1, q2, q3⟩, step⟩ := hr T hT X
  cases hv
  have hsz := hP.2.1
  rw [h0] at q1 q2 q3
  rw [hsz] at q1 q2
  obtain ⟨t2, a1, b1⟩ := kk T'.heap (locs ++ L1) ls (cPr_ctor hX hP he (H1 := T'.heap) (by rw [e1, hsz]; exact q1) (by rw [e1, hsz]; exact q2) (fun a a1 a2 => by rw [e1, q3.2 a (by rw [h0]; exact a1) (by first | exact a2 | (rw [h0]; exact a2)), h0]) (by rw [hsz]; exact hL)) hl T' rfl X'
  exact ⟨t2, step t2 a1, b1⟩
end RowsC3
