section RowsW
variable {p : Program} {l : Launch} {e : Env} {R : Room} {s : State} {m : MethodId} {args : Array Value} {below : List Frame} {meth : Method} {c : Code} {cc : ByteArray} {nL : Nat} {own : String} {lev : Nat} {Q : State → Prop} {pc pc' tgt kc ns n' : Nat} {L : List (Option Value)} {st st0 : List Value} {w : Wld} {o j : Nat} {fs : List Value} {X : va_W} {A : Nat → Prop} {ds : List va_E}
theorem L_newarr (G : Cxg p R s m args meth c cc nL own kc ns) (K : cKn w s) (hlen : ds.length = n') {ty : FieldType} {i : Nat} {atype : ArrayType} {n : Int32} {N : Nat} {z : vp_A} (hty : newarray.typeOf atype = ty) (hi : (wTy w)[i]? = some (w.2.1 i, ty)) (hra : ∀ cA, va_RA s cA ty → s.vm.findClass ("[" ++ ty.toString) = some cA) (hw : Cond.arrayClass ty ∈ BW) (hn : ¬ n < 0) (hN : n.toNatClampNeg = N) (hb : N * componentBytes ty ≤ 536870912) (hz : ∀ cA, vp_cell cA z = arrV cA N (fun _ => defaultValue ty)) (hc : kc + 1 ≤ R.cells) (hs : ns + N ≤ R.slots) (d : D2 cc pc (.newarray atype) pc')
    (kk : VG p l e R s m args below meth c nL (kc + 1) (ns + N) Q (cPr w s X A (ds ++ [.inl (w.2.1 i, z)])) pc' L (.ref (s.heap.size + n') :: st)) : VG p l e R s m args below meth c nL kc ns Q (cPr w s X A ds) pc L (.int n :: st) := by
  subst hlen
  exact C_newarr G K hty hi hra hw hn hN hb hz hc hs d kk
theorem L_mna (G : Cxg p R s m args meth c cc nL own kc ns) (K : cKn w s) (hlen : ds.length = n') {ty : FieldType} {idx i i' : Nat} {n k : Int32} {N M : Nat} {z : vp_A} (hi : (wTy w)[i]? = some (w.2.1 i, ty)) (hi' : (wTy w)[i']? = some (w.2.1 i', .array ty)) (hcl : Cond.classLink own idx ("[" ++ (FieldType.array ty).toString) ∈ BW) (hov : (Cond.arrayOver (.array ty)).before #[] s = true) (har : Cond.arrayClass ty ∈ BW)
    (hra : ∀ cA, va_RA s cA ty → s.vm.findClass (FieldType.array ty).toString = some cA) (hra' : ∀ cA, va_RA s cA (.array ty) → s.vm.findClass ("[" ++ (FieldType.array ty).toString) = some cA)
    (hn : ¬ n < 0) (hk : ¬ k < 0) (hN : n.toNatClampNeg = N) (hM : k.toNatClampNeg = M) (hb1 : N * 4 ≤ 536870912) (hb2 : M * componentBytes ty ≤ 536870912) (hb3 : M ≤ 536870912) (hdf : fits ty (defaultValue ty) = true) (hdd : (defaultValue ty).isDefault = true)
    (hz : ∀ cA, Jvm.Free.Multi.innerC cA M (defaultValue ty) = vp_cell cA z) (hc : kc + (1 + N) ≤ R.cells) (hs : ns + (N + N * M) ≤ R.slots) (d : decode cc pc = .ok (.multianewarray idx 2, 4))
    (kk : VG p l e R s m args below meth c nL (kc + 1 + N) (ns + N + N * M) Q (cPr w s X A (ds ++ (eOut w i' N (s.heap.size + n') :: List.replicate N (.inl (w.2.1 i, z))))) (pc + 4) L (.ref (s.heap.size + n') :: st)) : VG p l e R s m args below meth c nL kc ns Q (cPr w s X A ds) pc L (.int k :: .int n :: st) := by
  subst hlen
  exact C_mna G K hi hi' hcl hov har hra hra' hn hk hN hM hb1 hb2 hb3 hdf hdd hz hc hs d kk
theorem L_new (G : Cxg p R s m args meth c cc nL own kc ns) (K : cKn w s) (hlen : ds.length = n') {idx j' : Nat} {C : String} {T : u_T} {N : Nat} {ty : Nat → FieldType} (f1 : vwCl[j']? = some (C, T, N)) (f2 : ∀ x ∈ u_ws C T N, x ∈ BW) (hty : ∀ k, k < N → parseFieldDescriptor (T k).2.2.1 = some (ty k)) {fs' : List Value} (hfs : ∀ q, q < N → defaultValue (ty q) = vp_V fs' q)
    (hw : Cond.classLink own idx C ∈ BW ∧ Cond.instantiable C N ∈ BW ∧ Cond.initialized C ∈ BW) (hc : kc + 1 ≤ R.cells) (hs : ns + N ≤ R.slots) (d : D3 cc pc (.new idx) pc')
    (kk : VG p l e R s m args below meth c nL (kc + 1) (ns + N) Q (cPr w s X A (ds ++ [.inr (j', fs')])) pc' L (.ref (s.heap.size + n') :: st)) : VG p l e R s m args below meth c nL kc ns Q (cPr w s X A ds) pc L st := by
  subst hlen
  exact C_new G K f1 f2 hty hfs hw hc hs d kk
theorem L_ctor (G : Cxg p R s m args meth c cc nL own kc ns) (K : cKn w s) (hX : cOk s.heap.size X A) (hlen : ds.length = n') {y : MethodName} {cc' : ByteArray} {nL' idx n lev' mc ms q j' : Nat} {As : List Value} {fs0' fs' : List Value} {ds' : Nat → List va_E} {dsN : List va_E} (lk : LkB own idx y cc' nL' none n ∧ y.name = "<init>" ∧ Cond.instanceMethod y ∈ BW) (he : ds[q]? = some (.inr (j', fs0')))
    (hc : CtC l w y cc' nL' lev' (.ref (s.heap.size + q) :: As) (s.heap.size + q) j' (s.heap.size + n') fs0' fs' ds' mc ms) (hlev : lev' + 1 ≤ R.frames ∧ 40 * lev' + 40 ≤ R.locals) (hn : As.length = n) (hst : st0 = As.reverse ++ .ref (s.heap.size + q) :: st) (hcat : (st.map fun v => v.category).sum ≤ 8) (hcs : kc + mc ≤ R.cells ∧ ns + ms ≤ R.slots) (d : D3 cc pc (.invokespecial idx) pc')
    (hds : ds.set q (.inr (j', fs')) ++ ds' (s.heap.size + n') = dsN)
    (kk : VG p l e R s m args below meth c nL (kc + mc) (ns + ms) Q (cPr w s X A dsN) pc' L st) : VG p l e R s m args below meth c nL kc ns Q (cPr w s X A ds) pc L st0 := by
  subst hlen
  subst hds
  exact C_ctor G K hX lk he hc hlev hn hst hcat hcs d kk
theorem L_ds {ds' : List va_E} (h : ds = ds') (kk : VG p l e R s m args below meth c nL kc ns Q (cPr w s X A ds') pc L st) : VG p l e R s m args below meth c nL kc ns Q (cPr w s X A ds) pc L st := by
  subst h; exact kk
theorem L_put (G : Cxg p R s m args meth c cc nL own kc ns) (K : cKn w s) (ho : o < s.heap.size) {idx k v : Nat} {x : Int32} {fs' : List Value} (hfs : fs.set k (.int x) = fs') (hf : FN own idx j k) (hp : FP j k v) (hl' : k < fs.length) (d : D3 cc pc (.putfield idx) pc')
    (kk : VG p l e R s m args below meth c nL kc ns Q (cPr w s [(o, .inr (j, fs'))] (cA o s.heap.size) ds) pc' L st) : VG p l e R s m args below meth c nL kc ns Q (cPr w s [(o, .inr (j, fs))] (cA o s.heap.size) ds) pc L (.int x :: .ref o :: st) := by
  subst hfs
  exact C_put G K ho hf hp hl' d kk
theorem L_putF (G : Cxg p R s m args meth c cc nL own kc ns) (K : cKn w s) (hin2 : meth.name = "<init>") (ho : o < s.heap.size) {idx k : Nat} {ty : FieldType} {v : Value} {fs' : List Value} (hfs : fs.set k v = fs') (hf : FF own idx j k ty) (hn : narrow ty v = v) (hfit : fits ty v = true) (hl' : k < fs.length) (d : D3 cc pc (.putfield idx) pc')
    (kk : VG p l e R s m args below meth c nL kc ns Q (cPr w s [(o, .inr (j, fs'))] (cA o s.heap.size) ds) pc' L st) : VG p l e R s m args below meth c nL kc ns Q (cPr w s [(o, .inr (j, fs))] (cA o s.heap.size) ds) pc L (v :: .ref o :: st) := by
  subst hfs
  exact C_putF G K hin2 ho hf hn hfit hl' d kk
theorem L_iast (G : Cxg p R s m args meth c cc nL own kc ns) (K : cKn w s) (hX : cOk s.heap.size X A) {q n i : Nat} {f : Nat → Int32} {x : Int32} {dsN : List va_E} (he : ds[q]? = some (.inl (w.2.1 0, n, .inl f))) (hi : i < n) (hn : n ≤ 1000000) (d : D1 cc pc .iastore pc') (hds : ds.set q (.inl (w.2.1 0, n, .inl (upd f i x))) = dsN)
    (kk : VG p l e R s m args below meth c nL kc ns Q (cPr w s X A dsN) pc' L st) : VG p l e R s m args below meth c nL kc ns Q (cPr w s X A ds) pc L (.int x :: .int (nI i) :: .ref (s.heap.size + q) :: st) := by
  subst hds
  refine C_iast G K hX he (vp_in_nI hi (by omega)) d ?_
  rw [nI_clamp (by omega)]
  exact kk
end RowsW
def fillF (g : Nat → Int32) (k : Nat) : Nat → Int32 := fun i => if i < k then g i else 0
theorem fillF_0 {g : Nat → Int32} : fillF g 0 = fun _ => 0 := by
  funext i
  unfold fillF
  rw [if_neg (Nat.not_lt_zero i)]
theorem fillF_s {g : Nat → Int32} {k : Nat} {x : Int32} (hx : x = g k) : upd (fillF g k) k x = fillF g (k + 1) := by
  subst hx
  funext i
  unfold upd fillF
  by_cases h : i = k
  · subst h; simp
  · by_cases h2 : i < k
    · simp [h, h2, Nat.lt_succ_of_lt h2]
    · simp [h, h2, show ¬ i < k + 1 by omega]
theorem set_same {α : Type} {ds : List α} {q : Nat} {x : α} (h : ds[q]? = some x) : ds.set q x = ds := by
  refine List.ext_getElem? fun i => ?_
  by_cases e : q = i
  · subst e
    rw [List.getElem?_set_self (List.getElem?_eq_some_iff.mp h).1, h]
  · rw [List.getElem?_set_ne e]
theorem inc_n (k : Nat) : nI k + Int32.ofInt 1 = nI (k + 1) := add_n k 1
theorem le_n {a b : Nat} (ha : a < 2147483648) (hb : b < 2147483648) (h : a ≤ b) : nI a ≤ nI b := Int32.not_lt.mp fun z => absurd ((lt_n hb ha).mp z) (by omega)
theorem nle_n {a b : Nat} (ha : a < 2147483648) (hb : b < 2147483648) (h : b < a) : ¬ nI a ≤ nI b := fun z => Int32.not_lt.mpr z ((lt_n hb ha).mpr h)
theorem div8 {k : Nat} (h : k < 1000000) : nI k / nI 8 = nI (k / 8) := by
  have := dv_n (a := k) (b := 8) (by omega) (by decide) (by decide)
  unfold mDv at this
  rw [if_neg (by decide)] at this
  exact Option.some.inj this
theorem rem8 {k : Nat} (h : k < 1000000) : nI k - nI k / nI 8 * nI 8 = nI (k % 8) := by
  have := rm_n (a := k) (b := 8) (by omega) (by decide) (by decide)
  unfold mRm at this
  rw [if_neg (by decide)] at this
  exact Option.some.inj this
section Loops
variable {p : Program} {l : Launch} {e : Env} {R : Room} {s : State} {m : MethodId} {args : Array Value} {below : List Frame} {meth : Method} {c : Code} {Q : State → Prop} {kc ns : Nat} {w : Wld} {o : Nat} {fs : List Value} {ds : List va_E}
abbrev arI (w : Wld) (n : Nat) (f : Nat → Int32) : va_E := .inl (w.2.1 0, n, .inl f)
/-- Pot: -1 in every place -/
def gNeg : Nat → Int32 := fun _ => -1
theorem lpX8_s (G : Cxg p R s m args meth c cX8_init 5 "PotBook$Pot" kc ns) (K : cKn w s) (ho : o < s.heap.size) {q f8 : Nat} (hg : FG "PotBook$Pot" 27 8 f8) {a1 a2 : Option Value} {r3 : Nat} (hf : fs[f8]? = some (.ref (s.heap.size + q))) (hq : q < ds.length) (kk : VG p l e R s m args below meth c 5 kc ns Q (cPr w s [(o, .inr (8, fs))] (cA o s.heap.size) (ds.set q (arI w 16 (fillF gNeg 16)))) 163 [some (.ref o), a1, a2, some (.ref r3), some (.int (nI 16))] []) :
    ∀ (r k : Nat), k + r = 16 → VG p l e R s m args below meth c 5 kc ns Q (cPr w s [(o, .inr (8, fs))] (cA o s.heap.size) (ds.set q (arI w 16 (fillF gNeg k)))) 142 [some (.ref o), a1, a2, some (.ref r3), some (.int (nI k))] [] := by
  intro r
  induction r with
  | zero =>
    intro k hk
    have : k = 16 := by omega
    subst this
    refine N_iload (i := 4) G eX8_init_142 rfl ?_
    refine N_bipush (n := 16) (v := nI 16) G eX8_init_144 rfl ?_
    refine N_geT G eX8_init_146 (le_n (by decide) (by decide) (Nat.le_refl 16)) ?_
    exact kk
  | succ r ih =>
    intro k hk
    refine N_iload (i := 4) G eX8_init_142 rfl ?_
    refine N_bipush (n := 16) (v := nI 16) G eX8_init_144 rfl ?_
    refine N_geF G eX8_init_146 (nle_n (by decide) (by omega) (by omega)) ?_
    refine N_aload_n (i := 0) G eX8_init_149 rfl rfl ?_
    refine C_get (v := .ref (s.heap.size + q)) G K hg hf eX8_init_150 ?_
    refine N_iload (i := 4) G eX8_init_153 rfl ?_
    refine N_iconst (n := (-1)) (v := -1) G eX8_init_155 rfl ?_
    refine L_iast (q := q) (n := 16) (i := k) (f := fillF gNeg k) (x := -1) (dsN := ds.set q (arI w 16 (fillF gNeg (k + 1)))) G K (cOk_this ho) (List.getElem?_set_self hq) (by omega) (by decide) eX8_init_156 (by rw [List.set_set, fillF_s (g := gNeg) (k := k) (x := -1) rfl]) ?_
    refine N_iincC (i := 4) (v := nI (k + 1)) (L' := [some (.ref o), a1, a2, some (.ref r3), some (.int (nI (k + 1)))]) G eX8_init_157 rfl (inc_n k) (by decide) rfl rfl ?_
    refine N_goto G eX8_init_160 ?_
    exact ih (k + 1) (by omega)
theorem lpX8 (G : Cxg p R s m args meth c cX8_init 5 "PotBook$Pot" kc ns) (K : cKn w s) (ho : o < s.heap.size) {q f8 : Nat} (hg : FG "PotBook$Pot" 27 8 f8) {a1 a2 : Option Value} {r3 : Nat} (hf : fs[f8]? = some (.ref (s.heap.size + q))) (hz : ds[q]? = some (arI w 16 (fun _ => 0))) (kk : VG p l e R s m args below meth c 5 kc ns Q (cPr w s [(o, .inr (8, fs))] (cA o s.heap.size) (ds.set q (arI w 16 (fillF gNeg 16)))) 163 [some (.ref o), a1, a2, some (.ref r3), some (.int (nI 16))] []) :
    VG p l e R s m args below meth c 5 kc ns Q (cPr w s [(o, .inr (8, fs))] (cA o s.heap.size) ds) 142 [some (.ref o), a1, a2, some (.ref r3), some (.int (nI 0))] [] := by
  have := lpX8_s G K ho hg hf (List.getElem?_eq_some_iff.mp hz).1 kk 16 0 rfl
  rw [fillF_0, set_same hz] at this
  exact this
/-- Laws: the ends of all numbers -/
def gMax : Nat → Int32 := fun _ => 2147483647
def gMin : Nat → Int32 := fun _ => -2147483648
theorem lpX4_s (G : Cxg p R s m args meth c cX4_init 2 "PotBook$Laws" kc ns) (K : cKn w s) (ho : o < s.heap.size) {qa qb fa fb : Nat} (hga : FG "PotBook$Laws" 23 4 fa) (hgb : FG "PotBook$Laws" 26 4 fb) (hfa : fs[fa]? = some (.ref (s.heap.size + qa))) (hfb : fs[fb]? = some (.ref (s.heap.size + qb))) (hqa : qa < ds.length) (hqb : qb < ds.length) (hne : qa ≠ qb) (kk : VG p l e R s m args below meth c 2 kc ns Q (cPr w s [(o, .inr (4, fs))] (cA o s.heap.size) ((ds.set qa (arI w 6 (fillF gMax 6))).set qb (arI w 6 (fillF gMin 6)))) 78 [some (.ref o), some (.int (nI 6))] []) :
    ∀ (r k : Nat), k + r = 6 → VG p l e R s m args below meth c 2 kc ns Q (cPr w s [(o, .inr (4, fs))] (cA o s.heap.size) ((ds.set qa (arI w 6 (fillF gMax k))).set qb (arI w 6 (fillF gMin k)))) 50 [some (.ref o), some (.int (nI k))] [] := by
  intro r
  induction r with
  | zero =>
    intro k hk
    have : k = 6 := by omega
    subst this
    refine N_iload_n (i := 1) G eX4_init_50 rfl rfl ?_
    refine N_bipush (n := 6) (v := nI 6) G eX4_init_51 rfl ?_
    refine N_geT G eX4_init_53 (le_n (by decide) (by decide) (Nat.le_refl 6)) ?_
    exact kk
  | succ r ih =>
    intro k hk
    refine N_iload_n (i := 1) G eX4_init_50 rfl rfl ?_
    refine N_bipush (n := 6) (v := nI 6) G eX4_init_51 rfl ?_
    refine N_geF G eX4_init_53 (nle_n (by decide) (by omega) (by omega)) ?_
    refine N_aload_n (i := 0) G eX4_init_56 rfl rfl ?_
    refine C_get (v := .ref (s.heap.size + qa)) G K hga hfa eX4_init_57 ?_
    refine N_iload_n (i := 1) G eX4_init_60 rfl rfl ?_
    refine N_ldc (v := 2147483647) G ccX4_31 eX4_init_61 ?_
    refine L_iast (q := qa) (n := 6) (i := k) (f := fillF gMax k) (x := 2147483647) (dsN := (ds.set qa (arI w 6 (fillF gMax (k + 1)))).set qb (arI w 6 (fillF gMin k))) G K (cOk_this ho) (by rw [List.getElem?_set_ne (Ne.symm hne), List.getElem?_set_self hqa]) (by omega) (by decide) eX4_init_63 (by rw [List.set_comm _ _ (Ne.symm hne), List.set_set, fillF_s (g := gMax) (k := k) (x := 2147483647) rfl]) ?_
    refine N_aload_n (i := 0) G eX4_init_64 rfl rfl ?_
    refine C_get (v := .ref (s.heap.size + qb)) G K hgb hfb eX4_init_65 ?_
    refine N_iload_n (i := 1) G eX4_init_68 rfl rfl ?_
    refine N_ldc (v := -2147483648) G ccX4_32 eX4_init_69 ?_
    refine L_iast (q := qb) (n := 6) (i := k) (f := fillF gMin k) (x := -2147483648) (dsN := (ds.set qa (arI w 6 (fillF gMax (k + 1)))).set qb (arI w 6 (fillF gMin (k + 1)))) G K (cOk_this ho) (List.getElem?_set_self (by rw [List.length_set]; exact hqb)) (by omega) (by decide) eX4_init_71 (by rw [List.set_set, fillF_s (g := gMin) (k := k) (x := -2147483648) rfl]) ?_
    refine N_iincC (i := 1) (v := nI (k + 1)) (L' := [some (.ref o), some (.int (nI (k + 1)))]) G eX4_init_72 rfl (inc_n k) (by decide) rfl rfl ?_
    refine N_goto G eX4_init_75 ?_
    exact ih (k + 1) (by omega)
theorem lpX4 (G : Cxg p R s m args meth c cX4_init 2 "PotBook$Laws" kc ns) (K : cKn w s) (ho : o < s.heap.size) {qa qb fa fb : Nat} (hga : FG "PotBook$Laws" 23 4 fa) (hgb : FG "PotBook$Laws" 26 4 fb) (hfa : fs[fa]? = some (.ref (s.heap.size + qa))) (hfb : fs[fb]? = some (.ref (s.heap.size + qb))) (hza : ds[qa]? = some (arI w 6 (fun _ => 0))) (hzb : ds[qb]? = some (arI w 6 (fun _ => 0))) (hne : qa ≠ qb) (kk : VG p l e R s m args below meth c 2 kc ns Q (cPr w s [(o, .inr (4, fs))] (cA o s.heap.size) ((ds.set qa (arI w 6 (fillF gMax 6))).set qb (arI w 6 (fillF gMin 6)))) 78 [some (.ref o), some (.int (nI 6))] []) :
    VG p l e R s m args below meth c 2 kc ns Q (cPr w s [(o, .inr (4, fs))] (cA o s.heap.size) ds) 50 [some (.ref o), some (.int (nI 0))] [] := by
  have := lpX4_s G K ho hga hgb hfa hfb (List.getElem?_eq_some_iff.mp hza).1 (List.getElem?_eq_some_iff.mp hzb).1 hne kk 6 0 rfl
  rw [fillF_0, fillF_0, set_same hza, set_same hzb] at this
  exact this
/-- what a slip costs at first: none where the words are the same, else 10 -/
def gSl (i : Nat) : Nat → Int32 := fun j => if i = j then nI 0 else nI 10
def gSl8 : Nat → Int32 := fun k => if k / 8 = k % 8 then nI 0 else nI 10
theorem lpX12_s (G : Cxg p R s m args meth c cX12_init 2 "PotBookModel" kc ns) (K : cKn w s) (ho : o < s.heap.size) {q fa : Nat} (hg : FG "PotBookModel" 120 12 fa) (hf : fs[fa]? = some (.ref (s.heap.size + q))) (hq : q < ds.length) (kk : VG p l e R s m args below meth c 2 kc ns Q (cPr w s [(o, .inr (12, fs))] (cA o s.heap.size) (ds.set q (arI w 64 (fillF gSl8 64)))) 479 [some (.ref o), some (.int (nI 64))] []) :
    ∀ (r k : Nat), k + r = 64 → VG p l e R s m args below meth c 2 kc ns Q (cPr w s [(o, .inr (12, fs))] (cA o s.heap.size) (ds.set q (arI w 64 (fillF gSl8 k)))) 444 [some (.ref o), some (.int (nI k))] [] := by
  intro r
  induction r with
  | zero =>
    intro k hk
    have : k = 64 := by omega
    subst this
    refine N_iload_n (i := 1) G eX12_init_444 rfl rfl ?_
    refine N_bipush (n := 64) (v := nI 64) G eX12_init_445 rfl ?_
    refine N_geT G eX12_init_447 (le_n (by decide) (by decide) (Nat.le_refl 64)) ?_
    exact kk
  | succ r ih =>
    intro k hk
    refine N_iload_n (i := 1) G eX12_init_444 rfl rfl ?_
    refine N_bipush (n := 64) (v := nI 64) G eX12_init_445 rfl ?_
    refine N_geF G eX12_init_447 (nle_n (by decide) (by omega) (by omega)) ?_
    refine N_aload_n (i := 0) G eX12_init_450 rfl rfl ?_
    refine C_get (v := .ref (s.heap.size + q)) G K hg hf eX12_init_451 ?_
    refine N_iload_n (i := 1) G eX12_init_454 rfl rfl ?_
    refine N_iload_n (i := 1) G eX12_init_455 rfl rfl ?_
    refine N_bipush (n := 8) (v := nI 8) G eX12_init_456 rfl ?_
    refine N_divC (v := nI (k / 8)) G eX12_init_458 (by decide) (div8 (by omega)) ?_
    refine N_iload_n (i := 1) G eX12_init_459 rfl rfl ?_
    refine N_bipush (n := 8) (v := nI 8) G eX12_init_460 rfl ?_
    refine N_remC (v := nI (k % 8)) G eX12_init_462 (by decide) (rem8 (by omega)) ?_
    have tail : ∀ x : Int32, x = gSl8 k → VG p l e R s m args below meth c 2 kc ns Q (cPr w s [(o, .inr (12, fs))] (cA o s.heap.size) (ds.set q (arI w 64 (fillF gSl8 k)))) 472 [some (.ref o), some (.int (nI k))] [.int x, .int (nI k), .ref (s.heap.size + q)] := by
      intro x hx
      refine L_iast (q := q) (n := 64) (i := k) (f := fillF gSl8 k) (x := x) (dsN := ds.set q (arI w 64 (fillF gSl8 (k + 1)))) G K (cOk_this ho) (List.getElem?_set_self hq) (by omega) (by decide) eX12_init_472 (by rw [List.set_set, fillF_s hx]) ?_
      refine N_iincC (i := 1) (v := nI (k + 1)) (L' := [some (.ref o), some (.int (nI (k + 1)))]) G eX12_init_473 rfl (inc_n k) (by decide) rfl rfl ?_
      refine N_goto G eX12_init_476 ?_
      exact ih (k + 1) (by omega)
    by_cases h : k / 8 = k % 8
    · refine N_neF G eX12_init_463 (by rw [h]) ?_
      refine N_iconst (n := 0) (v := nI 0) G eX12_init_466 rfl ?_
      refine N_goto G eX12_init_467 ?_
      exact tail _ (if_pos h).symm
    · refine N_neT G eX12_init_463 (fun z => h ((eq_n (by omega) (by omega)).mp z)) ?_
      refine N_bipush (n := 10) (v := nI 10) G eX12_init_470 rfl ?_
      exact tail _ (if_neg h).symm
theorem lpX12 (G : Cxg p R s m args meth c cX12_init 2 "PotBookModel" kc ns) (K : cKn w s) (ho : o < s.heap.size) {q fa : Nat} (hg : FG "PotBookModel" 120 12 fa) (hf : fs[fa]? = some (.ref (s.heap.size + q))) (hz : ds[q]? = some (arI w 64 (fun _ => 0))) (kk : VG p l e R s m args below meth c 2 kc ns Q (cPr w s [(o, .inr (12, fs))] (cA o s.heap.size) (ds.set q (arI w 64 (fillF gSl8 64)))) 479 [some (.ref o), some (.int (nI 64))] []) :
    VG p l e R s m args below meth c 2 kc ns Q (cPr w s [(o, .inr (12, fs))] (cA o s.heap.size) ds) 444 [some (.ref o), some (.int (nI 0))] [] := by
  have := lpX12_s G K ho hg hf (List.getElem?_eq_some_iff.mp hz).1 kk 64 0 rfl
  rw [fillF_0, set_same hz] at this
  exact this
/-- Copies: the slips, row by row -/
def rowsF (w : Wld) (q : Nat) (ds : List va_E) : Nat → List va_E
  | 0 => ds
  | i + 1 => (rowsF w q ds i).set (q + 1 + i) (arI w 8 (fillF (gSl i) 8))
theorem rowsF_len {w : Wld} {q : Nat} {ds : List va_E} : ∀ i, (rowsF w q ds i).length = ds.length := by
  intro i
  induction i with
  | zero => rfl
  | succ i ih => show ((rowsF w q ds i).set _ _).length = _; rw [List.length_set, ih]
theorem rowsF_get {w : Wld} {q : Nat} {ds : List va_E} {t : Nat} : ∀ i, (t ≤ q ∨ q + 1 + i ≤ t) → (rowsF w q ds i)[t]? = ds[t]? := by
  intro i
  induction i with
  | zero => intro _; rfl
  | succ i ih =>
    intro h
    show ((rowsF w q ds i).set _ _)[t]? = _
    rw [List.getElem?_set_ne (by omega), ih (by omega)]
theorem lpX1_i (G : Cxg p R s m args meth c cX1_init 3 "PotBook$Copies" kc ns) (K : cKn w s) (ho : o < s.heap.size) {q fa i : Nat} (hi : i < 8) (hg : FG "PotBook$Copies" 20 1 fa) (hf : fs[fa]? = some (.ref (s.heap.size + q))) (he : ds[q]? = some (eOut w 3 8 (s.heap.size + q))) (hq : q + 1 + i < ds.length) (kk : VG p l e R s m args below meth c 3 kc ns Q (cPr w s [(o, .inr (1, fs))] (cA o s.heap.size) (ds.set (q + 1 + i) (arI w 8 (fillF (gSl i) 8)))) 105 [some (.ref o), some (.int (nI i)), some (.int (nI 8))] []) :
    ∀ (r k : Nat), k + r = 8 → VG p l e R s m args below meth c 3 kc ns Q (cPr w s [(o, .inr (1, fs))] (cA o s.heap.size) (ds.set (q + 1 + i) (arI w 8 (fillF (gSl i) k)))) 74 [some (.ref o), some (.int (nI i)), some (.int (nI k))] [] := by
  intro r
  induction r with
  | zero =>
    intro k hk
    have : k = 8 := by omega
    subst this
    refine N_iload_n (i := 2) G eX1_init_74 rfl rfl ?_
    refine N_bipush (n := 8) (v := nI 8) G eX1_init_75 rfl ?_
    refine N_geT G eX1_init_77 (le_n (by decide) (by decide) (Nat.le_refl 8)) ?_
    exact kk
  | succ r ih =>
    intro k hk
    refine N_iload_n (i := 2) G eX1_init_74 rfl rfl ?_
    refine N_bipush (n := 8) (v := nI 8) G eX1_init_75 rfl ?_
    refine N_geF G eX1_init_77 (nle_n (by decide) (by omega) (by omega)) ?_
    refine N_aload_n (i := 0) G eX1_init_80 rfl rfl ?_
    refine C_get (v := .ref (s.heap.size + q)) G K hg hf eX1_init_81 ?_
    refine N_iload_n (i := 1) G eX1_init_84 rfl rfl ?_
    refine C_aald (w := w) (q := q) (n := 8) (h := s.heap.size + q) (i := nI i) (a := s.heap.size + (q + 1 + i)) G K (by rw [List.getElem?_set_ne (by omega)]; exact he) (vp_in_nI hi (by decide)) (by rw [nI_clamp (by omega)]; omega) eX1_init_85 ?_
    refine N_iload_n (i := 2) G eX1_init_86 rfl rfl ?_
    refine N_iload_n (i := 1) G eX1_init_87 rfl rfl ?_
    refine N_iload_n (i := 2) G eX1_init_88 rfl rfl ?_
    have tail : ∀ x : Int32, x = gSl i k → VG p l e R s m args below meth c 3 kc ns Q (cPr w s [(o, .inr (1, fs))] (cA o s.heap.size) (ds.set (q + 1 + i) (arI w 8 (fillF (gSl i) k)))) 98 [some (.ref o), some (.int (nI i)), some (.int (nI k))] [.int x, .int (nI k), .ref (s.heap.size + (q + 1 + i))] := by
      intro x hx
      refine L_iast (q := q + 1 + i) (n := 8) (i := k) (f := fillF (gSl i) k) (x := x) (dsN := ds.set (q + 1 + i) (arI w 8 (fillF (gSl i) (k + 1)))) G K (cOk_this ho) (List.getElem?_set_self hq) (by omega) (by decide) eX1_init_98 (by rw [List.set_set, fillF_s hx]) ?_
      refine N_iincC (i := 2) (v := nI (k + 1)) (L' := [some (.ref o), some (.int (nI i)), some (.int (nI (k + 1)))]) G eX1_init_99 rfl (inc_n k) (by decide) rfl rfl ?_
      refine N_goto G eX1_init_102 ?_
      exact ih (k + 1) (by omega)
    by_cases h : i = k
    · refine N_neF G eX1_init_89 (by rw [h]) ?_
      refine N_iconst (n := 0) (v := nI 0) G eX1_init_92 rfl ?_
      refine N_goto G eX1_init_93 ?_
      exact tail _ (if_pos h).symm
    · refine N_neT G eX1_init_89 (fun z => h ((eq_n (by omega) (by omega)).mp z)) ?_
      refine N_bipush (n := 10) (v := nI 10) G eX1_init_96 rfl ?_
      exact tail _ (if_neg h).symm
theorem lpX1_o (G : Cxg p R s m args meth c cX1_init 3 "PotBook$Copies" kc ns) (K : cKn w s) (ho : o < s.heap.size) {q fa : Nat} (hg : FG "PotBook$Copies" 20 1 fa) (hf : fs[fa]? = some (.ref (s.heap.size + q))) (he : ds[q]? = some (eOut w 3 8 (s.heap.size + q))) (hz : ∀ i, i < 8 → ds[q + 1 + i]? = some (arI w 8 (fun _ => 0))) (kk : ∀ z, VG p l e R s m args below meth c 3 kc ns Q (cPr w s [(o, .inr (1, fs))] (cA o s.heap.size) (rowsF w q ds 8)) 111 [some (.ref o), some (.int (nI 8)), z] []) :
    ∀ (r i : Nat) (z : Option Value), i + r = 8 → VG p l e R s m args below meth c 3 kc ns Q (cPr w s [(o, .inr (1, fs))] (cA o s.heap.size) (rowsF w q ds i)) 66 [some (.ref o), some (.int (nI i)), z] [] := by
  intro r
  induction r with
  | zero =>
    intro i z hi
    have : i = 8 := by omega
    subst this
    refine N_iload_n (i := 1) G eX1_init_66 rfl rfl ?_
    refine N_bipush (n := 8) (v := nI 8) G eX1_init_67 rfl ?_
    refine N_geT G eX1_init_69 (le_n (by decide) (by decide) (Nat.le_refl 8)) ?_
    exact kk z
  | succ r ih =>
    intro i z hi
    refine N_iload_n (i := 1) G eX1_init_66 rfl rfl ?_
    refine N_bipush (n := 8) (v := nI 8) G eX1_init_67 rfl ?_
    refine N_geF G eX1_init_69 (nle_n (by decide) (by omega) (by omega)) ?_
    refine N_iconst (n := 0) (v := nI 0) G eX1_init_72 rfl ?_
    refine N_istoreA_n (i := 2) (L' := [some (.ref o), some (.int (nI i)), some (.int (nI 0))]) G rfl eX1_init_73 (by decide) rfl rfl ?_
    have hlen : q + 1 + i < (rowsF w q ds i).length := by
      rw [rowsF_len]
      exact (List.getElem?_eq_some_iff.mp (hz i (by omega))).1
    have hz' : (rowsF w q ds i)[q + 1 + i]? = some (arI w 8 (fun _ => 0)) := by
      rw [rowsF_get i (Or.inr (Nat.le_refl _))]
      exact hz i (by omega)
    have body := lpX1_i (ds := rowsF w q ds i) (i := i) (below := below) (l := l) (e := e) (Q := Q) G K ho (by omega) hg hf (by rw [rowsF_get i (Or.inl (Nat.le_refl _))]; exact he) hlen (by
      refine N_iincC (i := 1) (v := nI (i + 1)) (L' := [some (.ref o), some (.int (nI (i + 1))), some (.int (nI 8))]) G eX1_init_105 rfl (inc_n i) (by decide) rfl rfl ?_
      refine N_goto G eX1_init_108 ?_
      exact ih (i + 1) _ (by omega)) 8 0 rfl
    rw [fillF_0, set_same hz'] at body
    exact body
theorem lpX1 (G : Cxg p R s m args meth c cX1_init 3 "PotBook$Copies" kc ns) (K : cKn w s) (ho : o < s.heap.size) {q fa : Nat} {z : Option Value} (hg : FG "PotBook$Copies" 20 1 fa) (hf : fs[fa]? = some (.ref (s.heap.size + q))) (he : ds[q]? = some (eOut w 3 8 (s.heap.size + q))) (hz : ∀ i, i < 8 → ds[q + 1 + i]? = some (arI w 8 (fun _ => 0))) (kk : ∀ z, VG p l e R s m args below meth c 3 kc ns Q (cPr w s [(o, .inr (1, fs))] (cA o s.heap.size) (rowsF w q ds 8)) 111 [some (.ref o), some (.int (nI 8)), z] []) :
    VG p l e R s m args below meth c 3 kc ns Q (cPr w s [(o, .inr (1, fs))] (cA o s.heap.size) ds) 66 [some (.ref o), some (.int (nI 0)), z] [] := lpX1_o G K ho hg hf he hz kk 8 0 z rfl
end Loops
