/-! CONTRACTS: a method at these arguments and this memory answers that, and leaves that memory -/
def wHp (w : Wld) (μ : Mem) (t : State) : Prop := va_P w.1 vwCl (wsM w μ) t.heap
abbrev QI (w : Wld) (x : Int32) (μ' : Mem) : Array Value → State → Outcome → State → Prop := va_Qi (fun r (_ : Unit) => r = x) (fun _ t => wHp w μ' t) w.2.2.2
abbrev QL (w : Wld) (x : Int64) (μ' : Mem) : Array Value → State → Outcome → State → Prop := va_Ql (fun r (_ : Unit) => r = x) (fun _ t => wHp w μ' t) w.2.2.2
abbrev QV (w : Wld) (μ' : Mem) : Array Value → State → Outcome → State → Prop := va_Qv (fun (_ : Unit) => True) (fun _ t => wHp w μ' t) w.2.2.2
def CtI (l : Launch) (w : Wld) (y : MethodName) (cc : ByteArray) (nL : Nat) (ty : FieldType) (lev : Nat) (as : List Value) (μ : Mem) (x : Int32) (μ' : Mem) : Prop :=
  Met l y (Cond.code y cc nL (some ty) :: BW) (rmL lev) (va_Pc as (wIs w μ)) (QI w x μ') 0 0 w.2.2.2
def CtL (l : Launch) (w : Wld) (y : MethodName) (cc : ByteArray) (nL : Nat) (ty : FieldType) (lev : Nat) (as : List Value) (μ : Mem) (x : Int64) (μ' : Mem) : Prop :=
  Met l y (Cond.code y cc nL (some ty) :: BW) (rmL lev) (va_Pc as (wIs w μ)) (QL w x μ') 0 0 w.2.2.2
def CtV (l : Launch) (w : Wld) (y : MethodName) (cc : ByteArray) (nL : Nat) (lev : Nat) (as : List Value) (μ : Mem) (μ' : Mem) : Prop :=
  Met l y (Cond.code y cc nL none :: BW) (rmL lev) (va_Pc as (wIs w μ)) (QV w μ') 0 0 w.2.2.2
theorem Ct_of {l : Launch} {w : Wld} {y : MethodName} {cc : ByteArray} {nL : Nat} {ret : Option FieldType} {lev : Nat} {as : List Value} {μ : Mem} {Qc : Array Value → State → Outcome → State → Prop} {own : String} (L : List (Option Value)) (hy : plainName y.cls = true) (hown : y.cls = own) (hL : lA 0 L = lv_args 0 as) (hn : (lg_sl as).length ≤ nL)
    (body : ∀ (p : Program) (e : Env) (s : State) (m : MethodId) (args : Array Value) (below : List Frame) (meth : Method) (c : Code), Cxt p (rmL lev) s m args meth c w cc nL own lev 0 0 → meth.sig.returnType = ret → Vj p l e (rmL lev) s m args below meth c w nL 0 0 (MQ below Qc args s 0 0 w.2.2.2) 0 L [] μ) :
    Met l y (Cond.code y cc nL ret :: BW) (rmL lev) (va_Pc as (wIs w μ)) Qc 0 0 w.2.2.2 := by
  refine Met.ofW (cc := cc) (maxL := nL) (ret := ret) hy rfl ?_
  intro p e s m args below meth c s₁ B hml hv
  obtain ⟨rfl, hP, hK⟩ := hv
  have hts := atoms_spec (ws := Cond.code y cc nL ret :: BW) B.pre
  have hl := lv_entry as (n := nL) hn
  have G : Cxt p (rmL lev) s m as.toArray meth c w cc nL own lev 0 0 := ⟨B.exec, B.bytes, hml, by rw [← hown]; exact findClass_of_methodNamed B.named, fun x hx => hts x (List.mem_cons_of_mem _ hx), hK, Nat.le_refl _, Nat.le_refl _, B.notSynchronized, Nat.le_refl _, Nat.le_refl _⟩
  rw [lg_entry_eq]
  exact body p e s m as.toArray below meth c G B.returns s.heap [] _ hP ⟨Nat.le_refl _, fun _ _ _ => rfl, fun _ h => by cases h⟩ (by unfold lH; rw [hL]; exact hl)
section Ends
variable {p : Program} {l : Launch} {e : Env} {R : Room} {s : State} {m : MethodId} {args : Array Value} {below : List Frame} {meth : Method} {c : Code} {w : Wld} {cc : ByteArray} {nL : Nat} {own : String} {lev : Nat} {Q : State → Prop} {pc pc' tgt kc ns : Nat} {L : List (Option Value)} {st : List Value} {μ : Mem}
theorem V_iret (G : Cxt p R s m args meth c w cc nL own lev kc ns) (hr : meth.sig.returnType = some .int) {x : Int32} (d : D1 cc pc .ireturn pc') : Vj p l e R s m args below meth c w nL kc ns (MQ below (QI w x μ) args s kc ns w.2.2.2) pc L [.int x] μ := by
  obtain ⟨d1, rfl⟩ := d
  exact fun H locs ls hP hS hl => W.iret G.1 G.2.1 hr (fun t ht _ => ⟨⟨x, (), rfl, rfl, by show va_P w.1 vwCl (wsM w μ) t.heap; rw [ht]; exact hP⟩, by rw [va_F, ht]; exact ⟨hS.1, hS.2.1⟩⟩) hS.2.2 d1 G.2.2.2.2.2.2.2.2.1
theorem V_zret (G : Cxt p R s m args meth c w cc nL own lev kc ns) (hr : meth.sig.returnType = some .boolean) {x : Int32} (hx : x = 0 ∨ x = 1) (d : D1 cc pc .ireturn pc') : Vj p l e R s m args below meth c w nL kc ns (MQ below (QI w x μ) args s kc ns w.2.2.2) pc L [.int x] μ := by
  obtain ⟨d1, rfl⟩ := d
  exact fun H locs ls hP hS hl => W.zret G.1 G.2.1 hr (by rcases hx with rfl | rfl <;> rfl) (fun t ht _ => ⟨⟨x, (), rfl, rfl, by show va_P w.1 vwCl (wsM w μ) t.heap; rw [ht]; exact hP⟩, by rw [va_F, ht]; exact ⟨hS.1, hS.2.1⟩⟩) hS.2.2 d1 G.2.2.2.2.2.2.2.2.1
theorem V_lret (G : Cxt p R s m args meth c w cc nL own lev kc ns) (hr : meth.sig.returnType = some .long) {x : Int64} (d : D1 cc pc .lreturn pc') : Vj p l e R s m args below meth c w nL kc ns (MQ below (QL w x μ) args s kc ns w.2.2.2) pc L [.long x] μ := by
  obtain ⟨d1, rfl⟩ := d
  exact fun H locs ls hP hS hl => W.lret G.1 G.2.1 hr (fun t ht _ => ⟨⟨x, (), rfl, rfl, by show va_P w.1 vwCl (wsM w μ) t.heap; rw [ht]; exact hP⟩, by rw [va_F, ht]; exact ⟨hS.1, hS.2.1⟩⟩) hS.2.2 d1 G.2.2.2.2.2.2.2.2.1
theorem V_vret (G : Cxt p R s m args meth c w cc nL own lev kc ns) (hr : meth.sig.returnType = none) (d : D1 cc pc .return_ pc') : Vj p l e R s m args below meth c w nL kc ns (MQ below (QV w μ) args s kc ns w.2.2.2) pc L [] μ := by
  obtain ⟨d1, rfl⟩ := d
  exact fun H locs ls hP hS hl => W.vret G.1 G.2.1 hr (fun t ht _ => ⟨⟨(), rfl, trivial, by show va_P w.1 vwCl (wsM w μ) t.heap; rw [ht]; exact hP⟩, by rw [va_F, ht]; exact ⟨hS.1, hS.2.1⟩⟩) hS.2.2 d1 G.2.2.2.2.2.2.2.2.1
/-- what the function answers is what is returned -/
theorem V_ri (G : Cxt p R s m args meth c w cc nL own lev kc ns) (hr : meth.sig.returnType = some .int) {x r : Int32} (d : D1 cc pc .ireturn pc') (h : some x = some r) : Vj p l e R s m args below meth c w nL kc ns (MQ below (QI w r μ) args s kc ns w.2.2.2) pc L [.int x] μ := by
  cases h
  exact V_iret G hr d
theorem V_riM (G : Cxt p R s m args meth c w cc nL own lev kc ns) (hr : meth.sig.returnType = some .int) {x r : Int32} {μ' : Mem} (d : D1 cc pc .ireturn pc') (h : some (x, μ) = some (r, μ')) : Vj p l e R s m args below meth c w nL kc ns (MQ below (QI w r μ') args s kc ns w.2.2.2) pc L [.int x] μ := by
  cases h
  exact V_iret G hr d
theorem V_rz (G : Cxt p R s m args meth c w cc nL own lev kc ns) (hr : meth.sig.returnType = some .boolean) {x r : Int32} (d : D1 cc pc .ireturn pc') (h : mRz x = some r) : Vj p l e R s m args below meth c w nL kc ns (MQ below (QI w r μ) args s kc ns w.2.2.2) pc L [.int x] μ := by
  unfold mRz at h
  split at h
  · rename_i hx
    cases h
    exact V_zret G hr hx d
  · cases h
theorem V_rzM (G : Cxt p R s m args meth c w cc nL own lev kc ns) (hr : meth.sig.returnType = some .boolean) {x r : Int32} {μ' : Mem} (d : D1 cc pc .ireturn pc') (h : (mRz x).bind (fun z => some (z, μ)) = some (r, μ')) : Vj p l e R s m args below meth c w nL kc ns (MQ below (QI w r μ') args s kc ns w.2.2.2) pc L [.int x] μ := by
  unfold mRz at h
  split at h
  · rename_i hx
    cases h
    exact V_zret G hr hx d
  · cases h
theorem V_rl (G : Cxt p R s m args meth c w cc nL own lev kc ns) (hr : meth.sig.returnType = some .long) {x r : Int64} (d : D1 cc pc .lreturn pc') (h : some x = some r) : Vj p l e R s m args below meth c w nL kc ns (MQ below (QL w r μ) args s kc ns w.2.2.2) pc L [.long x] μ := by
  cases h
  exact V_lret G hr d
theorem V_rlM (G : Cxt p R s m args meth c w cc nL own lev kc ns) (hr : meth.sig.returnType = some .long) {x r : Int64} {μ' : Mem} (d : D1 cc pc .lreturn pc') (h : some (x, μ) = some (r, μ')) : Vj p l e R s m args below meth c w nL kc ns (MQ below (QL w r μ') args s kc ns w.2.2.2) pc L [.long x] μ := by
  cases h
  exact V_lret G hr d
theorem V_rvM (G : Cxt p R s m args meth c w cc nL own lev kc ns) (hr : meth.sig.returnType = none) {μ' : Mem} (d : D1 cc pc .return_ pc') (h : some μ = some μ') : Vj p l e R s m args below meth c w nL kc ns (MQ below (QV w μ') args s kc ns w.2.2.2) pc L [] μ := by
  cases h
  exact V_vret G hr d
end Ends
/-! calls -/
def LkB (own : String) (idx : Nat) (y : MethodName) (cc : ByteArray) (nL : Nat) (ret : Option FieldType) (n : Nat) : Prop :=
  (Cond.methodLink own idx y ∈ BW ∨ ∃ host, Cond.methodLinkNest own idx y host ∈ NL) ∧ Cond.code y cc nL ret ∈ BW ∧ Cond.initialized y.cls ∈ BW ∧ (y.cls ≠ "java/lang/invoke/MethodHandle" ∧ y.cls ≠ "java/lang/invoke/VarHandle" ∧ (parseMethodDescriptor y.desc).map (fun d => d.parameters.length) = some n) ∧ nL ≤ 21
def LkV (own : String) (idx : Nat) (y : MethodName) (cc : ByteArray) (nL : Nat) (ret : Option FieldType) (n j : Nat) : Prop :=
  LkB own idx y cc nL ret n ∧ Cond.instanceMethod y ∈ BW ∧ Cond.selects y.cls y y ∈ BW ∧ ∃ (T : u_T) (N : Nat), Cf j y.cls T N
def LkS (own : String) (idx : Nat) (y : MethodName) (cc : ByteArray) (nL : Nat) (ret : Option FieldType) (n : Nat) : Prop :=
  LkB own idx y cc nL ret n ∧ Cond.static y ∈ BW
section Calls
variable {p : Program} {l : Launch} {e : Env} {R : Room} {s : State} {m : MethodId} {args : Array Value} {below : List Frame} {meth : Method} {c : Code} {w : Wld} {cc : ByteArray} {nL : Nat} {own : String} {lev : Nat} {Q : State → Prop} {pc pc' tgt kc ns : Nat} {L : List (Option Value)} {st st0 : List Value} {μ : Mem}
theorem wPc_blind {as : List Value} {w : Wld} {μ : Mem} : FrameBlind (va_Pc as (wIs w μ)) := fun a U g mk h => ⟨h.1, h.2.calling g mk a⟩
theorem V_run (G : Cxt p R s m args meth c w cc nL own lev kc ns) {y : MethodName} {cc' : ByteArray} {nL' idx n j lev' : Nat} {ret : Option FieldType} {As : List Value} {Qc : Array Value → State → Outcome → State → Prop} {H : Heap} {locs : List Loc} {ls : Array Slot} (lk : LkV own idx y cc' nL' ret n j)
    (hc : Met l y (Cond.code y cc' nL' ret :: BW) (rmL lev') (va_Pc (.ref (wad w j 0) :: As) (wIs w μ)) Qc 0 0 w.2.2.2) (hlev : lev' + 1 ≤ lev) (hn : As.length = n) (hst : st0 = As.reverse ++ .ref (wad w j 0) :: st) (hcat : (st.map fun v => v.category).sum ≤ 8) (d : decode cc pc = .ok (.invokevirtual idx, 3))
    (hP : va_P w.1 vwCl (wsM w μ) H) (hl : ls.size = nL) : va_Run p l e R s m args below meth c H locs kc ns 0 0 (F0 m pc ls st0) st (Qc (Value.ref (wad w j 0) :: As).toArray) w.2.2.2 := by
  obtain ⟨⟨b1, b2, b3, b4, b5⟩, v1, v2, T, N, f1, f2, f3, f4, f5, f6⟩ := lk
  obtain ⟨q, hq⟩ := wKx f5 (Nat.zero_lt_one)
  have hts := G.2.2.2.2.1
  have hR : (rmL lev').frames + 1 ≤ R.frames ∧ 8 + (nL' + 11) + (rmL lev').locals ≤ R.locals := by
    have h1 := G.2.2.2.2.2.2.1
    have h2 := G.2.2.2.2.2.2.2.1
    show lev' + 1 ≤ R.frames ∧ 8 + (nL' + 11) + 40 * lev' ≤ R.locals
    constructor <;> omega
  have hp : PreV s H y.cls (wad w j 0) (va_Pc (.ref (wad w j 0) :: As) (wIs w μ)) As := ⟨wPc_blind, va_recv G.2.2.2.2.2.1.1 hP f1 (wWs_at hq), fun U hU hW => ⟨rfl, by rw [hU]; exact hP, G.2.2.2.2.2.1.warm hW⟩⟩
  rcases b1 with b1 | ⟨host, b1⟩
  · exact va_runV (C := y.cls) ⟨G.1, G.2.1, G.2.2.1, G.2.2.2.1, hts⟩ hc ⟨callB_of n hts (BW_code b2) rfl rfl rfl (hts _ b3) (hts _ b1) b4 hR, hts _ v1, hts _ v2⟩ hp rfl hn hl hst (lv_room hcat) d ⟨G.2.2.2.2.2.2.2.2.2.1, G.2.2.2.2.2.2.2.2.2.2⟩
  · exact va_runVN (C := y.cls) ⟨G.1, G.2.1, G.2.2.1, G.2.2.2.1, hts⟩ hc ⟨va_cnB n hts (BW_code b2) rfl rfl rfl (G.2.2.2.2.2.1.2.2 _ b1) (hts _ b3) b4 hR, hts _ v1, hts _ v2⟩ hp rfl hn hl hst (lv_room hcat) d ⟨G.2.2.2.2.2.2.2.2.2.1, G.2.2.2.2.2.2.2.2.2.2⟩
theorem V_runS (G : Cxt p R s m args meth c w cc nL own lev kc ns) {y : MethodName} {cc' : ByteArray} {nL' idx n lev' : Nat} {ret : Option FieldType} {As : List Value} {Qc : Array Value → State → Outcome → State → Prop} {H : Heap} {locs : List Loc} {ls : Array Slot} (lk : LkS own idx y cc' nL' ret n)
    (hc : Met l y (Cond.code y cc' nL' ret :: BW) (rmL lev') (va_Pc As (wIs w μ)) Qc 0 0 w.2.2.2) (hlev : lev' + 1 ≤ lev) (hn : As.length = n) (hst : st0 = As.reverse ++ st) (hcat : (st.map fun v => v.category).sum ≤ 8) (d : decode cc pc = .ok (.invokestatic idx, 3))
    (hP : va_P w.1 vwCl (wsM w μ) H) (hl : ls.size = nL) : va_Run p l e R s m args below meth c H locs kc ns 0 0 (F0 m pc ls st0) st (Qc As.toArray) w.2.2.2 := by
  obtain ⟨⟨b1, b2, b3, b4, b5⟩, v1⟩ := lk
  have hts := G.2.2.2.2.1
  have hR : (rmL lev').frames + 1 ≤ R.frames ∧ 8 + (nL' + 11) + (rmL lev').locals ≤ R.locals := by
    have h1 := G.2.2.2.2.2.2.1
    have h2 := G.2.2.2.2.2.2.2.1
    show lev' + 1 ≤ R.frames ∧ 8 + (nL' + 11) + 40 * lev' ≤ R.locals
    constructor <;> omega
  have hp : PreS s H (va_Pc As (wIs w μ)) As := ⟨wPc_blind, fun U hU hW => ⟨rfl, by rw [hU]; exact hP, G.2.2.2.2.2.1.warm hW⟩⟩
  rcases b1 with b1 | ⟨host, b1⟩
  · exact va_runS ⟨G.1, G.2.1, G.2.2.1, G.2.2.2.1, hts⟩ hc ⟨callB_of n hts (BW_code b2) rfl rfl rfl (hts _ b3) (hts _ b1) b4 hR, hts _ v1⟩ hp rfl hn hl hst (lv_room hcat) d ⟨G.2.2.2.2.2.2.2.2.2.1, G.2.2.2.2.2.2.2.2.2.2⟩
  · exact va_runSN ⟨G.1, G.2.1, G.2.2.1, G.2.2.2.1, hts⟩ hc ⟨va_cnB n hts (BW_code b2) rfl rfl rfl (G.2.2.2.2.2.1.2.2 _ b1) (hts _ b3) b4 hR, hts _ v1, trivial⟩ hp rfl hn hl hst (lv_room hcat) d ⟨G.2.2.2.2.2.2.2.2.2.1, G.2.2.2.2.2.2.2.2.2.2⟩
theorem V_callIS (G : Cxt p R s m args meth c w cc nL own lev kc ns) {y : MethodName} {cc' : ByteArray} {nL' idx n lev' : Nat} {ty : FieldType} {As : List Value} {r : Int32} {μ' : Mem} (lk : LkS own idx y cc' nL' (some ty) n) (hc : CtI l w y cc' nL' ty lev' As μ r μ') (hlev : lev' + 1 ≤ lev) (hn : As.length = n) (hst : st0 = As.reverse ++ st) (hcat : (st.map fun v => v.category).sum ≤ 8) (d : D3 cc pc (.invokestatic idx) pc')
    (k : Vj p l e R s m args below meth c w nL kc ns Q pc' L (.int r :: st) μ') : Vj p l e R s m args below meth c w nL kc ns Q pc L st0 μ := by
  obtain ⟨d1, rfl⟩ := d
  intro H locs ls hP hS hl
  exact va_calli (V_runS G lk hc hlev hn hst hcat d1 hP hl.1) hS (fun _ _ h => h) (fun _ h => h) (fun r1 u t H1 locs1 ht hvm hw hB hz1 hk1 hS1 => by
    subst hw
    exact k H1 locs1 ls (by rw [← ht]; exact hB) hS1 hl)
theorem V_callI (G : Cxt p R s m args meth c w cc nL own lev kc ns) {y : MethodName} {cc' : ByteArray} {nL' idx n j lev' : Nat} {ty : FieldType} {As : List Value} {r : Int32} {μ' : Mem} (lk : LkV own idx y cc' nL' (some ty) n j) (hc : CtI l w y cc' nL' ty lev' (.ref (wad w j 0) :: As) μ r μ') (hlev : lev' + 1 ≤ lev) (hn : As.length = n) (hst : st0 = As.reverse ++ .ref (wad w j 0) :: st) (hcat : (st.map fun v => v.category).sum ≤ 8) (d : D3 cc pc (.invokevirtual idx) pc')
    (k : Vj p l e R s m args below meth c w nL kc ns Q pc' L (.int r :: st) μ') : Vj p l e R s m args below meth c w nL kc ns Q pc L st0 μ := by
  obtain ⟨d1, rfl⟩ := d
  intro H locs ls hP hS hl
  exact va_calli (V_run G lk hc hlev hn hst hcat d1 hP hl.1) hS (fun _ _ h => h) (fun _ h => h) (fun r1 u t H1 locs1 ht hvm hw hB hz1 hk1 hS1 => by
    subst hw
    exact k H1 locs1 ls (by rw [← ht]; exact hB) hS1 hl)
theorem V_callLS (G : Cxt p R s m args meth c w cc nL own lev kc ns) {y : MethodName} {cc' : ByteArray} {nL' idx n lev' : Nat} {ty : FieldType} {As : List Value} {r : Int64} {μ' : Mem} (lk : LkS own idx y cc' nL' (some ty) n) (hc : CtL l w y cc' nL' ty lev' As μ r μ') (hlev : lev' + 1 ≤ lev) (hn : As.length = n) (hst : st0 = As.reverse ++ st) (hcat : (st.map fun v => v.category).sum ≤ 8) (d : D3 cc pc (.invokestatic idx) pc')
    (k : Vj p l e R s m args below meth c w nL kc ns Q pc' L (.long r :: st) μ') : Vj p l e R s m args below meth c w nL kc ns Q pc L st0 μ := by
  obtain ⟨d1, rfl⟩ := d
  intro H locs ls hP hS hl
  exact va_calll (V_runS G lk hc hlev hn hst hcat d1 hP hl.1) hS (fun _ _ h => h) (fun _ h => h) (fun r1 u t H1 locs1 ht hvm hw hB hz1 hk1 hS1 => by
    subst hw
    exact k H1 locs1 ls (by rw [← ht]; exact hB) hS1 hl)
theorem V_callL (G : Cxt p R s m args meth c w cc nL own lev kc ns) {y : MethodName} {cc' : ByteArray} {nL' idx n j lev' : Nat} {ty : FieldType} {As : List Value} {r : Int64} {μ' : Mem} (lk : LkV own idx y cc' nL' (some ty) n j) (hc : CtL l w y cc' nL' ty lev' (.ref (wad w j 0) :: As) μ r μ') (hlev : lev' + 1 ≤ lev) (hn : As.length = n) (hst : st0 = As.reverse ++ .ref (wad w j 0) :: st) (hcat : (st.map fun v => v.category).sum ≤ 8) (d : D3 cc pc (.invokevirtual idx) pc')
    (k : Vj p l e R s m args below meth c w nL kc ns Q pc' L (.long r :: st) μ') : Vj p l e R s m args below meth c w nL kc ns Q pc L st0 μ := by
  obtain ⟨d1, rfl⟩ := d
  intro H locs ls hP hS hl
  exact va_calll (V_run G lk hc hlev hn hst hcat d1 hP hl.1) hS (fun _ _ h => h) (fun _ h => h) (fun r1 u t H1 locs1 ht hvm hw hB hz1 hk1 hS1 => by
    subst hw
    exact k H1 locs1 ls (by rw [← ht]; exact hB) hS1 hl)
theorem V_callVS (G : Cxt p R s m args meth c w cc nL own lev kc ns) {y : MethodName} {cc' : ByteArray} {nL' idx n lev' : Nat} {As : List Value} {μ' : Mem} (lk : LkS own idx y cc' nL' none n) (hc : CtV l w y cc' nL' lev' As μ μ') (hlev : lev' + 1 ≤ lev) (hn : As.length = n) (hst : st0 = As.reverse ++ st) (hcat : (st.map fun v => v.category).sum ≤ 8) (d : D3 cc pc (.invokestatic idx) pc')
    (k : Vj p l e R s m args below meth c w nL kc ns Q pc' L st μ') : Vj p l e R s m args below meth c w nL kc ns Q pc L st0 μ := by
  obtain ⟨d1, rfl⟩ := d
  intro H locs ls hP hS hl
  exact va_callv (V_runS G lk hc hlev hn hst hcat d1 hP hl.1) hS (fun _ _ h => h) (fun _ h => h) (fun u t H1 locs1 ht hvm hw hB hz1 hk1 hS1 => by
    exact k H1 locs1 ls (by rw [← ht]; exact hB) hS1 hl)
theorem V_callV (G : Cxt p R s m args meth c w cc nL own lev kc ns) {y : MethodName} {cc' : ByteArray} {nL' idx n j lev' : Nat} {As : List Value} {μ' : Mem} (lk : LkV own idx y cc' nL' none n j) (hc : CtV l w y cc' nL' lev' (.ref (wad w j 0) :: As) μ μ') (hlev : lev' + 1 ≤ lev) (hn : As.length = n) (hst : st0 = As.reverse ++ .ref (wad w j 0) :: st) (hcat : (st.map fun v => v.category).sum ≤ 8) (d : D3 cc pc (.invokevirtual idx) pc')
    (k : Vj p l e R s m args below meth c w nL kc ns Q pc' L st μ') : Vj p l e R s m args below meth c w nL kc ns Q pc L st0 μ := by
  obtain ⟨d1, rfl⟩ := d
  intro H locs ls hP hS hl
  exact va_callv (V_run G lk hc hlev hn hst hcat d1 hP hl.1) hS (fun _ _ h => h) (fun _ h => h) (fun u t H1 locs1 ht hvm hw hB hz1 hk1 hS1 => by
    exact k H1 locs1 ls (by rw [← ht]; exact hB) hS1 hl)
theorem V_tswIn (G : Cxt p R s m args meth c w cc nL own lev kc ns) {dflt lo hi off : Int} {offs : Array Int} {len : Nat} {x v : Int32} (d : decode cc pc = .ok (.tableswitch dflt lo hi offs, len)) (hx : x = v) (h1 : ¬ v.toInt < lo) (h2 : ¬ hi < v.toInt) (ho : offs[(v.toInt - lo).toNat]? = some off) (ht : (pc : Int) + off = (tgt : Int))
    (k : Vj p l e R s m args below meth c w nL kc ns Q tgt L st μ) : Vj p l e R s m args below meth c w nL kc ns Q pc L (.int x :: st) μ := by
  subst hx
  exact fun H locs ls hP hS hl => lv_tableIn G.1 G.2.1 d h1 h2 ho ht (k H locs ls hP hS hl)
theorem V_tswOut (G : Cxt p R s m args meth c w cc nL own lev kc ns) {dflt lo hi : Int} {offs : Array Int} {len : Nat} {x : Int32} (d : decode cc pc = .ok (.tableswitch dflt lo hi offs, len)) (hn : ∀ k : Int, lo ≤ k → k ≤ hi → ¬ x = Int32.ofInt k) (ht : (pc : Int) + dflt = (tgt : Int))
    (k : Vj p l e R s m args below meth c w nL kc ns Q tgt L st μ) : Vj p l e R s m args below meth c w nL kc ns Q pc L (.int x :: st) μ := by
  refine fun H locs ls hP hS hl => lv_tableOut G.1 G.2.1 d ?_ ht (k H locs ls hP hS hl)
  by_cases a : x.toInt < lo
  · exact Or.inl a
  · by_cases b : hi < x.toInt
    · exact Or.inr b
    · exact absurd (by simp) (hn x.toInt (by omega) (by omega))
theorem V_lsw (G : Cxt p R s m args meth c w cc nL own lev kc ns) {dflt off : Int} {ps : Array (Int × Int)} {len : Nat} {x : Int32} (d : decode cc pc = .ok (.lookupswitch dflt ps, len)) (hp : (ps.toList.zip (ps.toList.drop 1)).all (fun (a, next) => a.1 < next.1) = true) (ho : Op.lookupswitch.offset ps.toList dflt x.toInt = off) (ht : (pc : Int) + off = (tgt : Int))
    (k : Vj p l e R s m args below meth c w nL kc ns Q tgt L st μ) : Vj p l e R s m args below meth c w nL kc ns Q pc L (.int x :: st) μ :=
  fun H locs ls hP hS hl => lv_lookup G.1 G.2.1 d hp ho ht (k H locs ls hP hS hl)
theorem toInt_ne {x : Int32} {n : Int} (h : ¬ x = Int32.ofInt n) : ¬ x.toInt = n := fun q => h (by rw [← q]; simp)
theorem mCP_upd {μ : Mem} {v r v' r' n : Nat} : va_cpy (fun i => mI μ v r i) (fun i => mI μ v' r' i) 0 0 n = fun i => mI (mCP μ v r v' r' n) v' r' i := by
  funext i
  unfold va_cpy mI mCP
  simp
theorem mCP_ne {μ : Mem} {v r v' r' n a b d : Nat} (h : ¬ (a = v' ∧ b = r')) : mI (mCP μ v r v' r' n) a b d = mI μ a b d := by
  unfold mI mCP
  simp only
  rw [if_neg fun q => h ⟨q.1, q.2.1⟩]
theorem V_copy (G : Cxt p R s m args meth c w cc nL own lev kc ns) {idx v r v' r' n0 n1 rows rows' : Nat} {n : Int32} {α : Type} {f : Mem → Option α} {o : α} (he : ((v, rows, 1, n0) : Ent) ∈ AL) (hr : r < rows) (he' : ((v', rows', 1, n1) : Ent) ∈ AL) (hr' : r' < rows') (hw : Cond.methodLink own idx arraycopyName ∈ BW ∧ Cond.native arraycopyName ∈ BW ∧ Cond.static arraycopyName ∈ BW ∧ Cond.initialized "java/lang/System" ∈ BW)
    (h3 : ¬ n < 0) (h4 : n.toNatClampNeg ≤ n0) (h5 : n.toNatClampNeg ≤ n1) (hlev : 1 ≤ lev) (hcat : (st.map fun v => v.category).sum + (nativeFrameWords "java/lang/System" "arraycopy" 5 + 11) ≤ 40) (d : D3 cc pc (.invokestatic idx) pc') (h : (some (mCP μ v r v' r' n.toNatClampNeg)).bind f = some o)
    (k : ∀ μ', f μ' = some o → Vj p l e R s m args below meth c w nL kc ns Q pc' L st μ') : Vj p l e R s m args below meth c w nL kc ns Q pc L (.int n :: .int 0 :: .ref (wad w v' r') :: .int 0 :: .ref (wad w v r) :: st) μ := by
  obtain ⟨d1, rfl⟩ := d
  intro H locs ls hP hS hl
  obtain ⟨q, hq⟩ := wKx he hr
  obtain ⟨q', hq'⟩ := wKx he' hr'
  have hts := G.2.2.2.2.1
  have hz : (0 : Int32).toNatClampNeg = 0 := by decide
  have hset : (wsM w μ).set q' (wad w v' r', .inl (w.2.1 0, n1, .inl (va_cpy (fun i => mI μ v r i) (fun i => mI μ v' r' i) 0 0 n.toNatClampNeg))) = wsM w (mCP μ v r v' r' n.toNatClampNeg) := wWs_set AL_nd hq' (by rw [mCP_upd]; rfl) (wEn_keep he' (by show 1 ≠ 0; decide) (fun a b d h => mCP_ne h) (fun a b d h => rfl))
  have h7 := G.2.2.2.2.2.2.1
  have h8 := G.2.2.2.2.2.2.2.1
  refine va_copyi G.1 G.2.1 (G.2.2.1.trans hl.1.symm) G.2.2.2.1 (hts _ hw.1) (hts _ hw.2.1) (hts _ hw.2.2.1) (hts _ hw.2.2.2) G.2.2.2.2.2.1.1 hP (G.2.2.2.2.2.1.2.1 μ) hS q q' 0 0 (wWs_at hq) (wWs_at hq') (ty := .int) rfl rfl rfl (by decide) (by decide) h3 (by rw [hz]; simpa using h4) (by rw [hz]; simpa using h5) (fun i _ => rfl) (by omega) (by omega) d1 (fun H1 locs1 hP1 _ hS1 => k _ h H1 locs1 ls ?_ hS1 hl)
  rw [hz] at hP1
  rw [← hset]
  exact hP1
end Calls
