set_option maxRecDepth 100000 in
set_option maxHeartbeats 4000000 in
theorem M_most_run {p : Program} {l : Launch} {e : Env} {R : Room} {s : State} {m : MethodId} {args : Array Value} {below : List Frame} {meth : Method} {c : Code} {w : Wld} (G : Cxt p R s m args meth c w cX12_most 2 "PotBookModel" 2 0 0) (hr : meth.sig.returnType = some .boolean) {a1 : Int32} {μ : Mem} {r : Int32} {μ' : Mem} (h : M_most a1 μ = some (r, μ')) : Vj p l e R s m args below meth c w 2 0 0 (MQ below (QI w r μ') args s 0 0 w.2.2.2) 0 [some (.ref (wad w 12 0)), some (.int a1)] [] μ := by
  unfold M_most at h
  refine V_iload_n (i := 1) G eX12_most_0 rfl rfl ?_
  refine V_iconst (n := 1) (v := (nI 1)) G eX12_most_1 rfl ?_
  refine V_bipush (n := 20) (v := (nI 20)) G eX12_most_2 rfl ?_
  obtain ⟨x1, h1, h⟩ := bdS h
  refine V_callIS (As := [.int a1, .int (nI 1), .int (nI 20)]) (st := []) G lkX12_198 (M_in_ok (μ := μ) h1) (by decide) rfl rfl (Nat.le_of_ble_eq_true rfl) eX12_most_4 ?_
  refine V_if_ne G eX12_most_7 h (fun h => ?_) (fun h => ?_)
  · refine V_aload_n (i := 0) G eX12_most_12 rfl rfl ?_
    refine V_iload_n (i := 1) G eX12_most_13 rfl rfl ?_
    refine V_put G fgX12_98 fp_12_39 eX12_most_14 h (fun μ2 h => ?_)
    refine V_iconst (n := 1) (v := (nI 1)) G eX12_most_17 rfl ?_
    exact V_rzM G hr eX12_most_18 h
  · refine V_iconst (n := 0) (v := (nI 0)) G eX12_most_10 rfl ?_
    exact V_rzM G hr eX12_most_11 h
theorem M_most_ok {l : Launch} {w : Wld} {a1 : Int32} {μ : Mem} {r : Int32} {μ' : Mem} (h : M_most a1 μ = some (r, μ')) : CtI l w yX12_most cX12_most 2 .boolean 2 [.ref (wad w 12 0), .int a1] μ r μ' :=
  Ct_of (own := "PotBookModel") [some (.ref (wad w 12 0)), some (.int a1)] (by decide +kernel) rfl rfl (Nat.le_of_ble_eq_true rfl) fun p e s m args below meth c G hr => M_most_run G hr h
set_option maxRecDepth 100000 in
set_option maxHeartbeats 4000000 in
theorem M_hold_run {p : Program} {l : Launch} {e : Env} {R : Room} {s : State} {m : MethodId} {args : Array Value} {below : List Frame} {meth : Method} {c : Code} {w : Wld} (G : Cxt p R s m args meth c w cX12_hold 5 "PotBookModel" 3 0 0) (hr : meth.sig.returnType = some .int) {a1 : Int32} {a2 : Int32} {a3 : Int32} {a4 : Int32} {μ : Mem} {r : Int32} {μ' : Mem} (h : M_hold a1 a2 a3 a4 μ = some (r, μ')) : Vj p l e R s m args below meth c w 5 0 0 (MQ below (QI w r μ') args s 0 0 w.2.2.2) 0 [some (.ref (wad w 12 0)), some (.int a1), some (.int a2), some (.int a3), some (.int a4)] [] μ := by
  unfold M_hold at h
  refine V_aload_n (i := 0) G eX12_hold_0 rfl rfl ?_
  refine V_iload_n (i := 1) G eX12_hold_1 rfl rfl ?_
  obtain ⟨x1, h1, h⟩ := bdS h
  refine V_callI (As := [.int a1]) (st := []) G lkX12_332 (M_isPage_ok h1) (by decide) rfl rfl (Nat.le_of_ble_eq_true rfl) eX12_hold_2 ?_
  refine V_if_eq G eX12_hold_5 h (fun h => ?_) (fun h => ?_)
  · refine V_iconst (n := -1) (v := (-1)) G eX12_hold_50 rfl ?_
    exact V_riM G hr eX12_hold_51 h
  · refine V_aload_n (i := 0) G eX12_hold_8 rfl rfl ?_
    refine V_iload_n (i := 2) G eX12_hold_9 rfl rfl ?_
    obtain ⟨x2, h1, h⟩ := bdS h
    refine V_callI (As := [.int a2]) (st := []) G lkX12_341 (M_isLaw_ok h1) (by decide) rfl rfl (Nat.le_of_ble_eq_true rfl) eX12_hold_10 ?_
    refine V_if_eq G eX12_hold_13 h (fun h => ?_) (fun h => ?_)
    · refine V_iconst (n := -1) (v := (-1)) G eX12_hold_50 rfl ?_
      exact V_riM G hr eX12_hold_51 h
    · refine V_iload_n (i := 3) G eX12_hold_16 rfl rfl ?_
      refine V_ldcw (v := (-1000000)) G cnI_X12_344 eX12_hold_17 ?_
      refine V_ldcw (v := (nI 1000000)) G cnI_X12_345 eX12_hold_20 ?_
      obtain ⟨x3, h1, h⟩ := bdS h
      refine V_callIS (As := [.int a3, .int (-1000000), .int (nI 1000000)]) (st := []) G lkX12_198 (M_in_ok (μ := μ) h1) (by decide) rfl rfl (Nat.le_of_ble_eq_true rfl) eX12_hold_23 ?_
      refine V_if_eq G eX12_hold_26 h (fun h => ?_) (fun h => ?_)
      · refine V_iconst (n := -1) (v := (-1)) G eX12_hold_50 rfl ?_
        exact V_riM G hr eX12_hold_51 h
      · refine V_iload G eX12_hold_29 rfl ?_
        refine V_iload_n (i := 3) G eX12_hold_31 rfl rfl ?_
        refine V_ldcw (v := (nI 1000000)) G cnI_X12_345 eX12_hold_32 ?_
        obtain ⟨x4, h1, h⟩ := bdS h
        refine V_callIS (As := [.int a4, .int a3, .int (nI 1000000)]) (st := []) G lkX12_198 (M_in_ok (μ := μ) h1) (by decide) rfl rfl (Nat.le_of_ble_eq_true rfl) eX12_hold_35 ?_
        refine V_if_eq G eX12_hold_38 h (fun h => ?_) (fun h => ?_)
        · refine V_iconst (n := -1) (v := (-1)) G eX12_hold_50 rfl ?_
          exact V_riM G hr eX12_hold_51 h
        · refine V_aload_n (i := 0) G eX12_hold_41 rfl rfl ?_
          refine V_get (v := .int (mI μ 1338 0 0)) G fgX12_346 rfl eX12_hold_42 ?_
          refine V_bipush (n := 20) (v := (nI 20)) G eX12_hold_45 rfl ?_
          refine V_icmp_ne G eX12_hold_47 h (fun h => ?_) (fun h => ?_)
          · refine V_aload_n (i := 0) G eX12_hold_52 rfl rfl ?_
            refine V_get (v := .ref (wad w 1334 0)) G fgX12_86 rfl eX12_hold_53 ?_
            refine V_aload_n (i := 0) G eX12_hold_56 rfl rfl ?_
            refine V_get (v := .int (mI μ 1338 0 0)) G fgX12_346 rfl eX12_hold_57 ?_
            refine V_iload_n (i := 1) G eX12_hold_60 rfl rfl ?_
            refine V_iast G al_1334 (by decide) eX12_hold_61 h (fun μ5 h => ?_)
            refine V_aload_n (i := 0) G eX12_hold_62 rfl rfl ?_
            refine V_get (v := .ref (wad w 1335 0)) G fgX12_89 rfl eX12_hold_63 ?_
            refine V_aload_n (i := 0) G eX12_hold_66 rfl rfl ?_
            refine V_get (v := .int (mI μ5 1338 0 0)) G fgX12_346 rfl eX12_hold_67 ?_
            refine V_iload_n (i := 2) G eX12_hold_70 rfl rfl ?_
            refine V_iast G al_1335 (by decide) eX12_hold_71 h (fun μ6 h => ?_)
            refine V_aload_n (i := 0) G eX12_hold_72 rfl rfl ?_
            refine V_get (v := .ref (wad w 1336 0)) G fgX12_92 rfl eX12_hold_73 ?_
            refine V_aload_n (i := 0) G eX12_hold_76 rfl rfl ?_
            refine V_get (v := .int (mI μ6 1338 0 0)) G fgX12_346 rfl eX12_hold_77 ?_
            refine V_iload_n (i := 3) G eX12_hold_80 rfl rfl ?_
            refine V_iast G al_1336 (by decide) eX12_hold_81 h (fun μ7 h => ?_)
            refine V_aload_n (i := 0) G eX12_hold_82 rfl rfl ?_
            refine V_get (v := .ref (wad w 1337 0)) G fgX12_95 rfl eX12_hold_83 ?_
            refine V_aload_n (i := 0) G eX12_hold_86 rfl rfl ?_
            refine V_get (v := .int (mI μ7 1338 0 0)) G fgX12_346 rfl eX12_hold_87 ?_
            refine V_iload G eX12_hold_90 rfl ?_
            refine V_iast G al_1337 (by decide) eX12_hold_92 h (fun μ8 h => ?_)
            refine V_aload_n (i := 0) G eX12_hold_93 rfl rfl ?_
            refine V_dup G eX12_hold_94 rfl ?_
            refine V_get (v := .int (mI μ8 1338 0 0)) G fgX12_346 rfl eX12_hold_95 ?_
            refine V_iconst (n := 1) (v := (nI 1)) G eX12_hold_98 rfl ?_
            refine V_iadd G eX12_hold_99 ?_
            refine V_put G fgX12_346 fp_12_38 eX12_hold_100 h (fun μ9 h => ?_)
            refine V_aload_n (i := 0) G eX12_hold_103 rfl rfl ?_
            refine V_get (v := .int (mI μ9 1338 0 0)) G fgX12_346 rfl eX12_hold_104 ?_
            exact V_riM G hr eX12_hold_107 h
          · refine V_iconst (n := -1) (v := (-1)) G eX12_hold_50 rfl ?_
            exact V_riM G hr eX12_hold_51 h
theorem M_hold_ok {l : Launch} {w : Wld} {a1 : Int32} {a2 : Int32} {a3 : Int32} {a4 : Int32} {μ : Mem} {r : Int32} {μ' : Mem} (h : M_hold a1 a2 a3 a4 μ = some (r, μ')) : CtI l w yX12_hold cX12_hold 5 .int 3 [.ref (wad w 12 0), .int a1, .int a2, .int a3, .int a4] μ r μ' :=
  Ct_of (own := "PotBookModel") [some (.ref (wad w 12 0)), some (.int a1), some (.int a2), some (.int a3), some (.int a4)] (by decide +kernel) rfl rfl (Nat.le_of_ble_eq_true rfl) fun p e s m args below meth c G hr => M_hold_run G hr h
set_option maxRecDepth 100000 in
set_option maxHeartbeats 4000000 in
theorem M_lowOf_run {p : Program} {l : Launch} {e : Env} {R : Room} {s : State} {m : MethodId} {args : Array Value} {below : List Frame} {meth : Method} {c : Code} {w : Wld} (G : Cxt p R s m args meth c w cX12_lowOf 2 "PotBookModel" 2 0 0) (hr : meth.sig.returnType = some .int) {a1 : Int32} {μ : Mem} {r : Int32} (h : M_lowOf a1 μ = some r) : Vj p l e R s m args below meth c w 2 0 0 (MQ below (QI w r μ) args s 0 0 w.2.2.2) 0 [some (.ref (wad w 12 0)), some (.int a1)] [] μ := by
  unfold M_lowOf at h
  refine V_iconst (n := 1) (v := (nI 1)) G eX12_lowOf_0 rfl ?_
  refine V_aload_n (i := 0) G eX12_lowOf_1 rfl rfl ?_
  refine V_get (v := .ref (wad w 1317 0)) G fgX12_44 rfl eX12_lowOf_2 ?_
  refine V_iload_n (i := 1) G eX12_lowOf_5 rfl rfl ?_
  refine V_iald G al_1317 (by decide) eX12_lowOf_6 h (fun x1 h => ?_)
  refine V_jMax G mkX12_209 (by decide) (Nat.le_of_ble_eq_true rfl) eX12_lowOf_7 ?_
  exact V_ri G hr eX12_lowOf_10 h
theorem M_lowOf_ok {l : Launch} {w : Wld} {a1 : Int32} {μ : Mem} {r : Int32} (h : M_lowOf a1 μ = some r) : CtI l w yX12_lowOf cX12_lowOf 2 .int 2 [.ref (wad w 12 0), .int a1] μ r μ :=
  Ct_of (own := "PotBookModel") [some (.ref (wad w 12 0)), some (.int a1)] (by decide +kernel) rfl rfl (Nat.le_of_ble_eq_true rfl) fun p e s m args below meth c G hr => M_lowOf_run G hr h
set_option maxRecDepth 100000 in
set_option maxHeartbeats 4000000 in
theorem M_rangeOf_run {p : Program} {l : Launch} {e : Env} {R : Room} {s : State} {m : MethodId} {args : Array Value} {below : List Frame} {meth : Method} {c : Code} {w : Wld} (G : Cxt p R s m args meth c w cX12_rangeOf 2 "PotBookModel" 3 0 0) (hr : meth.sig.returnType = some .int) {a1 : Int32} {μ : Mem} {r : Int32} (h : M_rangeOf a1 μ = some r) : Vj p l e R s m args below meth c w 2 0 0 (MQ below (QI w r μ) args s 0 0 w.2.2.2) 0 [some (.ref (wad w 12 0)), some (.int a1)] [] μ := by
  unfold M_rangeOf at h
  refine V_aload_n (i := 0) G eX12_rangeOf_0 rfl rfl ?_
  refine V_get (v := .ref (wad w 1317 0)) G fgX12_44 rfl eX12_rangeOf_1 ?_
  refine V_iload_n (i := 1) G eX12_rangeOf_4 rfl rfl ?_
  refine V_iald G al_1317 (by decide) eX12_rangeOf_5 h (fun x1 h => ?_)
  obtain ⟨x3, hj, h⟩ := bdS h
  have J : Vj p l e R s m args below meth c w 2 0 0 (MQ below (QI w r μ) args s 0 0 w.2.2.2) 22 [some (.ref (wad w 12 0)), some (.int a1)] [.int x3] μ := by
    clear hj
    refine V_aload_n (i := 0) G eX12_rangeOf_22 rfl rfl ?_
    refine V_iload_n (i := 1) G eX12_rangeOf_23 rfl rfl ?_
    obtain ⟨x4, h1, h⟩ := bdS h
    refine V_callI (As := [.int a1]) (st := [.int x3]) G lkX12_349 (M_lowOf_ok h1) (by decide) rfl rfl (Nat.le_of_ble_eq_true rfl) eX12_rangeOf_24 ?_
    refine V_isub G eX12_rangeOf_27 ?_
    refine V_iconst (n := 1) (v := (nI 1)) G eX12_rangeOf_28 rfl ?_
    refine V_iadd G eX12_rangeOf_29 ?_
    exact V_ri G hr eX12_rangeOf_30 h
  replace h := hj
  clear hj
  refine V_if_ne G eX12_rangeOf_6 h (fun h => ?_) (fun h => ?_)
  · refine V_aload_n (i := 0) G eX12_rangeOf_16 rfl rfl ?_
    refine V_get (v := .ref (wad w 1318 0)) G fgX12_47 rfl eX12_rangeOf_17 ?_
    refine V_iload_n (i := 1) G eX12_rangeOf_20 rfl rfl ?_
    refine V_iald G al_1318 (by decide) eX12_rangeOf_21 h (fun x2 h => ?_)
    cases h; exact J
  · refine V_aload_n (i := 0) G eX12_rangeOf_9 rfl rfl ?_
    refine V_get (v := .int (mI μ 1339 0 0)) G fgX12_98 rfl eX12_rangeOf_10 ?_
    refine V_goto G eX12_rangeOf_13 ?_
    cases h; exact J
theorem M_rangeOf_ok {l : Launch} {w : Wld} {a1 : Int32} {μ : Mem} {r : Int32} (h : M_rangeOf a1 μ = some r) : CtI l w yX12_rangeOf cX12_rangeOf 2 .int 3 [.ref (wad w 12 0), .int a1] μ r μ :=
  Ct_of (own := "PotBookModel") [some (.ref (wad w 12 0)), some (.int a1)] (by decide +kernel) rfl rfl (Nat.le_of_ble_eq_true rfl) fun p e s m args below meth c G hr => M_rangeOf_run G hr h
set_option maxRecDepth 100000 in
set_option maxHeartbeats 4000000 in
theorem M_lay_l1_ok {p : Program} {l : Launch} {e : Env} {R : Room} {s : State} {m : MethodId} {args : Array Value} {below : List Frame} {meth : Method} {c : Code} {w : Wld} {Q : State → Prop} (G : Cxt p R s m args meth c w cX12_lay 6 "PotBookModel" 4 0 0) {v1 : Int32} {μo : Mem} : ∀ {n : Nat} {v3 : Int32} {v4 : Int32} {μ : Mem}, M_lay_l1 v1 n v3 v4 μ = some μo → Vj p l e R s m args below meth c w 6 0 0 Q 64 [none, none, none, none, none, none] [] μo → Vj p l e R s m args below meth c w 6 0 0 Q 12 [some (.ref (wad w 12 0)), some (.int v1), none, some (.int v3), some (.int v4), none] [] μ := by
  intro n
  induction n with
  | zero => intro v3 v4 μ h K; exact noS h
  | succ n ih =>
    intro v3 v4 μ h K
    replace h : M_lay_l1b v1 (M_lay_l1 v1 n) v3 v4 μ = some μo := h
    unfold M_lay_l1b at h
    refine V_iload G eX12_lay_12 rfl ?_
    refine V_if_lt G eX12_lay_14 h (fun h => ?_) (fun h => ?_)
    · cases h; exact V_sub (lS_n (lS_n (lS_n (lS_n (lS_n (lS_n lS_0)))))) K
    · refine V_aload_n (i := 0) G eX12_lay_17 rfl rfl ?_
      refine V_bipush (n := 8) (v := (nI 8)) G eX12_lay_18 rfl ?_
      refine V_iload_n (i := 1) G eX12_lay_20 rfl rfl ?_
      refine V_imul G eX12_lay_21 ?_
      refine V_iload G eX12_lay_22 rfl ?_
      refine V_iadd G eX12_lay_24 ?_
      obtain ⟨x1, h1, h⟩ := bdS h
      refine V_callI (As := [.int (((nI 8) * v1) + v4)]) (st := []) G lkX12_352 (M_rangeOf_ok h1) (by decide) rfl rfl (Nat.le_of_ble_eq_true rfl) eX12_lay_25 ?_
      refine V_istoreA (i := 5) (L' := [some (.ref (wad w 12 0)), some (.int v1), none, some (.int v3), some (.int v4), some (.int x1)]) G eX12_lay_28 (by decide) rfl rfl ?_
      refine V_aload_n (i := 0) G eX12_lay_30 rfl rfl ?_
      refine V_get (v := .ref (wad w 1340 0)) G fgX12_102 rfl eX12_lay_31 ?_
      refine V_iload G eX12_lay_34 rfl ?_
      refine V_aload_n (i := 0) G eX12_lay_36 rfl rfl ?_
      refine V_bipush (n := 8) (v := (nI 8)) G eX12_lay_37 rfl ?_
      refine V_iload_n (i := 1) G eX12_lay_39 rfl rfl ?_
      refine V_imul G eX12_lay_40 ?_
      refine V_iload G eX12_lay_41 rfl ?_
      refine V_iadd G eX12_lay_43 ?_
      obtain ⟨x2, h1, h⟩ := bdS h
      refine V_callI (As := [.int (((nI 8) * v1) + v4)]) (st := [.int v4, .ref (wad w 1340 0)]) G lkX12_349 (M_lowOf_ok h1) (by decide) rfl rfl (Nat.le_of_ble_eq_true rfl) eX12_lay_44 ?_
      refine V_iload_n (i := 3) G eX12_lay_47 rfl rfl ?_
      refine V_iload G eX12_lay_48 rfl ?_
      refine V_irem G eX12_lay_50 h (fun x3 h => ?_)
      refine V_iadd G eX12_lay_51 ?_
      refine V_iast G al_1340 (by decide) eX12_lay_52 h (fun μ4 h => ?_)
      refine V_iload_n (i := 3) G eX12_lay_53 rfl rfl ?_
      refine V_iload G eX12_lay_54 rfl ?_
      refine V_idiv G eX12_lay_56 h (fun x5 h => ?_)
      refine V_istoreA_n (i := 3) (L' := [some (.ref (wad w 12 0)), some (.int v1), none, some (.int x5), some (.int v4), some (.int x1)]) G rfl eX12_lay_57 (by decide) rfl rfl ?_
      refine V_iinc (z := (-1)) (L' := (fun x6 => [some (.ref (wad w 12 0)), some (.int v1), none, some (.int x5), some (.int x6), some (.int x1)])) G eX12_lay_58 rfl rfl (by decide) rfl (fun _ => rfl) h (fun x6 h => ?_)
      refine V_goto G eX12_lay_61 ?_
      exact V_sub (lS_s (lS_s (lS_n (lS_s (lS_s (lS_n lS_0)))))) (ih h K)
set_option maxRecDepth 100000 in
set_option maxHeartbeats 4000000 in
theorem M_lay_run {p : Program} {l : Launch} {e : Env} {R : Room} {s : State} {m : MethodId} {args : Array Value} {below : List Frame} {meth : Method} {c : Code} {w : Wld} (G : Cxt p R s m args meth c w cX12_lay 6 "PotBookModel" 4 0 0) (hr : meth.sig.returnType = none) {a1 : Int32} {a2 : Int32} {μ : Mem} {μ' : Mem} (h : M_lay a1 a2 μ = some μ') : Vj p l e R s m args below meth c w 6 0 0 (MQ below (QV w μ') args s 0 0 w.2.2.2) 0 [some (.ref (wad w 12 0)), some (.int a1), some (.int a2), none, none, none] [] μ := by
  unfold M_lay at h
  refine V_iload_n (i := 2) G eX12_lay_0 rfl rfl ?_
  refine V_istoreA_n (i := 3) (L' := [some (.ref (wad w 12 0)), some (.int a1), some (.int a2), some (.int a2), none, none]) G rfl eX12_lay_1 (by decide) rfl rfl ?_
  refine V_aload_n (i := 0) G eX12_lay_2 rfl rfl ?_
  refine V_get (v := .ref (wad w 1315 0)) G fgX12_38 rfl eX12_lay_3 ?_
  refine V_iload_n (i := 1) G eX12_lay_6 rfl rfl ?_
  refine V_iald G al_1315 (by decide) eX12_lay_7 h (fun x1 h => ?_)
  refine V_iconst (n := 1) (v := (nI 1)) G eX12_lay_8 rfl ?_
  refine V_isub G eX12_lay_9 ?_
  refine V_istore (i := 4) (L' := (fun x2 => [some (.ref (wad w 12 0)), some (.int a1), some (.int a2), some (.int a2), some (.int x2), none])) G eX12_lay_10 (by decide) rfl (fun _ => rfl) h (fun x2 h => ?_)
  obtain ⟨μ3, h1, h⟩ := bdS h
  refine V_sub (lS_s (lS_s (lS_n (lS_s (lS_s (lS_n lS_0)))))) ?_
  refine M_lay_l1_ok G h1 ?_
  exact V_rvM G hr eX12_lay_64 h
theorem M_lay_ok {l : Launch} {w : Wld} {a1 : Int32} {a2 : Int32} {μ : Mem} {μ' : Mem} (h : M_lay a1 a2 μ = some μ') : CtV l w yX12_lay cX12_lay 6 4 [.ref (wad w 12 0), .int a1, .int a2] μ μ' :=
  Ct_of (own := "PotBookModel") [some (.ref (wad w 12 0)), some (.int a1), some (.int a2), none, none, none] (by decide +kernel) rfl rfl (Nat.le_of_ble_eq_true rfl) fun p e s m args below meth c G hr => M_lay_run G hr h
set_option maxRecDepth 100000 in
set_option maxHeartbeats 4000000 in
theorem M_spell_l1_ok {p : Program} {l : Launch} {e : Env} {R : Room} {s : State} {m : MethodId} {args : Array Value} {below : List Frame} {meth : Method} {c : Code} {w : Wld} {Q : State → Prop} (G : Cxt p R s m args meth c w cX12_spell 4 "PotBookModel" 1 0 0) {v1 : Int32} {μo : Mem} : ∀ {n : Nat} {v2 : Int32} {μ : Mem}, M_spell_l1 v1 n v2 μ = some μo → Vj p l e R s m args below meth c w 4 0 0 Q 21 [some (.ref (wad w 12 0)), some (.int v1), none, none] [] μo → Vj p l e R s m args below meth c w 4 0 0 Q 2 [some (.ref (wad w 12 0)), some (.int v1), some (.int v2), none] [] μ := by
  intro n
  induction n with
  | zero => intro v2 μ h K; exact noS h
  | succ n ih =>
    intro v2 μ h K
    replace h : M_spell_l1b v1 (M_spell_l1 v1 n) v2 μ = some μo := h
    unfold M_spell_l1b at h
    refine V_iload_n (i := 2) G eX12_spell_2 rfl rfl ?_
    refine V_bipush (n := 9) (v := (nI 9)) G eX12_spell_3 rfl ?_
    refine V_icmp_ge G eX12_spell_5 h (fun h => ?_) (fun h => ?_)
    · cases h; exact V_sub (lS_s (lS_s (lS_n (lS_n lS_0)))) K
    · refine V_aload_n (i := 0) G eX12_spell_8 rfl rfl ?_
      refine V_get (v := .ref (wad w 1332 0)) G fgX12_80 rfl eX12_spell_9 ?_
      refine V_iload_n (i := 2) G eX12_spell_12 rfl rfl ?_
      refine V_iconst (n := 0) (v := (nI 0)) G eX12_spell_13 rfl ?_
      refine V_iast G al_1332 (by decide) eX12_spell_14 h (fun μ1 h => ?_)
      refine V_iinc (z := (nI 1)) (L' := (fun x2 => [some (.ref (wad w 12 0)), some (.int v1), some (.int x2), none])) G eX12_spell_15 rfl rfl (by decide) rfl (fun _ => rfl) h (fun x2 h => ?_)
      refine V_goto G eX12_spell_18 ?_
      exact (ih h K)
set_option maxRecDepth 100000 in
set_option maxHeartbeats 4000000 in
theorem M_spell_l2_ok {p : Program} {l : Launch} {e : Env} {R : Room} {s : State} {m : MethodId} {args : Array Value} {below : List Frame} {meth : Method} {c : Code} {w : Wld} {Q : State → Prop} (G : Cxt p R s m args meth c w cX12_spell 4 "PotBookModel" 1 0 0) {v1 : Int32} {μo : Mem} : ∀ {n : Nat} {v2 : Int32} {μ : Mem}, M_spell_l2 v1 n v2 μ = some μo → Vj p l e R s m args below meth c w 4 0 0 Q 159 [some (.ref (wad w 12 0)), some (.int v1), none, none] [] μo → Vj p l e R s m args below meth c w 4 0 0 Q 23 [some (.ref (wad w 12 0)), some (.int v1), some (.int v2), none] [] μ := by
  intro n
  induction n with
  | zero => intro v2 μ h K; exact noS h
  | succ n ih =>
    intro v2 μ h K
    replace h : M_spell_l2b v1 (M_spell_l2 v1 n) v2 μ = some μo := h
    unfold M_spell_l2b at h
    refine V_iload_n (i := 2) G eX12_spell_23 rfl rfl ?_
    refine V_aload_n (i := 0) G eX12_spell_24 rfl rfl ?_
    refine V_get (v := .ref (wad w 1315 0)) G fgX12_38 rfl eX12_spell_25 ?_
    refine V_iload_n (i := 1) G eX12_spell_28 rfl rfl ?_
    refine V_iald G al_1315 (by decide) eX12_spell_29 h (fun x1 h => ?_)
    refine V_icmp_ge G eX12_spell_30 h (fun h => ?_) (fun h => ?_)
    · cases h; exact V_sub (lS_s (lS_s (lS_n (lS_n lS_0)))) K
    · refine V_aload_n (i := 0) G eX12_spell_33 rfl rfl ?_
      refine V_get (v := .ref (wad w 1316 0)) G fgX12_41 rfl eX12_spell_34 ?_
      refine V_bipush (n := 8) (v := (nI 8)) G eX12_spell_37 rfl ?_
      refine V_iload_n (i := 1) G eX12_spell_39 rfl rfl ?_
      refine V_imul G eX12_spell_40 ?_
      refine V_iload_n (i := 2) G eX12_spell_41 rfl rfl ?_
      refine V_iadd G eX12_spell_42 ?_
      refine V_iald G al_1316 (by decide) eX12_spell_43 h (fun x2 h => ?_)
      refine V_istoreA_n (i := 3) (L' := [some (.ref (wad w 12 0)), some (.int v1), some (.int v2), some (.int x2)]) G rfl eX12_spell_44 (by decide) rfl rfl ?_
      refine V_aload_n (i := 0) G eX12_spell_45 rfl rfl ?_
      refine V_get (v := .ref (wad w 1332 0)) G fgX12_80 rfl eX12_spell_46 ?_
      refine V_iconst (n := 0) (v := (nI 0)) G eX12_spell_49 rfl ?_
      refine V_dup2_11 G eX12_spell_50 rfl rfl ?_
      refine V_iald G al_1332 (by decide) eX12_spell_51 h (fun x3 h => ?_)
      refine V_aload_n (i := 0) G eX12_spell_52 rfl rfl ?_
      refine V_get (v := .ref (wad w 1306 0)) G fgX12_13 rfl eX12_spell_53 ?_
      refine V_iload_n (i := 3) G eX12_spell_56 rfl rfl ?_
      refine V_iald G al_1306 (by decide) eX12_spell_57 h (fun x4 h => ?_)
      refine V_aload_n (i := 0) G eX12_spell_58 rfl rfl ?_
      refine V_get (v := .ref (wad w 1340 0)) G fgX12_102 rfl eX12_spell_59 ?_
      refine V_iload_n (i := 2) G eX12_spell_62 rfl rfl ?_
      refine V_iald G al_1340 (by decide) eX12_spell_63 h (fun x5 h => ?_)
      refine V_imul G eX12_spell_64 ?_
      refine V_iadd G eX12_spell_65 ?_
      refine V_iast G al_1332 (by decide) eX12_spell_66 h (fun μ6 h => ?_)
      refine V_aload_n (i := 0) G eX12_spell_67 rfl rfl ?_
      refine V_get (v := .ref (wad w 1332 0)) G fgX12_80 rfl eX12_spell_68 ?_
      refine V_iconst (n := 1) (v := (nI 1)) G eX12_spell_71 rfl ?_
      refine V_dup2_11 G eX12_spell_72 rfl rfl ?_
      refine V_iald G al_1332 (by decide) eX12_spell_73 h (fun x7 h => ?_)
      refine V_aload_n (i := 0) G eX12_spell_74 rfl rfl ?_
      refine V_get (v := .ref (wad w 1307 0)) G fgX12_16 rfl eX12_spell_75 ?_
      refine V_iload_n (i := 3) G eX12_spell_78 rfl rfl ?_
      refine V_iald G al_1307 (by decide) eX12_spell_79 h (fun x8 h => ?_)
      refine V_aload_n (i := 0) G eX12_spell_80 rfl rfl ?_
      refine V_get (v := .ref (wad w 1340 0)) G fgX12_102 rfl eX12_spell_81 ?_
      refine V_iload_n (i := 2) G eX12_spell_84 rfl rfl ?_
      refine V_iald G al_1340 (by decide) eX12_spell_85 h (fun x9 h => ?_)
      refine V_imul G eX12_spell_86 ?_
      refine V_iadd G eX12_spell_87 ?_
      refine V_iast G al_1332 (by decide) eX12_spell_88 h (fun μ10 h => ?_)
      refine V_aload_n (i := 0) G eX12_spell_89 rfl rfl ?_
      refine V_get (v := .ref (wad w 1332 0)) G fgX12_80 rfl eX12_spell_90 ?_
      refine V_iconst (n := 2) (v := (nI 2)) G eX12_spell_93 rfl ?_
      refine V_dup2_11 G eX12_spell_94 rfl rfl ?_
      refine V_iald G al_1332 (by decide) eX12_spell_95 h (fun x11 h => ?_)
      refine V_aload_n (i := 0) G eX12_spell_96 rfl rfl ?_
      refine V_get (v := .ref (wad w 1308 0)) G fgX12_19 rfl eX12_spell_97 ?_
      refine V_iload_n (i := 3) G eX12_spell_100 rfl rfl ?_
      refine V_iald G al_1308 (by decide) eX12_spell_101 h (fun x12 h => ?_)
      refine V_aload_n (i := 0) G eX12_spell_102 rfl rfl ?_
      refine V_get (v := .ref (wad w 1340 0)) G fgX12_102 rfl eX12_spell_103 ?_
      refine V_iload_n (i := 2) G eX12_spell_106 rfl rfl ?_
      refine V_iald G al_1340 (by decide) eX12_spell_107 h (fun x13 h => ?_)
      refine V_imul G eX12_spell_108 ?_
      refine V_iadd G eX12_spell_109 ?_
      refine V_iast G al_1332 (by decide) eX12_spell_110 h (fun μ14 h => ?_)
      refine V_aload_n (i := 0) G eX12_spell_111 rfl rfl ?_
      refine V_get (v := .ref (wad w 1332 0)) G fgX12_80 rfl eX12_spell_112 ?_
      refine V_iconst (n := 3) (v := (nI 3)) G eX12_spell_115 rfl ?_
      refine V_dup2_11 G eX12_spell_116 rfl rfl ?_
      refine V_iald G al_1332 (by decide) eX12_spell_117 h (fun x15 h => ?_)
      refine V_aload_n (i := 0) G eX12_spell_118 rfl rfl ?_
      refine V_get (v := .ref (wad w 1340 0)) G fgX12_102 rfl eX12_spell_119 ?_
      refine V_iload_n (i := 2) G eX12_spell_122 rfl rfl ?_
      refine V_iald G al_1340 (by decide) eX12_spell_123 h (fun x16 h => ?_)
      refine V_iadd G eX12_spell_124 ?_
      refine V_iast G al_1332 (by decide) eX12_spell_125 h (fun μ17 h => ?_)
      refine V_aload_n (i := 0) G eX12_spell_126 rfl rfl ?_
      refine V_get (v := .ref (wad w 1332 0)) G fgX12_80 rfl eX12_spell_127 ?_
      refine V_bipush (n := 8) (v := (nI 8)) G eX12_spell_130 rfl ?_
      refine V_aload_n (i := 0) G eX12_spell_132 rfl rfl ?_
      refine V_get (v := .ref (wad w 1309 0)) G fgX12_22 rfl eX12_spell_133 ?_
      refine V_iload_n (i := 3) G eX12_spell_136 rfl rfl ?_
      refine V_zald G al_1309 (by decide) eX12_spell_137 h (fun x18 h => ?_)
      obtain ⟨x20, hj, h⟩ := bdS h
      have J : Vj p l e R s m args below meth c w 4 0 0 Q 152 [some (.ref (wad w 12 0)), some (.int v1), some (.int v2), none] [.int x20, .int (nI 8), .ref (wad w 1332 0)] μ17 := by
        clear hj
        refine V_iast G al_1332 (by decide) eX12_spell_152 h (fun μ21 h => ?_)
        refine V_iinc (z := (nI 1)) (L' := (fun x22 => [some (.ref (wad w 12 0)), some (.int v1), some (.int x22), none])) G eX12_spell_153 rfl rfl (by decide) rfl (fun _ => rfl) h (fun x22 h => ?_)
        refine V_goto G eX12_spell_156 ?_
        exact (ih h K)
      replace h := hj
      clear hj
      refine V_if_eq G eX12_spell_138 h (fun h => ?_) (fun h => ?_)
      · refine V_aload_n (i := 0) G eX12_spell_145 rfl rfl ?_
        refine V_get (v := .ref (wad w 1332 0)) G fgX12_80 rfl eX12_spell_146 ?_
        refine V_bipush (n := 8) (v := (nI 8)) G eX12_spell_149 rfl ?_
        refine V_iald G al_1332 (by decide) eX12_spell_151 h (fun x19 h => ?_)
        cases h; exact V_sub (lS_s (lS_s (lS_s (lS_n lS_0)))) J
      · refine V_iconst (n := 1) (v := (nI 1)) G eX12_spell_141 rfl ?_
        refine V_goto G eX12_spell_142 ?_
        cases h; exact V_sub (lS_s (lS_s (lS_s (lS_n lS_0)))) J
set_option maxRecDepth 100000 in
set_option maxHeartbeats 4000000 in
theorem M_spell_l3_ok {p : Program} {l : Launch} {e : Env} {R : Room} {s : State} {m : MethodId} {args : Array Value} {below : List Frame} {meth : Method} {c : Code} {w : Wld} {Q : State → Prop} (G : Cxt p R s m args meth c w cX12_spell 4 "PotBookModel" 1 0 0) {v1 : Int32} {μo : Mem} : ∀ {n : Nat} {v2 : Int32} {μ : Mem}, M_spell_l3 v1 n v2 μ = some μo → Vj p l e R s m args below meth c w 4 0 0 Q 231 [none, none, none, none] [] μo → Vj p l e R s m args below meth c w 4 0 0 Q 161 [some (.ref (wad w 12 0)), some (.int v1), some (.int v2), none] [] μ := by
  intro n
  induction n with
  | zero => intro v2 μ h K; exact noS h
  | succ n ih =>
    intro v2 μ h K
    replace h : M_spell_l3b v1 (M_spell_l3 v1 n) v2 μ = some μo := h
    unfold M_spell_l3b at h
    refine V_iload_n (i := 2) G eX12_spell_161 rfl rfl ?_
    refine V_aload_n (i := 0) G eX12_spell_162 rfl rfl ?_
    refine V_get (v := .ref (wad w 1319 0)) G fgX12_50 rfl eX12_spell_163 ?_
    refine V_iload_n (i := 1) G eX12_spell_166 rfl rfl ?_
    refine V_iald G al_1319 (by decide) eX12_spell_167 h (fun x1 h => ?_)
    refine V_icmp_ge G eX12_spell_168 h (fun h => ?_) (fun h => ?_)
    · cases h; exact V_sub (lS_n (lS_n (lS_n (lS_n lS_0)))) K
    · refine V_aload_n (i := 0) G eX12_spell_171 rfl rfl ?_
      refine V_get (v := .ref (wad w 1320 0)) G fgX12_53 rfl eX12_spell_172 ?_
      refine V_bipush (n := 72) (v := (nI 72)) G eX12_spell_175 rfl ?_
      refine V_iload_n (i := 1) G eX12_spell_177 rfl rfl ?_
      refine V_imul G eX12_spell_178 ?_
      refine V_iload_n (i := 2) G eX12_spell_179 rfl rfl ?_
      refine V_iadd G eX12_spell_180 ?_
      refine V_iald G al_1320 (by decide) eX12_spell_181 h (fun x2 h => ?_)
      refine V_istoreA_n (i := 3) (L' := [some (.ref (wad w 12 0)), some (.int v1), some (.int v2), some (.int x2)]) G rfl eX12_spell_182 (by decide) rfl rfl ?_
      refine V_aload_n (i := 0) G eX12_spell_183 rfl rfl ?_
      refine V_get (v := .ref (wad w 1332 0)) G fgX12_80 rfl eX12_spell_184 ?_
      refine V_iload_n (i := 3) G eX12_spell_187 rfl rfl ?_
      refine V_bipush (n := 66) (v := (nI 66)) G eX12_spell_188 rfl ?_
      obtain ⟨x3, hj, h⟩ := bdS h
      have J : Vj p l e R s m args below meth c w 4 0 0 Q 220 [some (.ref (wad w 12 0)), some (.int v1), some (.int v2), none] [.int x3, .ref (wad w 1332 0)] μ := by
        clear hj
        refine V_dup2_11 G eX12_spell_220 rfl rfl ?_
        refine V_iald G al_1332 (by decide) eX12_spell_221 h (fun x4 h => ?_)
        refine V_iconst (n := 1) (v := (nI 1)) G eX12_spell_222 rfl ?_
        refine V_iadd G eX12_spell_223 ?_
        refine V_iast G al_1332 (by decide) eX12_spell_224 h (fun μ5 h => ?_)
        refine V_iinc (z := (nI 1)) (L' := (fun x6 => [some (.ref (wad w 12 0)), some (.int v1), some (.int x6), none])) G eX12_spell_225 rfl rfl (by decide) rfl (fun _ => rfl) h (fun x6 h => ?_)
        refine V_goto G eX12_spell_228 ?_
        exact (ih h K)
      replace h := hj
      clear hj
      refine V_icmp_ne G eX12_spell_190 h (fun h => ?_) (fun h => ?_)
      · refine V_iload_n (i := 3) G eX12_spell_197 rfl rfl ?_
        refine V_bipush (n := 82) (v := (nI 82)) G eX12_spell_198 rfl ?_
        refine V_icmp_ne G eX12_spell_200 h (fun h => ?_) (fun h => ?_)
        · refine V_iload_n (i := 3) G eX12_spell_207 rfl rfl ?_
          refine V_bipush (n := 84) (v := (nI 84)) G eX12_spell_208 rfl ?_
          refine V_icmp_ne G eX12_spell_210 h (fun h => ?_) (fun h => ?_)
          · refine V_bipush (n := 7) (v := (nI 7)) G eX12_spell_218 rfl ?_
            cases h; exact V_sub (lS_s (lS_s (lS_s (lS_n lS_0)))) J
          · refine V_bipush (n := 6) (v := (nI 6)) G eX12_spell_213 rfl ?_
            refine V_goto G eX12_spell_215 ?_
            cases h; exact V_sub (lS_s (lS_s (lS_s (lS_n lS_0)))) J
        · refine V_iconst (n := 5) (v := (nI 5)) G eX12_spell_203 rfl ?_
          refine V_goto G eX12_spell_204 ?_
          cases h; exact V_sub (lS_s (lS_s (lS_s (lS_n lS_0)))) J
      · refine V_iconst (n := 4) (v := (nI 4)) G eX12_spell_193 rfl ?_
        refine V_goto G eX12_spell_194 ?_
        cases h; exact V_sub (lS_s (lS_s (lS_s (lS_n lS_0)))) J
set_option maxRecDepth 100000 in
set_option maxHeartbeats 4000000 in
theorem M_spell_run {p : Program} {l : Launch} {e : Env} {R : Room} {s : State} {m : MethodId} {args : Array Value} {below : List Frame} {meth : Method} {c : Code} {w : Wld} (G : Cxt p R s m args meth c w cX12_spell 4 "PotBookModel" 1 0 0) (hr : meth.sig.returnType = none) {a1 : Int32} {μ : Mem} {μ' : Mem} (h : M_spell a1 μ = some μ') : Vj p l e R s m args below meth c w 4 0 0 (MQ below (QV w μ') args s 0 0 w.2.2.2) 0 [some (.ref (wad w 12 0)), some (.int a1), none, none] [] μ := by
  unfold M_spell at h
  refine V_iconst (n := 0) (v := (nI 0)) G eX12_spell_0 rfl ?_
  refine V_istoreA_n (i := 2) (L' := [some (.ref (wad w 12 0)), some (.int a1), some (.int (nI 0)), none]) G rfl eX12_spell_1 (by decide) rfl rfl ?_
  obtain ⟨μ1, h1, h⟩ := bdS h
  refine M_spell_l1_ok G h1 ?_
  refine V_iconst (n := 0) (v := (nI 0)) G eX12_spell_21 rfl ?_
  refine V_istoreA_n (i := 2) (L' := [some (.ref (wad w 12 0)), some (.int a1), some (.int (nI 0)), none]) G rfl eX12_spell_22 (by decide) rfl rfl ?_
  obtain ⟨μ2, h1, h⟩ := bdS h
  refine M_spell_l2_ok G h1 ?_
  refine V_iconst (n := 0) (v := (nI 0)) G eX12_spell_159 rfl ?_
  refine V_istoreA_n (i := 2) (L' := [some (.ref (wad w 12 0)), some (.int a1), some (.int (nI 0)), none]) G rfl eX12_spell_160 (by decide) rfl rfl ?_
  obtain ⟨μ3, h1, h⟩ := bdS h
  refine M_spell_l3_ok G h1 ?_
  exact V_rvM G hr eX12_spell_231 h
theorem M_spell_ok {l : Launch} {w : Wld} {a1 : Int32} {μ : Mem} {μ' : Mem} (h : M_spell a1 μ = some μ') : CtV l w yX12_spell cX12_spell 4 1 [.ref (wad w 12 0), .int a1] μ μ' :=
  Ct_of (own := "PotBookModel") [some (.ref (wad w 12 0)), some (.int a1), none, none] (by decide +kernel) rfl rfl (Nat.le_of_ble_eq_true rfl) fun p e s m args below meth c G hr => M_spell_run G hr h
set_option maxRecDepth 100000 in
set_option maxHeartbeats 4000000 in
theorem M_isKept_l1_ok {p : Program} {l : Launch} {e : Env} {R : Room} {s : State} {m : MethodId} {args : Array Value} {below : List Frame} {meth : Method} {c : Code} {w : Wld} (G : Cxt p R s m args meth c w cX12_isKept 3 "PotBookModel" 6 0 0) (hr : meth.sig.returnType = some .boolean) {v1 : Int32} {r : Int32} {μ' : Mem} : ∀ {n : Nat} {v2 : Int32} {μ : Mem}, M_isKept_l1 v1 n v2 μ = some (r, μ') → Vj p l e R s m args below meth c w 3 0 0 (MQ below (QI w r μ') args s 0 0 w.2.2.2) 2 [some (.ref (wad w 12 0)), some (.int v1), some (.int v2)] [] μ := by
  intro n
  induction n with
  | zero => intro v2 μ h; exact noS h
  | succ n ih =>
    intro v2 μ h
    replace h : M_isKept_l1b v1 (M_isKept_l1 v1 n) v2 μ = some (r, μ') := h
    unfold M_isKept_l1b at h
    refine V_iload_n (i := 2) G eX12_isKept_2 rfl rfl ?_
    refine V_aload_n (i := 0) G eX12_isKept_3 rfl rfl ?_
    refine V_get (v := .int (mI μ 1338 0 0)) G fgX12_346 rfl eX12_isKept_4 ?_
    refine V_icmp_ge G eX12_isKept_7 h (fun h => ?_) (fun h => ?_)
    · refine V_iconst (n := 1) (v := (nI 1)) G eX12_isKept_56 rfl ?_
      exact V_rzM G hr eX12_isKept_57 h
    · refine V_aload_n (i := 0) G eX12_isKept_10 rfl rfl ?_
      refine V_get (v := .ref (wad w 1334 0)) G fgX12_86 rfl eX12_isKept_11 ?_
      refine V_iload_n (i := 2) G eX12_isKept_14 rfl rfl ?_
      refine V_iald G al_1334 (by decide) eX12_isKept_15 h (fun x1 h => ?_)
      refine V_iload_n (i := 1) G eX12_isKept_16 rfl rfl ?_
      refine V_icmp_ne G eX12_isKept_17 h (fun h => ?_) (fun h => ?_)
      · refine V_iinc (z := (nI 1)) (L' := (fun x2 => [some (.ref (wad w 12 0)), some (.int v1), some (.int x2)])) G eX12_isKept_50 rfl rfl (by decide) rfl (fun _ => rfl) h (fun x2 h => ?_)
        refine V_goto G eX12_isKept_53 ?_
        exact (ih h)
      · refine V_aload_n (i := 0) G eX12_isKept_20 rfl rfl ?_
        refine V_aload_n (i := 0) G eX12_isKept_21 rfl rfl ?_
        refine V_get (v := .ref (wad w 1335 0)) G fgX12_89 rfl eX12_isKept_22 ?_
        refine V_iload_n (i := 2) G eX12_isKept_25 rfl rfl ?_
        refine V_iald G al_1335 (by decide) eX12_isKept_26 h (fun x3 h => ?_)
        obtain ⟨⟨x4, μ5⟩, h1, h⟩ := bdS h
        refine V_callI (As := [.int x3]) (st := []) G lkX12_355 (M_worthNow_ok h1) (by decide) rfl rfl (Nat.le_of_ble_eq_true rfl) eX12_isKept_27 ?_
        refine V_aload_n (i := 0) G eX12_isKept_30 rfl rfl ?_
        refine V_get (v := .ref (wad w 1336 0)) G fgX12_92 rfl eX12_isKept_31 ?_
        refine V_iload_n (i := 2) G eX12_isKept_34 rfl rfl ?_
        refine V_iald G al_1336 (by decide) eX12_isKept_35 h (fun x6 h => ?_)
        refine V_aload_n (i := 0) G eX12_isKept_36 rfl rfl ?_
        refine V_get (v := .ref (wad w 1337 0)) G fgX12_95 rfl eX12_isKept_37 ?_
        refine V_iload_n (i := 2) G eX12_isKept_40 rfl rfl ?_
        refine V_iald G al_1337 (by decide) eX12_isKept_41 h (fun x7 h => ?_)
        obtain ⟨x8, h1, h⟩ := bdS h
        refine V_callIS (As := [.int x4, .int x6, .int x7]) (st := []) G lkX12_198 (M_in_ok (μ := μ5) h1) (by decide) rfl rfl (Nat.le_of_ble_eq_true rfl) eX12_isKept_42 ?_
        refine V_if_ne G eX12_isKept_45 h (fun h => ?_) (fun h => ?_)
        · refine V_iinc (z := (nI 1)) (L' := (fun x9 => [some (.ref (wad w 12 0)), some (.int v1), some (.int x9)])) G eX12_isKept_50 rfl rfl (by decide) rfl (fun _ => rfl) h (fun x9 h => ?_)
          refine V_goto G eX12_isKept_53 ?_
          exact (ih h)
        · refine V_iconst (n := 0) (v := (nI 0)) G eX12_isKept_48 rfl ?_
          exact V_rzM G hr eX12_isKept_49 h
set_option maxRecDepth 100000 in
set_option maxHeartbeats 4000000 in
theorem M_isKept_run {p : Program} {l : Launch} {e : Env} {R : Room} {s : State} {m : MethodId} {args : Array Value} {below : List Frame} {meth : Method} {c : Code} {w : Wld} (G : Cxt p R s m args meth c w cX12_isKept 3 "PotBookModel" 6 0 0) (hr : meth.sig.returnType = some .boolean) {a1 : Int32} {μ : Mem} {r : Int32} {μ' : Mem} (h : M_isKept a1 μ = some (r, μ')) : Vj p l e R s m args below meth c w 3 0 0 (MQ below (QI w r μ') args s 0 0 w.2.2.2) 0 [some (.ref (wad w 12 0)), some (.int a1), none] [] μ := by
  unfold M_isKept at h
  refine V_iconst (n := 0) (v := (nI 0)) G eX12_isKept_0 rfl ?_
  refine V_istoreA_n (i := 2) (L' := [some (.ref (wad w 12 0)), some (.int a1), some (.int (nI 0))]) G rfl eX12_isKept_1 (by decide) rfl rfl ?_
  exact M_isKept_l1_ok G hr h
theorem M_isKept_ok {l : Launch} {w : Wld} {a1 : Int32} {μ : Mem} {r : Int32} {μ' : Mem} (h : M_isKept a1 μ = some (r, μ')) : CtI l w yX12_isKept cX12_isKept 3 .boolean 6 [.ref (wad w 12 0), .int a1] μ r μ' :=
  Ct_of (own := "PotBookModel") [some (.ref (wad w 12 0)), some (.int a1), none] (by decide +kernel) rfl rfl (Nat.le_of_ble_eq_true rfl) fun p e s m args below meth c G hr => M_isKept_run G hr h
set_option maxRecDepth 100000 in
set_option maxHeartbeats 4000000 in
theorem M_findDishes_l2_ok {p : Program} {l : Launch} {e : Env} {R : Room} {s : State} {m : MethodId} {args : Array Value} {below : List Frame} {meth : Method} {c : Code} {w : Wld} {Q : State → Prop} (G : Cxt p R s m args meth c w cX12_findDishes 3 "PotBookModel" 7 0 0) {v1 : Int32} {μo : Mem} : ∀ {n : Nat} {v2 : Int32} {μ : Mem}, M_findDishes_l2 v1 n v2 μ = some μo → Vj p l e R s m args below meth c w 3 0 0 Q 114 [none, none, none] [] μo → Vj p l e R s m args below meth c w 3 0 0 Q 61 [some (.ref (wad w 12 0)), some (.int v1), some (.int v2)] [] μ := by
  intro n
  induction n with
  | zero => intro v2 μ h K; exact noS h
  | succ n ih =>
    intro v2 μ h K
    replace h : M_findDishes_l2b v1 (M_findDishes_l2 v1 n) v2 μ = some μo := h
    unfold M_findDishes_l2b at h
    refine V_iload_n (i := 2) G eX12_findDishes_61 rfl rfl ?_
    refine V_aload_n (i := 0) G eX12_findDishes_62 rfl rfl ?_
    refine V_get (v := .int (mI μ 1343 0 0)) G fgX12_358 rfl eX12_findDishes_63 ?_
    refine V_icmp_ge G eX12_findDishes_66 h (fun h => ?_) (fun h => ?_)
    · cases h; exact V_sub (lS_n (lS_n (lS_n lS_0))) K
    · refine V_aload_n (i := 0) G eX12_findDishes_69 rfl rfl ?_
      refine V_iload_n (i := 1) G eX12_findDishes_70 rfl rfl ?_
      refine V_iload_n (i := 2) G eX12_findDishes_71 rfl rfl ?_
      obtain ⟨μ1, h1, h⟩ := bdS h
      refine V_callV (As := [.int v1, .int v2]) (st := []) G lkX12_364 (M_lay_ok h1) (by decide) rfl rfl (Nat.le_of_ble_eq_true rfl) eX12_findDishes_72 ?_
      refine V_aload_n (i := 0) G eX12_findDishes_75 rfl rfl ?_
      refine V_iload_n (i := 1) G eX12_findDishes_76 rfl rfl ?_
      obtain ⟨μ2, h1, h⟩ := bdS h
      refine V_callV (As := [.int v1]) (st := []) G lkX12_367 (M_spell_ok h1) (by decide) rfl rfl (Nat.le_of_ble_eq_true rfl) eX12_findDishes_77 ?_
      refine V_aload_n (i := 0) G eX12_findDishes_80 rfl rfl ?_
      refine V_iload_n (i := 1) G eX12_findDishes_81 rfl rfl ?_
      obtain ⟨⟨x3, μ4⟩, h1, h⟩ := bdS h
      refine V_callI (As := [.int v1]) (st := []) G lkX12_370 (M_isKept_ok h1) (by decide) rfl rfl (Nat.le_of_ble_eq_true rfl) eX12_findDishes_82 ?_
      obtain ⟨μ7, hj, h⟩ := bdS h
      have J : Vj p l e R s m args below meth c w 3 0 0 Q 108 [some (.ref (wad w 12 0)), some (.int v1), some (.int v2)] [] μ7 := by
        clear hj
        refine V_iinc (z := (nI 1)) (L' := (fun x8 => [some (.ref (wad w 12 0)), some (.int v1), some (.int x8)])) G eX12_findDishes_108 rfl rfl (by decide) rfl (fun _ => rfl) h (fun x8 h => ?_)
        refine V_goto G eX12_findDishes_111 ?_
        exact (ih h K)
      replace h := hj
      clear hj
      refine V_if_eq G eX12_findDishes_85 h (fun h => ?_) (fun h => ?_)
      · cases h; exact J
      · refine V_aload_n (i := 0) G eX12_findDishes_88 rfl rfl ?_
        refine V_get (v := .ref (wad w 1341 0)) G fgX12_105 rfl eX12_findDishes_89 ?_
        refine V_aload_n (i := 0) G eX12_findDishes_92 rfl rfl ?_
        refine V_get (v := .int (mI μ4 1342 0 0)) G fgX12_361 rfl eX12_findDishes_93 ?_
        refine V_iload_n (i := 2) G eX12_findDishes_96 rfl rfl ?_
        refine V_iast G al_1341 (by decide) eX12_findDishes_97 h (fun μ5 h => ?_)
        refine V_aload_n (i := 0) G eX12_findDishes_98 rfl rfl ?_
        refine V_dup G eX12_findDishes_99 rfl ?_
        refine V_get (v := .int (mI μ5 1342 0 0)) G fgX12_361 rfl eX12_findDishes_100 ?_
        refine V_iconst (n := 1) (v := (nI 1)) G eX12_findDishes_103 rfl ?_
        refine V_iadd G eX12_findDishes_104 ?_
        refine V_put G fgX12_361 fp_12_42 eX12_findDishes_105 h (fun μ6 h => ?_)
        cases h; exact J
set_option maxRecDepth 100000 in
set_option maxHeartbeats 4000000 in
theorem M_findDishes_l1_ok {p : Program} {l : Launch} {e : Env} {R : Room} {s : State} {m : MethodId} {args : Array Value} {below : List Frame} {meth : Method} {c : Code} {w : Wld} (G : Cxt p R s m args meth c w cX12_findDishes 3 "PotBookModel" 7 0 0) (hr : meth.sig.returnType = some .boolean) {v1 : Int32} {r : Int32} {μ' : Mem} : ∀ {n : Nat} {v2 : Int32} {μ : Mem}, M_findDishes_l1 v1 n v2 μ = some (r, μ') → Vj p l e R s m args below meth c w 3 0 0 (MQ below (QI w r μ') args s 0 0 w.2.2.2) 7 [some (.ref (wad w 12 0)), some (.int v1), some (.int v2)] [] μ := by
  intro n
  induction n with
  | zero => intro v2 μ h; exact noS h
  | succ n ih =>
    intro v2 μ h
    replace h : M_findDishes_l1b v1 (M_findDishes_l1 v1 n) v2 μ = some (r, μ') := h
    unfold M_findDishes_l1b at h
    refine V_iload_n (i := 2) G eX12_findDishes_7 rfl rfl ?_
    refine V_aload_n (i := 0) G eX12_findDishes_8 rfl rfl ?_
    refine V_get (v := .ref (wad w 1315 0)) G fgX12_38 rfl eX12_findDishes_9 ?_
    refine V_iload_n (i := 1) G eX12_findDishes_12 rfl rfl ?_
    refine V_iald G al_1315 (by decide) eX12_findDishes_13 h (fun x1 h => ?_)
    refine V_icmp_ge G eX12_findDishes_14 h (fun h => ?_) (fun h => ?_)
    · refine V_aload_n (i := 0) G eX12_findDishes_54 rfl rfl ?_
      refine V_iconst (n := 0) (v := (nI 0)) G eX12_findDishes_55 rfl ?_
      refine V_put G fgX12_361 fp_12_42 eX12_findDishes_56 h (fun μ2 h => ?_)
      refine V_iconst (n := 0) (v := (nI 0)) G eX12_findDishes_59 rfl ?_
      refine V_istoreA_n (i := 2) (L' := [some (.ref (wad w 12 0)), some (.int v1), some (.int (nI 0))]) G rfl eX12_findDishes_60 (by decide) rfl rfl ?_
      obtain ⟨μ3, h1, h⟩ := bdS h
      refine M_findDishes_l2_ok G h1 ?_
      refine V_iconst (n := 1) (v := (nI 1)) G eX12_findDishes_114 rfl ?_
      exact V_rzM G hr eX12_findDishes_115 h
    · refine V_aload_n (i := 0) G eX12_findDishes_17 rfl rfl ?_
      refine V_dup G eX12_findDishes_18 rfl ?_
      refine V_get (v := .int (mI μ 1343 0 0)) G fgX12_358 rfl eX12_findDishes_19 ?_
      refine V_aload_n (i := 0) G eX12_findDishes_22 rfl rfl ?_
      refine V_bipush (n := 8) (v := (nI 8)) G eX12_findDishes_23 rfl ?_
      refine V_iload_n (i := 1) G eX12_findDishes_25 rfl rfl ?_
      refine V_imul G eX12_findDishes_26 ?_
      refine V_iload_n (i := 2) G eX12_findDishes_27 rfl rfl ?_
      refine V_iadd G eX12_findDishes_28 ?_
      obtain ⟨x4, h1, h⟩ := bdS h
      refine V_callI (As := [.int (((nI 8) * v1) + v2)]) (st := [.int (mI μ 1343 0 0), .ref (wad w 12 0)]) G lkX12_352 (M_rangeOf_ok h1) (by decide) rfl rfl (Nat.le_of_ble_eq_true rfl) eX12_findDishes_29 ?_
      refine V_imul G eX12_findDishes_32 ?_
      refine V_put G fgX12_358 fp_12_43 eX12_findDishes_33 h (fun μ5 h => ?_)
      refine V_aload_n (i := 0) G eX12_findDishes_36 rfl rfl ?_
      refine V_get (v := .int (mI μ5 1343 0 0)) G fgX12_358 rfl eX12_findDishes_37 ?_
      refine V_sipush (n := 5000) (v := (nI 5000)) G eX12_findDishes_40 rfl ?_
      refine V_icmp_le G eX12_findDishes_43 h (fun h => ?_) (fun h => ?_)
      · refine V_iinc (z := (nI 1)) (L' := (fun x6 => [some (.ref (wad w 12 0)), some (.int v1), some (.int x6)])) G eX12_findDishes_48 rfl rfl (by decide) rfl (fun _ => rfl) h (fun x6 h => ?_)
        refine V_goto G eX12_findDishes_51 ?_
        exact (ih h)
      · refine V_iconst (n := 0) (v := (nI 0)) G eX12_findDishes_46 rfl ?_
        exact V_rzM G hr eX12_findDishes_47 h
set_option maxRecDepth 100000 in
set_option maxHeartbeats 4000000 in
theorem M_findDishes_run {p : Program} {l : Launch} {e : Env} {R : Room} {s : State} {m : MethodId} {args : Array Value} {below : List Frame} {meth : Method} {c : Code} {w : Wld} (G : Cxt p R s m args meth c w cX12_findDishes 3 "PotBookModel" 7 0 0) (hr : meth.sig.returnType = some .boolean) {a1 : Int32} {μ : Mem} {r : Int32} {μ' : Mem} (h : M_findDishes a1 μ = some (r, μ')) : Vj p l e R s m args below meth c w 3 0 0 (MQ below (QI w r μ') args s 0 0 w.2.2.2) 0 [some (.ref (wad w 12 0)), some (.int a1), none] [] μ := by
  unfold M_findDishes at h
  refine V_aload_n (i := 0) G eX12_findDishes_0 rfl rfl ?_
  refine V_iconst (n := 1) (v := (nI 1)) G eX12_findDishes_1 rfl ?_
  refine V_put G fgX12_358 fp_12_43 eX12_findDishes_2 h (fun μ1 h => ?_)
  refine V_iconst (n := 0) (v := (nI 0)) G eX12_findDishes_5 rfl ?_
  refine V_istoreA_n (i := 2) (L' := [some (.ref (wad w 12 0)), some (.int a1), some (.int (nI 0))]) G rfl eX12_findDishes_6 (by decide) rfl rfl ?_
  exact M_findDishes_l1_ok G hr h
theorem M_findDishes_ok {l : Launch} {w : Wld} {a1 : Int32} {μ : Mem} {r : Int32} {μ' : Mem} (h : M_findDishes a1 μ = some (r, μ')) : CtI l w yX12_findDishes cX12_findDishes 3 .boolean 7 [.ref (wad w 12 0), .int a1] μ r μ' :=
  Ct_of (own := "PotBookModel") [some (.ref (wad w 12 0)), some (.int a1), none] (by decide +kernel) rfl rfl (Nat.le_of_ble_eq_true rfl) fun p e s m args below meth c G hr => M_findDishes_run G hr h
set_option maxRecDepth 100000 in
set_option maxHeartbeats 4000000 in
theorem M_isTold_run {p : Program} {l : Launch} {e : Env} {R : Room} {s : State} {m : MethodId} {args : Array Value} {below : List Frame} {meth : Method} {c : Code} {w : Wld} (G : Cxt p R s m args meth c w cX12_isTold 2 "PotBookModel" 8 0 0) (hr : meth.sig.returnType = some .boolean) {a1 : Int32} {μ : Mem} {r : Int32} {μ' : Mem} (h : M_isTold a1 μ = some (r, μ')) : Vj p l e R s m args below meth c w 2 0 0 (MQ below (QI w r μ') args s 0 0 w.2.2.2) 0 [some (.ref (wad w 12 0)), some (.int a1)] [] μ := by
  unfold M_isTold at h
  refine V_aload_n (i := 0) G eX12_isTold_0 rfl rfl ?_
  refine V_iload_n (i := 1) G eX12_isTold_1 rfl rfl ?_
  obtain ⟨x1, h1, h⟩ := bdS h
  refine V_callI (As := [.int a1]) (st := []) G lkX12_332 (M_isPage_ok h1) (by decide) rfl rfl (Nat.le_of_ble_eq_true rfl) eX12_isTold_2 ?_
  refine V_if_eq G eX12_isTold_5 h (fun h => ?_) (fun h => ?_)
  · refine V_iconst (n := 0) (v := (nI 0)) G eX12_isTold_20 rfl ?_
    exact V_rzM G hr eX12_isTold_21 h
  · refine V_aload_n (i := 0) G eX12_isTold_8 rfl rfl ?_
    refine V_iload_n (i := 1) G eX12_isTold_9 rfl rfl ?_
    obtain ⟨⟨x2, μ3⟩, h1, h⟩ := bdS h
    refine V_callI (As := [.int a1]) (st := []) G lkX12_373 (M_findDishes_ok h1) (by decide) rfl rfl (Nat.le_of_ble_eq_true rfl) eX12_isTold_10 ?_
    refine V_if_eq G eX12_isTold_13 h (fun h => ?_) (fun h => ?_)
    · refine V_iconst (n := 0) (v := (nI 0)) G eX12_isTold_20 rfl ?_
      exact V_rzM G hr eX12_isTold_21 h
    · refine V_iconst (n := 1) (v := (nI 1)) G eX12_isTold_16 rfl ?_
      refine V_goto G eX12_isTold_17 ?_
      exact V_rzM G hr eX12_isTold_21 h
theorem M_isTold_ok {l : Launch} {w : Wld} {a1 : Int32} {μ : Mem} {r : Int32} {μ' : Mem} (h : M_isTold a1 μ = some (r, μ')) : CtI l w yX12_isTold cX12_isTold 2 .boolean 8 [.ref (wad w 12 0), .int a1] μ r μ' :=
  Ct_of (own := "PotBookModel") [some (.ref (wad w 12 0)), some (.int a1)] (by decide +kernel) rfl rfl (Nat.le_of_ble_eq_true rfl) fun p e s m args below meth c G hr => M_isTold_run G hr h
set_option maxRecDepth 100000 in
set_option maxHeartbeats 4000000 in
theorem M_go_run {p : Program} {l : Launch} {e : Env} {R : Room} {s : State} {m : MethodId} {args : Array Value} {below : List Frame} {meth : Method} {c : Code} {w : Wld} (G : Cxt p R s m args meth c w cX12_go 3 "PotBookModel" 5 0 0) (hr : meth.sig.returnType = none) {a1 : Int32} {a2 : Int32} {μ : Mem} {μ' : Mem} (h : M_go a1 a2 μ = some μ') : Vj p l e R s m args below meth c w 3 0 0 (MQ below (QV w μ') args s 0 0 w.2.2.2) 0 [some (.ref (wad w 12 0)), some (.int a1), some (.int a2)] [] μ := by
  unfold M_go at h
  refine V_aload_n (i := 0) G eX12_go_0 rfl rfl ?_
  refine V_iload_n (i := 1) G eX12_go_1 rfl rfl ?_
  refine V_aload_n (i := 0) G eX12_go_2 rfl rfl ?_
  refine V_get (v := .ref (wad w 1341 0)) G fgX12_105 rfl eX12_go_3 ?_
  refine V_iload_n (i := 2) G eX12_go_6 rfl rfl ?_
  refine V_iald G al_1341 (by decide) eX12_go_7 h (fun x1 h => ?_)
  obtain ⟨μ2, h1, h⟩ := bdS h
  refine V_callV (As := [.int a1, .int x1]) (st := []) G lkX12_364 (M_lay_ok h1) (by decide) rfl rfl (Nat.le_of_ble_eq_true rfl) eX12_go_8 ?_
  refine V_aload_n (i := 0) G eX12_go_11 rfl rfl ?_
  refine V_iload_n (i := 1) G eX12_go_12 rfl rfl ?_
  obtain ⟨μ3, h1, h⟩ := bdS h
  refine V_callV (As := [.int a1]) (st := []) G lkX12_367 (M_spell_ok h1) (by decide) rfl rfl (Nat.le_of_ble_eq_true rfl) eX12_go_13 ?_
  exact V_rvM G hr eX12_go_16 h
theorem M_go_ok {l : Launch} {w : Wld} {a1 : Int32} {a2 : Int32} {μ : Mem} {μ' : Mem} (h : M_go a1 a2 μ = some μ') : CtV l w yX12_go cX12_go 3 5 [.ref (wad w 12 0), .int a1, .int a2] μ μ' :=
  Ct_of (own := "PotBookModel") [some (.ref (wad w 12 0)), some (.int a1), some (.int a2)] (by decide +kernel) rfl rfl (Nat.le_of_ble_eq_true rfl) fun p e s m args below meth c G hr => M_go_run G hr h
set_option maxRecDepth 100000 in
set_option maxHeartbeats 4000000 in
theorem M_dishes_run {p : Program} {l : Launch} {e : Env} {R : Room} {s : State} {m : MethodId} {args : Array Value} {below : List Frame} {meth : Method} {c : Code} {w : Wld} (G : Cxt p R s m args meth c w cX12_dishes 2 "PotBookModel" 9 0 0) (hr : meth.sig.returnType = some .int) {a1 : Int32} {μ : Mem} {r : Int32} {μ' : Mem} (h : M_dishes a1 μ = some (r, μ')) : Vj p l e R s m args below meth c w 2 0 0 (MQ below (QI w r μ') args s 0 0 w.2.2.2) 0 [some (.ref (wad w 12 0)), some (.int a1)] [] μ := by
  unfold M_dishes at h
  refine V_aload_n (i := 0) G eX12_dishes_0 rfl rfl ?_
  refine V_iload_n (i := 1) G eX12_dishes_1 rfl rfl ?_
  obtain ⟨⟨x1, μ2⟩, h1, h⟩ := bdS h
  refine V_callI (As := [.int a1]) (st := []) G lkX12_376 (M_isTold_ok h1) (by decide) rfl rfl (Nat.le_of_ble_eq_true rfl) eX12_dishes_2 ?_
  refine V_if_eq G eX12_dishes_5 h (fun h => ?_) (fun h => ?_)
  · refine V_iconst (n := -1) (v := (-1)) G eX12_dishes_15 rfl ?_
    exact V_riM G hr eX12_dishes_16 h
  · refine V_aload_n (i := 0) G eX12_dishes_8 rfl rfl ?_
    refine V_get (v := .int (mI μ2 1342 0 0)) G fgX12_361 rfl eX12_dishes_9 ?_
    refine V_goto G eX12_dishes_12 ?_
    exact V_riM G hr eX12_dishes_16 h
theorem M_dishes_ok {l : Launch} {w : Wld} {a1 : Int32} {μ : Mem} {r : Int32} {μ' : Mem} (h : M_dishes a1 μ = some (r, μ')) : CtI l w yX12_dishes cX12_dishes 2 .int 9 [.ref (wad w 12 0), .int a1] μ r μ' :=
  Ct_of (own := "PotBookModel") [some (.ref (wad w 12 0)), some (.int a1)] (by decide +kernel) rfl rfl (Nat.le_of_ble_eq_true rfl) fun p e s m args below meth c G hr => M_dishes_run G hr h
set_option maxRecDepth 100000 in
set_option maxHeartbeats 4000000 in
theorem M_dish_run {p : Program} {l : Launch} {e : Env} {R : Room} {s : State} {m : MethodId} {args : Array Value} {below : List Frame} {meth : Method} {c : Code} {w : Wld} (G : Cxt p R s m args meth c w cX12_dish 5 "PotBookModel" 9 0 0) (hr : meth.sig.returnType = some .int) {a1 : Int32} {a2 : Int32} {a3 : Int32} {μ : Mem} {r : Int32} {μ' : Mem} (h : M_dish a1 a2 a3 μ = some (r, μ')) : Vj p l e R s m args below meth c w 5 0 0 (MQ below (QI w r μ') args s 0 0 w.2.2.2) 0 [some (.ref (wad w 12 0)), some (.int a1), some (.int a2), some (.int a3), none] [] μ := by
  unfold M_dish at h
  refine V_aload_n (i := 0) G eX12_dish_0 rfl rfl ?_
  refine V_iload_n (i := 3) G eX12_dish_1 rfl rfl ?_
  obtain ⟨x1, h1, h⟩ := bdS h
  refine V_callI (As := [.int a3]) (st := []) G lkX12_202 (M_isThing_ok h1) (by decide) rfl rfl (Nat.le_of_ble_eq_true rfl) eX12_dish_2 ?_
  refine V_if_eq G eX12_dish_5 h (fun h => ?_) (fun h => ?_)
  · refine V_iconst (n := -1) (v := (-1)) G eX12_dish_30 rfl ?_
    exact V_riM G hr eX12_dish_31 h
  · refine V_aload_n (i := 0) G eX12_dish_8 rfl rfl ?_
    refine V_iload_n (i := 1) G eX12_dish_9 rfl rfl ?_
    obtain ⟨⟨x2, μ3⟩, h1, h⟩ := bdS h
    refine V_callI (As := [.int a1]) (st := []) G lkX12_376 (M_isTold_ok h1) (by decide) rfl rfl (Nat.le_of_ble_eq_true rfl) eX12_dish_10 ?_
    refine V_if_eq G eX12_dish_13 h (fun h => ?_) (fun h => ?_)
    · refine V_iconst (n := -1) (v := (-1)) G eX12_dish_30 rfl ?_
      exact V_riM G hr eX12_dish_31 h
    · refine V_iload_n (i := 2) G eX12_dish_16 rfl rfl ?_
      refine V_iconst (n := 0) (v := (nI 0)) G eX12_dish_17 rfl ?_
      refine V_aload_n (i := 0) G eX12_dish_18 rfl rfl ?_
      refine V_get (v := .int (mI μ3 1342 0 0)) G fgX12_361 rfl eX12_dish_19 ?_
      refine V_iconst (n := 1) (v := (nI 1)) G eX12_dish_22 rfl ?_
      refine V_isub G eX12_dish_23 ?_
      obtain ⟨x4, h1, h⟩ := bdS h
      refine V_callIS (As := [.int a2, .int (nI 0), .int ((mI μ3 1342 0 0) - (nI 1))]) (st := []) G lkX12_198 (M_in_ok (μ := μ3) h1) (by decide) rfl rfl (Nat.le_of_ble_eq_true rfl) eX12_dish_24 ?_
      refine V_if_ne G eX12_dish_27 h (fun h => ?_) (fun h => ?_)
      · refine V_aload_n (i := 0) G eX12_dish_32 rfl rfl ?_
        refine V_iload_n (i := 1) G eX12_dish_33 rfl rfl ?_
        refine V_iload_n (i := 2) G eX12_dish_34 rfl rfl ?_
        obtain ⟨μ5, h1, h⟩ := bdS h
        refine V_callV (As := [.int a1, .int a2]) (st := []) G lkX12_379 (M_go_ok h1) (by decide) rfl rfl (Nat.le_of_ble_eq_true rfl) eX12_dish_35 ?_
        refine V_aload_n (i := 0) G eX12_dish_38 rfl rfl ?_
        refine V_iload_n (i := 1) G eX12_dish_39 rfl rfl ?_
        refine V_iload_n (i := 3) G eX12_dish_40 rfl rfl ?_
        obtain ⟨x6, h1, h⟩ := bdS h
        refine V_callI (As := [.int a1, .int a3]) (st := []) G lkX12_227 (M_onPage_ok h1) (by decide) rfl rfl (Nat.le_of_ble_eq_true rfl) eX12_dish_41 ?_
        refine V_istoreA (i := 4) (L' := [some (.ref (wad w 12 0)), some (.int a1), some (.int a2), some (.int a3), some (.int x6)]) G eX12_dish_44 (by decide) rfl rfl ?_
        refine V_iload G eX12_dish_46 rfl ?_
        refine V_iconst (n := -1) (v := (-1)) G eX12_dish_48 rfl ?_
        refine V_icmp_ne G eX12_dish_49 h (fun h => ?_) (fun h => ?_)
        · refine V_aload_n (i := 0) G eX12_dish_56 rfl rfl ?_
          refine V_get (v := .ref (wad w 1340 0)) G fgX12_102 rfl eX12_dish_57 ?_
          refine V_iload G eX12_dish_60 rfl ?_
          refine V_iald G al_1340 (by decide) eX12_dish_62 h (fun x7 h => ?_)
          exact V_riM G hr eX12_dish_63 h
        · refine V_iconst (n := 0) (v := (nI 0)) G eX12_dish_52 rfl ?_
          refine V_goto G eX12_dish_53 ?_
          exact V_riM G hr eX12_dish_63 h
      · refine V_iconst (n := -1) (v := (-1)) G eX12_dish_30 rfl ?_
        exact V_riM G hr eX12_dish_31 h
theorem M_dish_ok {l : Launch} {w : Wld} {a1 : Int32} {a2 : Int32} {a3 : Int32} {μ : Mem} {r : Int32} {μ' : Mem} (h : M_dish a1 a2 a3 μ = some (r, μ')) : CtI l w yX12_dish cX12_dish 5 .int 9 [.ref (wad w 12 0), .int a1, .int a2, .int a3] μ r μ' :=
  Ct_of (own := "PotBookModel") [some (.ref (wad w 12 0)), some (.int a1), some (.int a2), some (.int a3), none] (by decide +kernel) rfl rfl (Nat.le_of_ble_eq_true rfl) fun p e s m args below meth c G hr => M_dish_run G hr h
set_option maxRecDepth 100000 in
set_option maxHeartbeats 4000000 in
theorem M_span_l1_ok {p : Program} {l : Launch} {e : Env} {R : Room} {s : State} {m : MethodId} {args : Array Value} {below : List Frame} {meth : Method} {c : Code} {w : Wld} {Q : State → Prop} (G : Cxt p R s m args meth c w cX12_span 7 "PotBookModel" 9 0 0) {v1 : Int32} {v3 : Int32} {v4 : Int32} {o1 : Int32} {μo : Mem} : ∀ {n : Nat} {v5 : Int32} {v6 : Int32} {μ : Mem}, M_span_l1 v1 v3 v4 n v5 v6 μ = some (o1, μo) → Vj p l e R s m args below meth c w 7 0 0 Q 129 [none, none, none, none, none, some (.int o1), none] [] μo → Vj p l e R s m args below meth c w 7 0 0 Q 58 [some (.ref (wad w 12 0)), some (.int v1), none, some (.int v3), some (.int v4), some (.int v5), some (.int v6)] [] μ := by
  intro n
  induction n with
  | zero => intro v5 v6 μ h K; exact noS h
  | succ n ih =>
    intro v5 v6 μ h K
    replace h : M_span_l1b v1 v3 v4 (M_span_l1 v1 v3 v4 n) v5 v6 μ = some (o1, μo) := h
    unfold M_span_l1b at h
    refine V_iload G eX12_span_58 rfl ?_
    refine V_aload_n (i := 0) G eX12_span_60 rfl rfl ?_
    refine V_get (v := .int (mI μ 1342 0 0)) G fgX12_361 rfl eX12_span_61 ?_
    refine V_icmp_ge G eX12_span_64 h (fun h => ?_) (fun h => ?_)
    · cases h; exact V_sub (lS_n (lS_n (lS_n (lS_n (lS_n (lS_s (lS_n lS_0))))))) K
    · refine V_aload_n (i := 0) G eX12_span_67 rfl rfl ?_
      refine V_iload_n (i := 1) G eX12_span_68 rfl rfl ?_
      refine V_iload G eX12_span_69 rfl ?_
      obtain ⟨μ1, h1, h⟩ := bdS h
      refine V_callV (As := [.int v1, .int v6]) (st := []) G lkX12_379 (M_go_ok h1) (by decide) rfl rfl (Nat.le_of_ble_eq_true rfl) eX12_span_71 ?_
      refine V_iload G eX12_span_74 rfl ?_
      refine V_iconst (n := -1) (v := (-1)) G eX12_span_76 rfl ?_
      obtain ⟨x5, hj, h⟩ := bdS h
      have J : Vj p l e R s m args below meth c w 7 0 0 Q 121 [some (.ref (wad w 12 0)), some (.int v1), none, some (.int v3), some (.int v4), none, some (.int v6)] [.int x5] μ1 := by
        clear hj
        refine V_istoreA (i := 5) (L' := [some (.ref (wad w 12 0)), some (.int v1), none, some (.int v3), some (.int v4), some (.int x5), some (.int v6)]) G eX12_span_121 (by decide) rfl rfl ?_
        refine V_iinc (z := (nI 1)) (L' := (fun x6 => [some (.ref (wad w 12 0)), some (.int v1), none, some (.int v3), some (.int v4), some (.int x5), some (.int x6)])) G eX12_span_123 rfl rfl (by decide) rfl (fun _ => rfl) h (fun x6 h => ?_)
        refine V_goto G eX12_span_126 ?_
        exact (ih h K)
      replace h := hj
      clear hj
      refine V_icmp_ne G eX12_span_77 h (fun h => ?_) (fun h => ?_)
      · refine V_iload_n (i := 3) G eX12_span_90 rfl rfl ?_
        refine V_if_ne G eX12_span_91 h (fun h => ?_) (fun h => ?_)
        · refine V_iload G eX12_span_109 rfl ?_
          refine V_aload_n (i := 0) G eX12_span_111 rfl rfl ?_
          refine V_get (v := .ref (wad w 1340 0)) G fgX12_102 rfl eX12_span_112 ?_
          refine V_iload G eX12_span_115 rfl ?_
          refine V_iald G al_1340 (by decide) eX12_span_117 h (fun x2 h => ?_)
          refine V_jMax G mkX12_209 (by decide) (Nat.le_of_ble_eq_true rfl) eX12_span_118 ?_
          cases h; exact V_sub (lS_s (lS_s (lS_n (lS_s (lS_s (lS_n (lS_s lS_0))))))) J
        · refine V_iload G eX12_span_94 rfl ?_
          refine V_aload_n (i := 0) G eX12_span_96 rfl rfl ?_
          refine V_get (v := .ref (wad w 1340 0)) G fgX12_102 rfl eX12_span_97 ?_
          refine V_iload G eX12_span_100 rfl ?_
          refine V_iald G al_1340 (by decide) eX12_span_102 h (fun x3 h => ?_)
          refine V_jMin G mkX12_382 (by decide) (Nat.le_of_ble_eq_true rfl) eX12_span_103 ?_
          refine V_goto G eX12_span_106 ?_
          cases h; exact V_sub (lS_s (lS_s (lS_n (lS_s (lS_s (lS_n (lS_s lS_0))))))) J
      · refine V_aload_n (i := 0) G eX12_span_80 rfl rfl ?_
        refine V_get (v := .ref (wad w 1340 0)) G fgX12_102 rfl eX12_span_81 ?_
        refine V_iload G eX12_span_84 rfl ?_
        refine V_iald G al_1340 (by decide) eX12_span_86 h (fun x4 h => ?_)
        refine V_goto G eX12_span_87 ?_
        cases h; exact V_sub (lS_s (lS_s (lS_n (lS_s (lS_s (lS_n (lS_s lS_0))))))) J
set_option maxRecDepth 100000 in
set_option maxHeartbeats 4000000 in
theorem M_span_run {p : Program} {l : Launch} {e : Env} {R : Room} {s : State} {m : MethodId} {args : Array Value} {below : List Frame} {meth : Method} {c : Code} {w : Wld} (G : Cxt p R s m args meth c w cX12_span 7 "PotBookModel" 9 0 0) (hr : meth.sig.returnType = some .int) {a1 : Int32} {a2 : Int32} {a3 : Int32} {μ : Mem} {r : Int32} {μ' : Mem} (h : M_span a1 a2 a3 μ = some (r, μ')) : Vj p l e R s m args below meth c w 7 0 0 (MQ below (QI w r μ') args s 0 0 w.2.2.2) 0 [some (.ref (wad w 12 0)), some (.int a1), some (.int a2), some (.int a3), none, none, none] [] μ := by
  unfold M_span at h
  refine V_iload_n (i := 3) G eX12_span_0 rfl rfl ?_
  refine V_iconst (n := 0) (v := (nI 0)) G eX12_span_1 rfl ?_
  refine V_iconst (n := 1) (v := (nI 1)) G eX12_span_2 rfl ?_
  obtain ⟨x1, h1, h⟩ := bdS h
  refine V_callIS (As := [.int a3, .int (nI 0), .int (nI 1)]) (st := []) G lkX12_198 (M_in_ok (μ := μ) h1) (by decide) rfl rfl (Nat.le_of_ble_eq_true rfl) eX12_span_3 ?_
  refine V_if_eq G eX12_span_6 h (fun h => ?_) (fun h => ?_)
  · refine V_iconst (n := -1) (v := (-1)) G eX12_span_42 rfl ?_
    exact V_riM G hr eX12_span_43 h
  · refine V_aload_n (i := 0) G eX12_span_9 rfl rfl ?_
    refine V_iload_n (i := 2) G eX12_span_10 rfl rfl ?_
    obtain ⟨x2, h1, h⟩ := bdS h
    refine V_callI (As := [.int a2]) (st := []) G lkX12_202 (M_isThing_ok h1) (by decide) rfl rfl (Nat.le_of_ble_eq_true rfl) eX12_span_11 ?_
    refine V_if_eq G eX12_span_14 h (fun h => ?_) (fun h => ?_)
    · refine V_iconst (n := -1) (v := (-1)) G eX12_span_42 rfl ?_
      exact V_riM G hr eX12_span_43 h
    · refine V_aload_n (i := 0) G eX12_span_17 rfl rfl ?_
      refine V_iload_n (i := 1) G eX12_span_18 rfl rfl ?_
      obtain ⟨⟨x3, μ4⟩, h1, h⟩ := bdS h
      refine V_callI (As := [.int a1]) (st := []) G lkX12_376 (M_isTold_ok h1) (by decide) rfl rfl (Nat.le_of_ble_eq_true rfl) eX12_span_19 ?_
      refine V_if_eq G eX12_span_22 h (fun h => ?_) (fun h => ?_)
      · refine V_iconst (n := -1) (v := (-1)) G eX12_span_42 rfl ?_
        exact V_riM G hr eX12_span_43 h
      · refine V_aload_n (i := 0) G eX12_span_25 rfl rfl ?_
        refine V_get (v := .int (mI μ4 1342 0 0)) G fgX12_361 rfl eX12_span_26 ?_
        refine V_if_eq G eX12_span_29 h (fun h => ?_) (fun h => ?_)
        · refine V_iconst (n := -1) (v := (-1)) G eX12_span_42 rfl ?_
          exact V_riM G hr eX12_span_43 h
        · refine V_aload_n (i := 0) G eX12_span_32 rfl rfl ?_
          refine V_iload_n (i := 1) G eX12_span_33 rfl rfl ?_
          refine V_iload_n (i := 2) G eX12_span_34 rfl rfl ?_
          obtain ⟨x5, h1, h⟩ := bdS h
          refine V_callI (As := [.int a1, .int a2]) (st := []) G lkX12_227 (M_onPage_ok h1) (by decide) rfl rfl (Nat.le_of_ble_eq_true rfl) eX12_span_35 ?_
          refine V_iconst (n := -1) (v := (-1)) G eX12_span_38 rfl ?_
          refine V_icmp_ne G eX12_span_39 h (fun h => ?_) (fun h => ?_)
          · refine V_aload_n (i := 0) G eX12_span_44 rfl rfl ?_
            refine V_iload_n (i := 1) G eX12_span_45 rfl rfl ?_
            refine V_iload_n (i := 2) G eX12_span_46 rfl rfl ?_
            obtain ⟨x6, h1, h⟩ := bdS h
            refine V_callI (As := [.int a1, .int a2]) (st := []) G lkX12_227 (M_onPage_ok h1) (by decide) rfl rfl (Nat.le_of_ble_eq_true rfl) eX12_span_47 ?_
            refine V_istoreA (i := 4) (L' := [some (.ref (wad w 12 0)), some (.int a1), some (.int a2), some (.int a3), some (.int x6), none, none]) G eX12_span_50 (by decide) rfl rfl ?_
            refine V_iconst (n := -1) (v := (-1)) G eX12_span_52 rfl ?_
            refine V_istoreA (i := 5) (L' := [some (.ref (wad w 12 0)), some (.int a1), some (.int a2), some (.int a3), some (.int x6), some (.int (-1)), none]) G eX12_span_53 (by decide) rfl rfl ?_
            refine V_iconst (n := 0) (v := (nI 0)) G eX12_span_55 rfl ?_
            refine V_istoreA (i := 6) (L' := [some (.ref (wad w 12 0)), some (.int a1), some (.int a2), some (.int a3), some (.int x6), some (.int (-1)), some (.int (nI 0))]) G eX12_span_56 (by decide) rfl rfl ?_
            obtain ⟨⟨x7, μ8⟩, h1, h⟩ := bdS h
            refine V_sub (lS_s (lS_s (lS_n (lS_s (lS_s (lS_s (lS_s lS_0))))))) ?_
            refine M_span_l1_ok G h1 ?_
            refine V_iload G eX12_span_129 rfl ?_
            exact V_riM G hr eX12_span_131 h
          · refine V_iconst (n := -1) (v := (-1)) G eX12_span_42 rfl ?_
            exact V_riM G hr eX12_span_43 h
theorem M_span_ok {l : Launch} {w : Wld} {a1 : Int32} {a2 : Int32} {a3 : Int32} {μ : Mem} {r : Int32} {μ' : Mem} (h : M_span a1 a2 a3 μ = some (r, μ')) : CtI l w yX12_span cX12_span 7 .int 9 [.ref (wad w 12 0), .int a1, .int a2, .int a3] μ r μ' :=
  Ct_of (own := "PotBookModel") [some (.ref (wad w 12 0)), some (.int a1), some (.int a2), some (.int a3), none, none, none] (by decide +kernel) rfl rfl (Nat.le_of_ble_eq_true rfl) fun p e s m args below meth c G hr => M_span_run G hr h
set_option maxRecDepth 100000 in
set_option maxHeartbeats 4000000 in
theorem M_alike_l1_ok {p : Program} {l : Launch} {e : Env} {R : Room} {s : State} {m : MethodId} {args : Array Value} {below : List Frame} {meth : Method} {c : Code} {w : Wld} {Q : State → Prop} (G : Cxt p R s m args meth c w cX12_alike 5 "PotBookModel" 5 0 0) {v1 : Int32} {v2 : Int32} {μo : Mem} : ∀ {n : Nat} {v3 : Int32} {μ : Mem}, M_alike_l1 v1 v2 n v3 μ = some μo → Vj p l e R s m args below meth c w 5 0 0 Q 21 [some (.ref (wad w 12 0)), some (.int v1), some (.int v2), none, none] [] μo → Vj p l e R s m args below meth c w 5 0 0 Q 2 [some (.ref (wad w 12 0)), some (.int v1), some (.int v2), some (.int v3), none] [] μ := by
  intro n
  induction n with
  | zero => intro v3 μ h K; exact noS h
  | succ n ih =>
    intro v3 μ h K
    replace h : M_alike_l1b v1 v2 (M_alike_l1 v1 v2 n) v3 μ = some μo := h
    unfold M_alike_l1b at h
    refine V_iload_n (i := 3) G eX12_alike_2 rfl rfl ?_
    refine V_bipush (n := 100) (v := (nI 100)) G eX12_alike_3 rfl ?_
    refine V_icmp_ge G eX12_alike_5 h (fun h => ?_) (fun h => ?_)
    · cases h; exact V_sub (lS_s (lS_s (lS_s (lS_n (lS_n lS_0))))) K
    · refine V_aload_n (i := 0) G eX12_alike_8 rfl rfl ?_
      refine V_get (v := .ref (wad w 1344 0)) G fgX12_108 rfl eX12_alike_9 ?_
      refine V_iload_n (i := 3) G eX12_alike_12 rfl rfl ?_
      refine V_iconst (n := 0) (v := (nI 0)) G eX12_alike_13 rfl ?_
      refine V_iast G al_1344 (by decide) eX12_alike_14 h (fun μ1 h => ?_)
      refine V_iinc (z := (nI 1)) (L' := (fun x2 => [some (.ref (wad w 12 0)), some (.int v1), some (.int v2), some (.int x2), none])) G eX12_alike_15 rfl rfl (by decide) rfl (fun _ => rfl) h (fun x2 h => ?_)
      refine V_goto G eX12_alike_18 ?_
      exact (ih h K)
set_option maxRecDepth 100000 in
set_option maxHeartbeats 4000000 in
theorem M_alike_l2_ok {p : Program} {l : Launch} {e : Env} {R : Room} {s : State} {m : MethodId} {args : Array Value} {below : List Frame} {meth : Method} {c : Code} {w : Wld} {Q : State → Prop} (G : Cxt p R s m args meth c w cX12_alike 5 "PotBookModel" 5 0 0) {v1 : Int32} {v2 : Int32} {o1 : Int32} {μo : Mem} : ∀ {n : Nat} {v3 : Int32} {v4 : Int32} {μ : Mem}, M_alike_l2 v1 v2 n v3 v4 μ = some (o1, μo) → Vj p l e R s m args below meth c w 5 0 0 Q 84 [none, none, none, some (.int o1), none] [] μo → Vj p l e R s m args below meth c w 5 0 0 Q 26 [some (.ref (wad w 12 0)), some (.int v1), some (.int v2), some (.int v3), some (.int v4)] [] μ := by
  intro n
  induction n with
  | zero => intro v3 v4 μ h K; exact noS h
  | succ n ih =>
    intro v3 v4 μ h K
    replace h : M_alike_l2b v1 v2 (M_alike_l2 v1 v2 n) v3 v4 μ = some (o1, μo) := h
    unfold M_alike_l2b at h
    refine V_iload G eX12_alike_26 rfl ?_
    refine V_aload_n (i := 0) G eX12_alike_28 rfl rfl ?_
    refine V_get (v := .int (mI μ 1342 0 0)) G fgX12_361 rfl eX12_alike_29 ?_
    refine V_icmp_ge G eX12_alike_32 h (fun h => ?_) (fun h => ?_)
    · cases h; exact V_sub (lS_n (lS_n (lS_n (lS_s (lS_n lS_0))))) K
    · refine V_aload_n (i := 0) G eX12_alike_35 rfl rfl ?_
      refine V_iload_n (i := 1) G eX12_alike_36 rfl rfl ?_
      refine V_aload_n (i := 0) G eX12_alike_37 rfl rfl ?_
      refine V_get (v := .ref (wad w 1341 0)) G fgX12_105 rfl eX12_alike_38 ?_
      refine V_iload G eX12_alike_41 rfl ?_
      refine V_iald G al_1341 (by decide) eX12_alike_43 h (fun x1 h => ?_)
      obtain ⟨μ2, h1, h⟩ := bdS h
      refine V_callV (As := [.int v1, .int x1]) (st := []) G lkX12_364 (M_lay_ok h1) (by decide) rfl rfl (Nat.le_of_ble_eq_true rfl) eX12_alike_44 ?_
      refine V_aload_n (i := 0) G eX12_alike_47 rfl rfl ?_
      refine V_get (v := .ref (wad w 1344 0)) G fgX12_108 rfl eX12_alike_48 ?_
      refine V_aload_n (i := 0) G eX12_alike_51 rfl rfl ?_
      refine V_get (v := .ref (wad w 1340 0)) G fgX12_102 rfl eX12_alike_52 ?_
      refine V_iload_n (i := 2) G eX12_alike_55 rfl rfl ?_
      refine V_iald G al_1340 (by decide) eX12_alike_56 h (fun x3 h => ?_)
      refine V_dup2_11 G eX12_alike_57 rfl rfl ?_
      refine V_iald G al_1344 (by decide) eX12_alike_58 h (fun x4 h => ?_)
      refine V_iconst (n := 1) (v := (nI 1)) G eX12_alike_59 rfl ?_
      refine V_iadd G eX12_alike_60 ?_
      refine V_iast G al_1344 (by decide) eX12_alike_61 h (fun μ5 h => ?_)
      refine V_iload_n (i := 3) G eX12_alike_62 rfl rfl ?_
      refine V_aload_n (i := 0) G eX12_alike_63 rfl rfl ?_
      refine V_get (v := .ref (wad w 1344 0)) G fgX12_108 rfl eX12_alike_64 ?_
      refine V_aload_n (i := 0) G eX12_alike_67 rfl rfl ?_
      refine V_get (v := .ref (wad w 1340 0)) G fgX12_102 rfl eX12_alike_68 ?_
      refine V_iload_n (i := 2) G eX12_alike_71 rfl rfl ?_
      refine V_iald G al_1340 (by decide) eX12_alike_72 h (fun x6 h => ?_)
      refine V_iald G al_1344 (by decide) eX12_alike_73 h (fun x7 h => ?_)
      refine V_jMax G mkX12_209 (by decide) (Nat.le_of_ble_eq_true rfl) eX12_alike_74 ?_
      refine V_istore_n (i := 3) (L' := (fun x8 => [some (.ref (wad w 12 0)), some (.int v1), some (.int v2), some (.int x8), some (.int v4)])) G rfl eX12_alike_77 (by decide) rfl (fun _ => rfl) h (fun x8 h => ?_)
      refine V_iinc (z := (nI 1)) (L' := (fun x9 => [some (.ref (wad w 12 0)), some (.int v1), some (.int v2), some (.int x8), some (.int x9)])) G eX12_alike_78 rfl rfl (by decide) rfl (fun _ => rfl) h (fun x9 h => ?_)
      refine V_goto G eX12_alike_81 ?_
      exact (ih h K)
set_option maxRecDepth 100000 in
set_option maxHeartbeats 4000000 in
theorem M_alike_run {p : Program} {l : Launch} {e : Env} {R : Room} {s : State} {m : MethodId} {args : Array Value} {below : List Frame} {meth : Method} {c : Code} {w : Wld} (G : Cxt p R s m args meth c w cX12_alike 5 "PotBookModel" 5 0 0) (hr : meth.sig.returnType = some .int) {a1 : Int32} {a2 : Int32} {μ : Mem} {r : Int32} {μ' : Mem} (h : M_alike a1 a2 μ = some (r, μ')) : Vj p l e R s m args below meth c w 5 0 0 (MQ below (QI w r μ') args s 0 0 w.2.2.2) 0 [some (.ref (wad w 12 0)), some (.int a1), some (.int a2), none, none] [] μ := by
  unfold M_alike at h
  refine V_iconst (n := 0) (v := (nI 0)) G eX12_alike_0 rfl ?_
  refine V_istoreA_n (i := 3) (L' := [some (.ref (wad w 12 0)), some (.int a1), some (.int a2), some (.int (nI 0)), none]) G rfl eX12_alike_1 (by decide) rfl rfl ?_
  obtain ⟨μ1, h1, h⟩ := bdS h
  refine M_alike_l1_ok G h1 ?_
  refine V_iconst (n := 0) (v := (nI 0)) G eX12_alike_21 rfl ?_
  refine V_istoreA_n (i := 3) (L' := [some (.ref (wad w 12 0)), some (.int a1), some (.int a2), some (.int (nI 0)), none]) G rfl eX12_alike_22 (by decide) rfl rfl ?_
  refine V_iconst (n := 0) (v := (nI 0)) G eX12_alike_23 rfl ?_
  refine V_istoreA (i := 4) (L' := [some (.ref (wad w 12 0)), some (.int a1), some (.int a2), some (.int (nI 0)), some (.int (nI 0))]) G eX12_alike_24 (by decide) rfl rfl ?_
  obtain ⟨⟨x2, μ3⟩, h1, h⟩ := bdS h
  refine M_alike_l2_ok G h1 ?_
  refine V_iload_n (i := 3) G eX12_alike_84 rfl rfl ?_
  exact V_riM G hr eX12_alike_85 h
theorem M_alike_ok {l : Launch} {w : Wld} {a1 : Int32} {a2 : Int32} {μ : Mem} {r : Int32} {μ' : Mem} (h : M_alike a1 a2 μ = some (r, μ')) : CtI l w yX12_alike cX12_alike 5 .int 5 [.ref (wad w 12 0), .int a1, .int a2] μ r μ' :=
  Ct_of (own := "PotBookModel") [some (.ref (wad w 12 0)), some (.int a1), some (.int a2), none, none] (by decide +kernel) rfl rfl (Nat.le_of_ble_eq_true rfl) fun p e s m args below meth c G hr => M_alike_run G hr h
set_option maxRecDepth 100000 in
set_option maxHeartbeats 4000000 in
theorem M_shared_l1_ok {p : Program} {l : Launch} {e : Env} {R : Room} {s : State} {m : MethodId} {args : Array Value} {below : List Frame} {meth : Method} {c : Code} {w : Wld} {Q : State → Prop} (G : Cxt p R s m args meth c w cX12_shared 4 "PotBookModel" 9 0 0) {v1 : Int32} {o1 : Int32} {μo : Mem} : ∀ {n : Nat} {v2 : Int32} {v3 : Int32} {μ : Mem}, M_shared_l1 v1 n v2 v3 μ = some (o1, μo) → Vj p l e R s m args below meth c w 4 0 0 Q 70 [none, none, some (.int o1), none] [] μo → Vj p l e R s m args below meth c w 4 0 0 Q 21 [some (.ref (wad w 12 0)), some (.int v1), some (.int v2), some (.int v3)] [] μ := by
  intro n
  induction n with
  | zero => intro v2 v3 μ h K; exact noS h
  | succ n ih =>
    intro v2 v3 μ h K
    replace h : M_shared_l1b v1 (M_shared_l1 v1 n) v2 v3 μ = some (o1, μo) := h
    unfold M_shared_l1b at h
    refine V_iload_n (i := 3) G eX12_shared_21 rfl rfl ?_
    refine V_aload_n (i := 0) G eX12_shared_22 rfl rfl ?_
    refine V_get (v := .ref (wad w 1315 0)) G fgX12_38 rfl eX12_shared_23 ?_
    refine V_iload_n (i := 1) G eX12_shared_26 rfl rfl ?_
    refine V_iald G al_1315 (by decide) eX12_shared_27 h (fun x1 h => ?_)
    refine V_icmp_ge G eX12_shared_28 h (fun h => ?_) (fun h => ?_)
    · cases h; exact V_sub (lS_n (lS_n (lS_s (lS_n lS_0)))) K
    · refine V_iload_n (i := 2) G eX12_shared_31 rfl rfl ?_
      refine V_aload_n (i := 0) G eX12_shared_32 rfl rfl ?_
      refine V_iload_n (i := 1) G eX12_shared_33 rfl rfl ?_
      refine V_iload_n (i := 3) G eX12_shared_34 rfl rfl ?_
      obtain ⟨⟨x2, μ3⟩, h1, h⟩ := bdS h
      refine V_callI (As := [.int v1, .int v3]) (st := [.int v2]) G lkX12_384 (M_alike_ok h1) (by decide) rfl rfl (Nat.le_of_ble_eq_true rfl) eX12_shared_35 ?_
      refine V_aload_n (i := 0) G eX12_shared_38 rfl rfl ?_
      refine V_get (v := .int (mI μ3 1342 0 0)) G fgX12_361 rfl eX12_shared_39 ?_
      obtain ⟨x5, hj, h⟩ := bdS h
      have J : Vj p l e R s m args below meth c w 4 0 0 Q 62 [some (.ref (wad w 12 0)), some (.int v1), none, some (.int v3)] [.int x5, .int v2] μ3 := by
        clear hj
        refine V_ior G eX12_shared_62 ?_
        refine V_istore_n (i := 2) (L' := (fun x6 => [some (.ref (wad w 12 0)), some (.int v1), some (.int x6), some (.int v3)])) G rfl eX12_shared_63 (by decide) rfl (fun _ => rfl) h (fun x6 h => ?_)
        refine V_iinc (z := (nI 1)) (L' := (fun x7 => [some (.ref (wad w 12 0)), some (.int v1), some (.int x6), some (.int x7)])) G eX12_shared_64 rfl rfl (by decide) rfl (fun _ => rfl) h (fun x7 h => ?_)
        refine V_goto G eX12_shared_67 ?_
        exact (ih h K)
      replace h := hj
      clear hj
      refine V_icmp_ne G eX12_shared_42 h (fun h => ?_) (fun h => ?_)
      · refine V_iconst (n := 0) (v := (nI 0)) G eX12_shared_61 rfl ?_
        cases h; exact V_sub (lS_s (lS_s (lS_n (lS_s lS_0)))) J
      · refine V_iconst (n := 1) (v := (nI 1)) G eX12_shared_45 rfl ?_
        refine V_aload_n (i := 0) G eX12_shared_46 rfl rfl ?_
        refine V_get (v := .ref (wad w 1316 0)) G fgX12_41 rfl eX12_shared_47 ?_
        refine V_bipush (n := 8) (v := (nI 8)) G eX12_shared_50 rfl ?_
        refine V_iload_n (i := 1) G eX12_shared_52 rfl rfl ?_
        refine V_imul G eX12_shared_53 ?_
        refine V_iload_n (i := 3) G eX12_shared_54 rfl rfl ?_
        refine V_iadd G eX12_shared_55 ?_
        refine V_iald G al_1316 (by decide) eX12_shared_56 h (fun x4 h => ?_)
        refine V_ishl G eX12_shared_57 ?_
        refine V_goto G eX12_shared_58 ?_
        cases h; exact V_sub (lS_s (lS_s (lS_n (lS_s lS_0)))) J
set_option maxRecDepth 100000 in
set_option maxHeartbeats 4000000 in
theorem M_shared_run {p : Program} {l : Launch} {e : Env} {R : Room} {s : State} {m : MethodId} {args : Array Value} {below : List Frame} {meth : Method} {c : Code} {w : Wld} (G : Cxt p R s m args meth c w cX12_shared 4 "PotBookModel" 9 0 0) (hr : meth.sig.returnType = some .int) {a1 : Int32} {μ : Mem} {r : Int32} {μ' : Mem} (h : M_shared a1 μ = some (r, μ')) : Vj p l e R s m args below meth c w 4 0 0 (MQ below (QI w r μ') args s 0 0 w.2.2.2) 0 [some (.ref (wad w 12 0)), some (.int a1), none, none] [] μ := by
  unfold M_shared at h
  refine V_aload_n (i := 0) G eX12_shared_0 rfl rfl ?_
  refine V_iload_n (i := 1) G eX12_shared_1 rfl rfl ?_
  obtain ⟨⟨x1, μ2⟩, h1, h⟩ := bdS h
  refine V_callI (As := [.int a1]) (st := []) G lkX12_376 (M_isTold_ok h1) (by decide) rfl rfl (Nat.le_of_ble_eq_true rfl) eX12_shared_2 ?_
  refine V_if_eq G eX12_shared_5 h (fun h => ?_) (fun h => ?_)
  · refine V_iconst (n := -1) (v := (-1)) G eX12_shared_15 rfl ?_
    exact V_riM G hr eX12_shared_16 h
  · refine V_aload_n (i := 0) G eX12_shared_8 rfl rfl ?_
    refine V_get (v := .int (mI μ2 1342 0 0)) G fgX12_361 rfl eX12_shared_9 ?_
    refine V_if_ne G eX12_shared_12 h (fun h => ?_) (fun h => ?_)
    · refine V_iconst (n := 0) (v := (nI 0)) G eX12_shared_17 rfl ?_
      refine V_istoreA_n (i := 2) (L' := [some (.ref (wad w 12 0)), some (.int a1), some (.int (nI 0)), none]) G rfl eX12_shared_18 (by decide) rfl rfl ?_
      refine V_iconst (n := 0) (v := (nI 0)) G eX12_shared_19 rfl ?_
      refine V_istoreA_n (i := 3) (L' := [some (.ref (wad w 12 0)), some (.int a1), some (.int (nI 0)), some (.int (nI 0))]) G rfl eX12_shared_20 (by decide) rfl rfl ?_
      obtain ⟨⟨x3, μ4⟩, h1, h⟩ := bdS h
      refine M_shared_l1_ok G h1 ?_
      refine V_iload_n (i := 2) G eX12_shared_70 rfl rfl ?_
      exact V_riM G hr eX12_shared_71 h
    · refine V_iconst (n := -1) (v := (-1)) G eX12_shared_15 rfl ?_
      exact V_riM G hr eX12_shared_16 h
theorem M_shared_ok {l : Launch} {w : Wld} {a1 : Int32} {μ : Mem} {r : Int32} {μ' : Mem} (h : M_shared a1 μ = some (r, μ')) : CtI l w yX12_shared cX12_shared 4 .int 9 [.ref (wad w 12 0), .int a1] μ r μ' :=
  Ct_of (own := "PotBookModel") [some (.ref (wad w 12 0)), some (.int a1), none, none] (by decide +kernel) rfl rfl (Nat.le_of_ble_eq_true rfl) fun p e s m args below meth c G hr => M_shared_run G hr h
set_option maxRecDepth 100000 in
set_option maxHeartbeats 4000000 in
theorem M_weigh_l1_ok {p : Program} {l : Launch} {e : Env} {R : Room} {s : State} {m : MethodId} {args : Array Value} {below : List Frame} {meth : Method} {c : Code} {w : Wld} {Q : State → Prop} (G : Cxt p R s m args meth c w cX12_weigh 4 "PotBookModel" 9 0 0) {v1 : Int32} {o1 : Int32} {μo : Mem} : ∀ {n : Nat} {v2 : Int32} {v3 : Int32} {μ : Mem}, M_weigh_l1 v1 n v2 v3 μ = some (o1, μo) → Vj p l e R s m args below meth c w 4 0 0 Q 58 [some (.ref (wad w 12 0)), some (.int v1), some (.int o1), none] [] μo → Vj p l e R s m args below meth c w 4 0 0 Q 21 [some (.ref (wad w 12 0)), some (.int v1), some (.int v2), some (.int v3)] [] μ := by
  intro n
  induction n with
  | zero => intro v2 v3 μ h K; exact noS h
  | succ n ih =>
    intro v2 v3 μ h K
    replace h : M_weigh_l1b v1 (M_weigh_l1 v1 n) v2 v3 μ = some (o1, μo) := h
    unfold M_weigh_l1b at h
    refine V_iload_n (i := 3) G eX12_weigh_21 rfl rfl ?_
    refine V_aload_n (i := 0) G eX12_weigh_22 rfl rfl ?_
    refine V_get (v := .ref (wad w 1315 0)) G fgX12_38 rfl eX12_weigh_23 ?_
    refine V_iload_n (i := 1) G eX12_weigh_26 rfl rfl ?_
    refine V_iald G al_1315 (by decide) eX12_weigh_27 h (fun x1 h => ?_)
    refine V_icmp_ge G eX12_weigh_28 h (fun h => ?_) (fun h => ?_)
    · cases h; exact V_sub (lS_s (lS_s (lS_s (lS_n lS_0)))) K
    · refine V_aload_n (i := 0) G eX12_weigh_31 rfl rfl ?_
      refine V_iload_n (i := 1) G eX12_weigh_32 rfl rfl ?_
      refine V_iload_n (i := 3) G eX12_weigh_33 rfl rfl ?_
      obtain ⟨⟨x2, μ3⟩, h1, h⟩ := bdS h
      refine V_callI (As := [.int v1, .int v3]) (st := []) G lkX12_384 (M_alike_ok h1) (by decide) rfl rfl (Nat.le_of_ble_eq_true rfl) eX12_weigh_34 ?_
      refine V_aload_n (i := 0) G eX12_weigh_37 rfl rfl ?_
      refine V_iload_n (i := 1) G eX12_weigh_38 rfl rfl ?_
      refine V_iload_n (i := 2) G eX12_weigh_39 rfl rfl ?_
      obtain ⟨⟨x4, μ5⟩, h1, h⟩ := bdS h
      refine V_callI (As := [.int v1, .int v2]) (st := [.int x2]) G lkX12_384 (M_alike_ok h1) (by decide) rfl rfl (Nat.le_of_ble_eq_true rfl) eX12_weigh_40 ?_
      obtain ⟨x6, hj, h⟩ := bdS h
      have J : Vj p l e R s m args below meth c w 4 0 0 Q 51 [some (.ref (wad w 12 0)), some (.int v1), none, some (.int v3)] [.int x6] μ5 := by
        clear hj
        refine V_istoreA_n (i := 2) (L' := [some (.ref (wad w 12 0)), some (.int v1), some (.int x6), some (.int v3)]) G rfl eX12_weigh_51 (by decide) rfl rfl ?_
        refine V_iinc (z := (nI 1)) (L' := (fun x7 => [some (.ref (wad w 12 0)), some (.int v1), some (.int x6), some (.int x7)])) G eX12_weigh_52 rfl rfl (by decide) rfl (fun _ => rfl) h (fun x7 h => ?_)
        refine V_goto G eX12_weigh_55 ?_
        exact (ih h K)
      replace h := hj
      clear hj
      refine V_icmp_ge G eX12_weigh_43 h (fun h => ?_) (fun h => ?_)
      · refine V_iload_n (i := 2) G eX12_weigh_50 rfl rfl ?_
        cases h; exact V_sub (lS_s (lS_s (lS_n (lS_s lS_0)))) J
      · refine V_iload_n (i := 3) G eX12_weigh_46 rfl rfl ?_
        refine V_goto G eX12_weigh_47 ?_
        cases h; exact V_sub (lS_s (lS_s (lS_n (lS_s lS_0)))) J
set_option maxRecDepth 100000 in
set_option maxHeartbeats 4000000 in
theorem M_weigh_run {p : Program} {l : Launch} {e : Env} {R : Room} {s : State} {m : MethodId} {args : Array Value} {below : List Frame} {meth : Method} {c : Code} {w : Wld} (G : Cxt p R s m args meth c w cX12_weigh 4 "PotBookModel" 9 0 0) (hr : meth.sig.returnType = some .int) {a1 : Int32} {μ : Mem} {r : Int32} {μ' : Mem} (h : M_weigh a1 μ = some (r, μ')) : Vj p l e R s m args below meth c w 4 0 0 (MQ below (QI w r μ') args s 0 0 w.2.2.2) 0 [some (.ref (wad w 12 0)), some (.int a1), none, none] [] μ := by
  unfold M_weigh at h
  refine V_aload_n (i := 0) G eX12_weigh_0 rfl rfl ?_
  refine V_iload_n (i := 1) G eX12_weigh_1 rfl rfl ?_
  obtain ⟨⟨x1, μ2⟩, h1, h⟩ := bdS h
  refine V_callI (As := [.int a1]) (st := []) G lkX12_376 (M_isTold_ok h1) (by decide) rfl rfl (Nat.le_of_ble_eq_true rfl) eX12_weigh_2 ?_
  refine V_if_eq G eX12_weigh_5 h (fun h => ?_) (fun h => ?_)
  · refine V_iconst (n := -1) (v := (-1)) G eX12_weigh_15 rfl ?_
    exact V_riM G hr eX12_weigh_16 h
  · refine V_aload_n (i := 0) G eX12_weigh_8 rfl rfl ?_
    refine V_get (v := .int (mI μ2 1342 0 0)) G fgX12_361 rfl eX12_weigh_9 ?_
    refine V_if_ne G eX12_weigh_12 h (fun h => ?_) (fun h => ?_)
    · refine V_iconst (n := 0) (v := (nI 0)) G eX12_weigh_17 rfl ?_
      refine V_istoreA_n (i := 2) (L' := [some (.ref (wad w 12 0)), some (.int a1), some (.int (nI 0)), none]) G rfl eX12_weigh_18 (by decide) rfl rfl ?_
      refine V_iconst (n := 1) (v := (nI 1)) G eX12_weigh_19 rfl ?_
      refine V_istoreA_n (i := 3) (L' := [some (.ref (wad w 12 0)), some (.int a1), some (.int (nI 0)), some (.int (nI 1))]) G rfl eX12_weigh_20 (by decide) rfl rfl ?_
      obtain ⟨⟨x3, μ4⟩, h1, h⟩ := bdS h
      refine M_weigh_l1_ok G h1 ?_
      refine V_aload_n (i := 0) G eX12_weigh_58 rfl rfl ?_
      refine V_get (v := .ref (wad w 1316 0)) G fgX12_41 rfl eX12_weigh_59 ?_
      refine V_bipush (n := 8) (v := (nI 8)) G eX12_weigh_62 rfl ?_
      refine V_iload_n (i := 1) G eX12_weigh_64 rfl rfl ?_
      refine V_imul G eX12_weigh_65 ?_
      refine V_iload_n (i := 2) G eX12_weigh_66 rfl rfl ?_
      refine V_iadd G eX12_weigh_67 ?_
      refine V_iald G al_1316 (by decide) eX12_weigh_68 h (fun x5 h => ?_)
      exact V_riM G hr eX12_weigh_69 h
    · refine V_iconst (n := -1) (v := (-1)) G eX12_weigh_15 rfl ?_
      exact V_riM G hr eX12_weigh_16 h
theorem M_weigh_ok {l : Launch} {w : Wld} {a1 : Int32} {μ : Mem} {r : Int32} {μ' : Mem} (h : M_weigh a1 μ = some (r, μ')) : CtI l w yX12_weigh cX12_weigh 4 .int 9 [.ref (wad w 12 0), .int a1] μ r μ' :=
  Ct_of (own := "PotBookModel") [some (.ref (wad w 12 0)), some (.int a1), none, none] (by decide +kernel) rfl rfl (Nat.le_of_ble_eq_true rfl) fun p e s m args below meth c G hr => M_weigh_run G hr h
set_option maxRecDepth 100000 in
set_option maxHeartbeats 4000000 in
theorem M_worth_run {p : Program} {l : Launch} {e : Env} {R : Room} {s : State} {m : MethodId} {args : Array Value} {below : List Frame} {meth : Method} {c : Code} {w : Wld} (G : Cxt p R s m args meth c w cX12_worth 4 "PotBookModel" 9 0 0) (hr : meth.sig.returnType = some .int) {a1 : Int32} {a2 : Int32} {a3 : Int32} {μ : Mem} {r : Int32} {μ' : Mem} (h : M_worth a1 a2 a3 μ = some (r, μ')) : Vj p l e R s m args below meth c w 4 0 0 (MQ below (QI w r μ') args s 0 0 w.2.2.2) 0 [some (.ref (wad w 12 0)), some (.int a1), some (.int a2), some (.int a3)] [] μ := by
  unfold M_worth at h
  refine V_aload_n (i := 0) G eX12_worth_0 rfl rfl ?_
  refine V_iload_n (i := 3) G eX12_worth_1 rfl rfl ?_
  obtain ⟨x1, h1, h⟩ := bdS h
  refine V_callI (As := [.int a3]) (st := []) G lkX12_341 (M_isLaw_ok h1) (by decide) rfl rfl (Nat.le_of_ble_eq_true rfl) eX12_worth_2 ?_
  refine V_if_eq G eX12_worth_5 h (fun h => ?_) (fun h => ?_)
  · refine V_ldcw (v := (-10000000)) G cnI_X12_387 eX12_worth_30 ?_
    exact V_riM G hr eX12_worth_33 h
  · refine V_aload_n (i := 0) G eX12_worth_8 rfl rfl ?_
    refine V_iload_n (i := 1) G eX12_worth_9 rfl rfl ?_
    obtain ⟨⟨x2, μ3⟩, h1, h⟩ := bdS h
    refine V_callI (As := [.int a1]) (st := []) G lkX12_376 (M_isTold_ok h1) (by decide) rfl rfl (Nat.le_of_ble_eq_true rfl) eX12_worth_10 ?_
    refine V_if_eq G eX12_worth_13 h (fun h => ?_) (fun h => ?_)
    · refine V_ldcw (v := (-10000000)) G cnI_X12_387 eX12_worth_30 ?_
      exact V_riM G hr eX12_worth_33 h
    · refine V_iload_n (i := 2) G eX12_worth_16 rfl rfl ?_
      refine V_iconst (n := 0) (v := (nI 0)) G eX12_worth_17 rfl ?_
      refine V_aload_n (i := 0) G eX12_worth_18 rfl rfl ?_
      refine V_get (v := .int (mI μ3 1342 0 0)) G fgX12_361 rfl eX12_worth_19 ?_
      refine V_iconst (n := 1) (v := (nI 1)) G eX12_worth_22 rfl ?_
      refine V_isub G eX12_worth_23 ?_
      obtain ⟨x4, h1, h⟩ := bdS h
      refine V_callIS (As := [.int a2, .int (nI 0), .int ((mI μ3 1342 0 0) - (nI 1))]) (st := []) G lkX12_198 (M_in_ok (μ := μ3) h1) (by decide) rfl rfl (Nat.le_of_ble_eq_true rfl) eX12_worth_24 ?_
      refine V_if_ne G eX12_worth_27 h (fun h => ?_) (fun h => ?_)
      · refine V_aload_n (i := 0) G eX12_worth_34 rfl rfl ?_
        refine V_iload_n (i := 1) G eX12_worth_35 rfl rfl ?_
        refine V_iload_n (i := 2) G eX12_worth_36 rfl rfl ?_
        obtain ⟨μ5, h1, h⟩ := bdS h
        refine V_callV (As := [.int a1, .int a2]) (st := []) G lkX12_379 (M_go_ok h1) (by decide) rfl rfl (Nat.le_of_ble_eq_true rfl) eX12_worth_37 ?_
        refine V_aload_n (i := 0) G eX12_worth_40 rfl rfl ?_
        refine V_iload_n (i := 3) G eX12_worth_41 rfl rfl ?_
        obtain ⟨⟨x6, μ7⟩, h1, h⟩ := bdS h
        refine V_callI (As := [.int a3]) (st := []) G lkX12_355 (M_worthNow_ok h1) (by decide) rfl rfl (Nat.le_of_ble_eq_true rfl) eX12_worth_42 ?_
        exact V_riM G hr eX12_worth_45 h
      · refine V_ldcw (v := (-10000000)) G cnI_X12_387 eX12_worth_30 ?_
        exact V_riM G hr eX12_worth_33 h
theorem M_worth_ok {l : Launch} {w : Wld} {a1 : Int32} {a2 : Int32} {a3 : Int32} {μ : Mem} {r : Int32} {μ' : Mem} (h : M_worth a1 a2 a3 μ = some (r, μ')) : CtI l w yX12_worth cX12_worth 4 .int 9 [.ref (wad w 12 0), .int a1, .int a2, .int a3] μ r μ' :=
  Ct_of (own := "PotBookModel") [some (.ref (wad w 12 0)), some (.int a1), some (.int a2), some (.int a3)] (by decide +kernel) rfl rfl (Nat.le_of_ble_eq_true rfl) fun p e s m args below meth c G hr => M_worth_run G hr h
set_option maxRecDepth 100000 in
set_option maxHeartbeats 4000000 in
theorem M_range_l1_ok {p : Program} {l : Launch} {e : Env} {R : Room} {s : State} {m : MethodId} {args : Array Value} {below : List Frame} {meth : Method} {c : Code} {w : Wld} {Q : State → Prop} (G : Cxt p R s m args meth c w cX12_range 7 "PotBookModel" 9 0 0) {v1 : Int32} {v2 : Int32} {v3 : Int32} {o1 : Int32} {μo : Mem} : ∀ {n : Nat} {v4 : Int32} {v5 : Int32} {μ : Mem}, M_range_l1 v1 v2 v3 n v4 v5 μ = some (o1, μo) → Vj p l e R s m args below meth c w 7 0 0 Q 104 [none, none, none, none, some (.int o1), none, none] [] μo → Vj p l e R s m args below meth c w 7 0 0 Q 42 [some (.ref (wad w 12 0)), some (.int v1), some (.int v2), some (.int v3), some (.int v4), some (.int v5), none] [] μ := by
  intro n
  induction n with
  | zero => intro v4 v5 μ h K; exact noS h
  | succ n ih =>
    intro v4 v5 μ h K
    replace h : M_range_l1b v1 v2 v3 (M_range_l1 v1 v2 v3 n) v4 v5 μ = some (o1, μo) := h
    unfold M_range_l1b at h
    refine V_iload G eX12_range_42 rfl ?_
    refine V_aload_n (i := 0) G eX12_range_44 rfl rfl ?_
    refine V_get (v := .int (mI μ 1342 0 0)) G fgX12_361 rfl eX12_range_45 ?_
    refine V_icmp_ge G eX12_range_48 h (fun h => ?_) (fun h => ?_)
    · cases h; exact V_sub (lS_n (lS_n (lS_n (lS_n (lS_s (lS_n (lS_n lS_0))))))) K
    · refine V_aload_n (i := 0) G eX12_range_51 rfl rfl ?_
      refine V_iload_n (i := 1) G eX12_range_52 rfl rfl ?_
      refine V_iload G eX12_range_53 rfl ?_
      obtain ⟨μ1, h1, h⟩ := bdS h
      refine V_callV (As := [.int v1, .int v5]) (st := []) G lkX12_379 (M_go_ok h1) (by decide) rfl rfl (Nat.le_of_ble_eq_true rfl) eX12_range_55 ?_
      refine V_aload_n (i := 0) G eX12_range_58 rfl rfl ?_
      refine V_iload_n (i := 2) G eX12_range_59 rfl rfl ?_
      obtain ⟨⟨x2, μ3⟩, h1, h⟩ := bdS h
      refine V_callI (As := [.int v2]) (st := []) G lkX12_355 (M_worthNow_ok h1) (by decide) rfl rfl (Nat.le_of_ble_eq_true rfl) eX12_range_60 ?_
      refine V_istoreA (i := 6) (L' := [some (.ref (wad w 12 0)), some (.int v1), some (.int v2), some (.int v3), some (.int v4), some (.int v5), some (.int x2)]) G eX12_range_63 (by decide) rfl rfl ?_
      refine V_iload G eX12_range_65 rfl ?_
      obtain ⟨x4, hj, h⟩ := bdS h
      have J : Vj p l e R s m args below meth c w 7 0 0 Q 96 [some (.ref (wad w 12 0)), some (.int v1), some (.int v2), some (.int v3), none, some (.int v5), none] [.int x4] μ3 := by
        clear hj
        refine V_istoreA (i := 4) (L' := [some (.ref (wad w 12 0)), some (.int v1), some (.int v2), some (.int v3), some (.int x4), some (.int v5), none]) G eX12_range_96 (by decide) rfl rfl ?_
        refine V_iinc (z := (nI 1)) (L' := (fun x5 => [some (.ref (wad w 12 0)), some (.int v1), some (.int v2), some (.int v3), some (.int x4), some (.int x5), none])) G eX12_range_98 rfl rfl (by decide) rfl (fun _ => rfl) h (fun x5 h => ?_)
        refine V_goto G eX12_range_101 ?_
        exact (ih h K)
      replace h := hj
      clear hj
      refine V_if_ne G eX12_range_67 h (fun h => ?_) (fun h => ?_)
      · refine V_iload_n (i := 3) G eX12_range_75 rfl rfl ?_
        refine V_if_ne G eX12_range_76 h (fun h => ?_) (fun h => ?_)
        · refine V_iload G eX12_range_89 rfl ?_
          refine V_iload G eX12_range_91 rfl ?_
          refine V_jMax G mkX12_209 (by decide) (Nat.le_of_ble_eq_true rfl) eX12_range_93 ?_
          cases h; exact V_sub (lS_s (lS_s (lS_s (lS_s (lS_n (lS_s (lS_n lS_0))))))) J
        · refine V_iload G eX12_range_79 rfl ?_
          refine V_iload G eX12_range_81 rfl ?_
          refine V_jMin G mkX12_382 (by decide) (Nat.le_of_ble_eq_true rfl) eX12_range_83 ?_
          refine V_goto G eX12_range_86 ?_
          cases h; exact V_sub (lS_s (lS_s (lS_s (lS_s (lS_n (lS_s (lS_n lS_0))))))) J
      · refine V_iload G eX12_range_70 rfl ?_
        refine V_goto G eX12_range_72 ?_
        cases h; exact V_sub (lS_s (lS_s (lS_s (lS_s (lS_n (lS_s (lS_n lS_0))))))) J
set_option maxRecDepth 100000 in
set_option maxHeartbeats 4000000 in
theorem M_range_run {p : Program} {l : Launch} {e : Env} {R : Room} {s : State} {m : MethodId} {args : Array Value} {below : List Frame} {meth : Method} {c : Code} {w : Wld} (G : Cxt p R s m args meth c w cX12_range 7 "PotBookModel" 9 0 0) (hr : meth.sig.returnType = some .int) {a1 : Int32} {a2 : Int32} {a3 : Int32} {μ : Mem} {r : Int32} {μ' : Mem} (h : M_range a1 a2 a3 μ = some (r, μ')) : Vj p l e R s m args below meth c w 7 0 0 (MQ below (QI w r μ') args s 0 0 w.2.2.2) 0 [some (.ref (wad w 12 0)), some (.int a1), some (.int a2), some (.int a3), none, none, none] [] μ := by
  unfold M_range at h
  refine V_aload_n (i := 0) G eX12_range_0 rfl rfl ?_
  refine V_iload_n (i := 2) G eX12_range_1 rfl rfl ?_
  obtain ⟨x1, h1, h⟩ := bdS h
  refine V_callI (As := [.int a2]) (st := []) G lkX12_341 (M_isLaw_ok h1) (by decide) rfl rfl (Nat.le_of_ble_eq_true rfl) eX12_range_2 ?_
  refine V_if_eq G eX12_range_5 h (fun h => ?_) (fun h => ?_)
  · refine V_ldcw (v := (-10000000)) G cnI_X12_387 eX12_range_32 ?_
    exact V_riM G hr eX12_range_35 h
  · refine V_iload_n (i := 3) G eX12_range_8 rfl rfl ?_
    refine V_iconst (n := 0) (v := (nI 0)) G eX12_range_9 rfl ?_
    refine V_iconst (n := 1) (v := (nI 1)) G eX12_range_10 rfl ?_
    obtain ⟨x2, h1, h⟩ := bdS h
    refine V_callIS (As := [.int a3, .int (nI 0), .int (nI 1)]) (st := []) G lkX12_198 (M_in_ok (μ := μ) h1) (by decide) rfl rfl (Nat.le_of_ble_eq_true rfl) eX12_range_11 ?_
    refine V_if_eq G eX12_range_14 h (fun h => ?_) (fun h => ?_)
    · refine V_ldcw (v := (-10000000)) G cnI_X12_387 eX12_range_32 ?_
      exact V_riM G hr eX12_range_35 h
    · refine V_aload_n (i := 0) G eX12_range_17 rfl rfl ?_
      refine V_iload_n (i := 1) G eX12_range_18 rfl rfl ?_
      obtain ⟨⟨x3, μ4⟩, h1, h⟩ := bdS h
      refine V_callI (As := [.int a1]) (st := []) G lkX12_376 (M_isTold_ok h1) (by decide) rfl rfl (Nat.le_of_ble_eq_true rfl) eX12_range_19 ?_
      refine V_if_eq G eX12_range_22 h (fun h => ?_) (fun h => ?_)
      · refine V_ldcw (v := (-10000000)) G cnI_X12_387 eX12_range_32 ?_
        exact V_riM G hr eX12_range_35 h
      · refine V_aload_n (i := 0) G eX12_range_25 rfl rfl ?_
        refine V_get (v := .int (mI μ4 1342 0 0)) G fgX12_361 rfl eX12_range_26 ?_
        refine V_if_ne G eX12_range_29 h (fun h => ?_) (fun h => ?_)
        · refine V_iconst (n := 0) (v := (nI 0)) G eX12_range_36 rfl ?_
          refine V_istoreA (i := 4) (L' := [some (.ref (wad w 12 0)), some (.int a1), some (.int a2), some (.int a3), some (.int (nI 0)), none, none]) G eX12_range_37 (by decide) rfl rfl ?_
          refine V_iconst (n := 0) (v := (nI 0)) G eX12_range_39 rfl ?_
          refine V_istoreA (i := 5) (L' := [some (.ref (wad w 12 0)), some (.int a1), some (.int a2), some (.int a3), some (.int (nI 0)), some (.int (nI 0)), none]) G eX12_range_40 (by decide) rfl rfl ?_
          obtain ⟨⟨x5, μ6⟩, h1, h⟩ := bdS h
          refine M_range_l1_ok G h1 ?_
          refine V_iload G eX12_range_104 rfl ?_
          exact V_riM G hr eX12_range_106 h
        · refine V_ldcw (v := (-10000000)) G cnI_X12_387 eX12_range_32 ?_
          exact V_riM G hr eX12_range_35 h
theorem M_range_ok {l : Launch} {w : Wld} {a1 : Int32} {a2 : Int32} {a3 : Int32} {μ : Mem} {r : Int32} {μ' : Mem} (h : M_range a1 a2 a3 μ = some (r, μ')) : CtI l w yX12_range cX12_range 7 .int 9 [.ref (wad w 12 0), .int a1, .int a2, .int a3] μ r μ' :=
  Ct_of (own := "PotBookModel") [some (.ref (wad w 12 0)), some (.int a1), some (.int a2), some (.int a3), none, none, none] (by decide +kernel) rfl rfl (Nat.le_of_ble_eq_true rfl) fun p e s m args below meth c G hr => M_range_run G hr h
set_option maxRecDepth 100000 in
set_option maxHeartbeats 4000000 in
theorem M_trial_run {p : Program} {l : Launch} {e : Env} {R : Room} {s : State} {m : MethodId} {args : Array Value} {below : List Frame} {meth : Method} {c : Code} {w : Wld} (G : Cxt p R s m args meth c w cX12_trial 4 "PotBookModel" 3 0 0) (hr : meth.sig.returnType = some .int) {a1 : Int32} {a2 : Int32} {a3 : Int32} {μ : Mem} {r : Int32} {μ' : Mem} (h : M_trial a1 a2 a3 μ = some (r, μ')) : Vj p l e R s m args below meth c w 4 0 0 (MQ below (QI w r μ') args s 0 0 w.2.2.2) 0 [some (.ref (wad w 12 0)), some (.int a1), some (.int a2), some (.int a3)] [] μ := by
  unfold M_trial at h
  refine V_aload_n (i := 0) G eX12_trial_0 rfl rfl ?_
  refine V_iload_n (i := 1) G eX12_trial_1 rfl rfl ?_
  obtain ⟨x1, h1, h⟩ := bdS h
  refine V_callI (As := [.int a1]) (st := []) G lkX12_341 (M_isLaw_ok h1) (by decide) rfl rfl (Nat.le_of_ble_eq_true rfl) eX12_trial_2 ?_
  refine V_if_eq G eX12_trial_5 h (fun h => ?_) (fun h => ?_)
  · refine V_iconst (n := -1) (v := (-1)) G eX12_trial_30 rfl ?_
    exact V_riM G hr eX12_trial_31 h
  · refine V_iload_n (i := 2) G eX12_trial_8 rfl rfl ?_
    refine V_sipush (n := -9999) (v := (-9999)) G eX12_trial_9 rfl ?_
    refine V_sipush (n := 9999) (v := (nI 9999)) G eX12_trial_12 rfl ?_
    obtain ⟨x2, h1, h⟩ := bdS h
    refine V_callIS (As := [.int a2, .int (-9999), .int (nI 9999)]) (st := []) G lkX12_198 (M_in_ok (μ := μ) h1) (by decide) rfl rfl (Nat.le_of_ble_eq_true rfl) eX12_trial_15 ?_
    refine V_if_eq G eX12_trial_18 h (fun h => ?_) (fun h => ?_)
    · refine V_iconst (n := -1) (v := (-1)) G eX12_trial_30 rfl ?_
      exact V_riM G hr eX12_trial_31 h
    · refine V_aload_n (i := 0) G eX12_trial_21 rfl rfl ?_
      refine V_get (v := .int (mI μ 1348 0 0)) G fgX12_388 rfl eX12_trial_22 ?_
      refine V_bipush (n := 20) (v := (nI 20)) G eX12_trial_25 rfl ?_
      refine V_icmp_ne G eX12_trial_27 h (fun h => ?_) (fun h => ?_)
      · refine V_aload_n (i := 0) G eX12_trial_32 rfl rfl ?_
        refine V_get (v := .ref (wad w 1345 0)) G fgX12_111 rfl eX12_trial_33 ?_
        refine V_aload_n (i := 0) G eX12_trial_36 rfl rfl ?_
        refine V_get (v := .int (mI μ 1348 0 0)) G fgX12_388 rfl eX12_trial_37 ?_
        refine V_iload_n (i := 1) G eX12_trial_40 rfl rfl ?_
        refine V_iast G al_1345 (by decide) eX12_trial_41 h (fun μ3 h => ?_)
        refine V_aload_n (i := 0) G eX12_trial_42 rfl rfl ?_
        refine V_get (v := .ref (wad w 1346 0)) G fgX12_114 rfl eX12_trial_43 ?_
        refine V_aload_n (i := 0) G eX12_trial_46 rfl rfl ?_
        refine V_get (v := .int (mI μ3 1348 0 0)) G fgX12_388 rfl eX12_trial_47 ?_
        refine V_iload_n (i := 2) G eX12_trial_50 rfl rfl ?_
        refine V_iast G al_1346 (by decide) eX12_trial_51 h (fun μ4 h => ?_)
        refine V_aload_n (i := 0) G eX12_trial_52 rfl rfl ?_
        refine V_get (v := .ref (wad w 1347 0)) G fgX12_117 rfl eX12_trial_53 ?_
        refine V_aload_n (i := 0) G eX12_trial_56 rfl rfl ?_
        refine V_get (v := .int (mI μ4 1348 0 0)) G fgX12_388 rfl eX12_trial_57 ?_
        refine V_iload_n (i := 3) G eX12_trial_60 rfl rfl ?_
        refine V_zast G al_1347 (by decide) eX12_trial_61 h (fun μ5 h => ?_)
        refine V_aload_n (i := 0) G eX12_trial_62 rfl rfl ?_
        refine V_dup G eX12_trial_63 rfl ?_
        refine V_get (v := .int (mI μ5 1348 0 0)) G fgX12_388 rfl eX12_trial_64 ?_
        refine V_iconst (n := 1) (v := (nI 1)) G eX12_trial_67 rfl ?_
        refine V_iadd G eX12_trial_68 ?_
        refine V_put G fgX12_388 fp_12_48 eX12_trial_69 h (fun μ6 h => ?_)
        refine V_aload_n (i := 0) G eX12_trial_72 rfl rfl ?_
        refine V_get (v := .int (mI μ6 1348 0 0)) G fgX12_388 rfl eX12_trial_73 ?_
        exact V_riM G hr eX12_trial_76 h
      · refine V_iconst (n := -1) (v := (-1)) G eX12_trial_30 rfl ?_
        exact V_riM G hr eX12_trial_31 h
theorem M_trial_ok {l : Launch} {w : Wld} {a1 : Int32} {a2 : Int32} {a3 : Int32} {μ : Mem} {r : Int32} {μ' : Mem} (h : M_trial a1 a2 a3 μ = some (r, μ')) : CtI l w yX12_trial cX12_trial 4 .int 3 [.ref (wad w 12 0), .int a1, .int a2, .int a3] μ r μ' :=
  Ct_of (own := "PotBookModel") [some (.ref (wad w 12 0)), some (.int a1), some (.int a2), some (.int a3)] (by decide +kernel) rfl rfl (Nat.le_of_ble_eq_true rfl) fun p e s m args below meth c G hr => M_trial_run G hr h
set_option maxRecDepth 100000 in
set_option maxHeartbeats 4000000 in
theorem M_standing_l1_ok {p : Program} {l : Launch} {e : Env} {R : Room} {s : State} {m : MethodId} {args : Array Value} {below : List Frame} {meth : Method} {c : Code} {w : Wld} {Q : State → Prop} (G : Cxt p R s m args meth c w cX12_standing 6 "PotBookModel" 1 0 0) {v1 : Int32} {v2 : Int32} {μ : Mem} {o1 : Int32} {o2 : Int32} : ∀ {n : Nat} {v3 : Int32} {v4 : Int32} {v5 : Int32}, M_standing_l1 v1 v2 μ n v3 v4 v5 = some (o1, o2) → Vj p l e R s m args below meth c w 6 0 0 Q 109 [none, none, none, some (.int o1), some (.int o2), none] [] μ → Vj p l e R s m args below meth c w 6 0 0 Q 8 [some (.ref (wad w 12 0)), some (.int v1), some (.int v2), some (.int v3), some (.int v4), some (.int v5)] [] μ := by
  intro n
  induction n with
  | zero => intro v3 v4 v5 h K; exact noS h
  | succ n ih =>
    intro v3 v4 v5 h K
    replace h : M_standing_l1b v1 v2 μ (M_standing_l1 v1 v2 μ n) v3 v4 v5 = some (o1, o2) := h
    unfold M_standing_l1b at h
    refine V_iload G eX12_standing_8 rfl ?_
    refine V_aload_n (i := 0) G eX12_standing_10 rfl rfl ?_
    refine V_get (v := .int (mI μ 1348 0 0)) G fgX12_388 rfl eX12_standing_11 ?_
    refine V_icmp_ge G eX12_standing_14 h (fun h => ?_) (fun h => ?_)
    · cases h; exact V_sub (lS_n (lS_n (lS_n (lS_s (lS_s (lS_n lS_0)))))) K
    · refine V_iload_n (i := 3) G eX12_standing_17 rfl rfl ?_
      obtain ⟨x4, hj, h⟩ := bdS h
      have J : Vj p l e R s m args below meth c w 6 0 0 Q 58 [some (.ref (wad w 12 0)), some (.int v1), some (.int v2), none, some (.int v4), some (.int v5)] [.int x4] μ := by
        clear hj
        refine V_istoreA_n (i := 3) (L' := [some (.ref (wad w 12 0)), some (.int v1), some (.int v2), some (.int x4), some (.int v4), some (.int v5)]) G rfl eX12_standing_58 (by decide) rfl rfl ?_
        refine V_iload G eX12_standing_59 rfl ?_
        obtain ⟨x8, hj, h⟩ := bdS h
        have J : Vj p l e R s m args below meth c w 6 0 0 Q 101 [some (.ref (wad w 12 0)), some (.int v1), some (.int v2), some (.int x4), none, some (.int v5)] [.int x8] μ := by
          clear hj
          refine V_istoreA (i := 4) (L' := [some (.ref (wad w 12 0)), some (.int v1), some (.int v2), some (.int x4), some (.int x8), some (.int v5)]) G eX12_standing_101 (by decide) rfl rfl ?_
          refine V_iinc (z := (nI 1)) (L' := (fun x9 => [some (.ref (wad w 12 0)), some (.int v1), some (.int v2), some (.int x4), some (.int x8), some (.int x9)])) G eX12_standing_103 rfl rfl (by decide) rfl (fun _ => rfl) h (fun x9 h => ?_)
          refine V_goto G eX12_standing_106 ?_
          exact (ih h K)
        replace h := hj
        clear hj
        refine V_if_ne G eX12_standing_61 h (fun h => ?_) (fun h => ?_)
        · refine V_iconst (n := 1) (v := (nI 1)) G eX12_standing_96 rfl ?_
          refine V_goto G eX12_standing_97 ?_
          cases h; exact V_sub (lS_s (lS_s (lS_s (lS_s (lS_n (lS_s lS_0)))))) J
        · refine V_aload_n (i := 0) G eX12_standing_64 rfl rfl ?_
          refine V_get (v := .ref (wad w 1345 0)) G fgX12_111 rfl eX12_standing_65 ?_
          refine V_iload G eX12_standing_68 rfl ?_
          refine V_iald G al_1345 (by decide) eX12_standing_70 h (fun x5 h => ?_)
          refine V_iload_n (i := 1) G eX12_standing_71 rfl rfl ?_
          refine V_icmp_ne G eX12_standing_72 h (fun h => ?_) (fun h => ?_)
          · refine V_iconst (n := 0) (v := (nI 0)) G eX12_standing_100 rfl ?_
            cases h; exact V_sub (lS_s (lS_s (lS_s (lS_s (lS_n (lS_s lS_0)))))) J
          · refine V_aload_n (i := 0) G eX12_standing_75 rfl rfl ?_
            refine V_get (v := .ref (wad w 1347 0)) G fgX12_117 rfl eX12_standing_76 ?_
            refine V_iload G eX12_standing_79 rfl ?_
            refine V_zald G al_1347 (by decide) eX12_standing_81 h (fun x6 h => ?_)
            refine V_if_ne G eX12_standing_82 h (fun h => ?_) (fun h => ?_)
            · refine V_iconst (n := 0) (v := (nI 0)) G eX12_standing_100 rfl ?_
              cases h; exact V_sub (lS_s (lS_s (lS_s (lS_s (lS_n (lS_s lS_0)))))) J
            · refine V_iload_n (i := 2) G eX12_standing_85 rfl rfl ?_
              refine V_aload_n (i := 0) G eX12_standing_86 rfl rfl ?_
              refine V_get (v := .ref (wad w 1346 0)) G fgX12_114 rfl eX12_standing_87 ?_
              refine V_iload G eX12_standing_90 rfl ?_
              refine V_iald G al_1346 (by decide) eX12_standing_92 h (fun x7 h => ?_)
              refine V_icmp_gt G eX12_standing_93 h (fun h => ?_) (fun h => ?_)
              · refine V_iconst (n := 0) (v := (nI 0)) G eX12_standing_100 rfl ?_
                cases h; exact V_sub (lS_s (lS_s (lS_s (lS_s (lS_n (lS_s lS_0)))))) J
              · refine V_iconst (n := 1) (v := (nI 1)) G eX12_standing_96 rfl ?_
                refine V_goto G eX12_standing_97 ?_
                cases h; exact V_sub (lS_s (lS_s (lS_s (lS_s (lS_n (lS_s lS_0)))))) J
      replace h := hj
      clear hj
      refine V_if_ne G eX12_standing_18 h (fun h => ?_) (fun h => ?_)
      · refine V_iconst (n := 1) (v := (nI 1)) G eX12_standing_53 rfl ?_
        refine V_goto G eX12_standing_54 ?_
        cases h; exact V_sub (lS_s (lS_s (lS_s (lS_n (lS_s (lS_s lS_0)))))) J
      · refine V_aload_n (i := 0) G eX12_standing_21 rfl rfl ?_
        refine V_get (v := .ref (wad w 1345 0)) G fgX12_111 rfl eX12_standing_22 ?_
        refine V_iload G eX12_standing_25 rfl ?_
        refine V_iald G al_1345 (by decide) eX12_standing_27 h (fun x1 h => ?_)
        refine V_iload_n (i := 1) G eX12_standing_28 rfl rfl ?_
        refine V_icmp_ne G eX12_standing_29 h (fun h => ?_) (fun h => ?_)
        · refine V_iconst (n := 0) (v := (nI 0)) G eX12_standing_57 rfl ?_
          cases h; exact V_sub (lS_s (lS_s (lS_s (lS_n (lS_s (lS_s lS_0)))))) J
        · refine V_aload_n (i := 0) G eX12_standing_32 rfl rfl ?_
          refine V_get (v := .ref (wad w 1347 0)) G fgX12_117 rfl eX12_standing_33 ?_
          refine V_iload G eX12_standing_36 rfl ?_
          refine V_zald G al_1347 (by decide) eX12_standing_38 h (fun x2 h => ?_)
          refine V_if_eq G eX12_standing_39 h (fun h => ?_) (fun h => ?_)
          · refine V_iconst (n := 0) (v := (nI 0)) G eX12_standing_57 rfl ?_
            cases h; exact V_sub (lS_s (lS_s (lS_s (lS_n (lS_s (lS_s lS_0)))))) J
          · refine V_iload_n (i := 2) G eX12_standing_42 rfl rfl ?_
            refine V_aload_n (i := 0) G eX12_standing_43 rfl rfl ?_
            refine V_get (v := .ref (wad w 1346 0)) G fgX12_114 rfl eX12_standing_44 ?_
            refine V_iload G eX12_standing_47 rfl ?_
            refine V_iald G al_1346 (by decide) eX12_standing_49 h (fun x3 h => ?_)
            refine V_icmp_lt G eX12_standing_50 h (fun h => ?_) (fun h => ?_)
            · refine V_iconst (n := 0) (v := (nI 0)) G eX12_standing_57 rfl ?_
              cases h; exact V_sub (lS_s (lS_s (lS_s (lS_n (lS_s (lS_s lS_0)))))) J
            · refine V_iconst (n := 1) (v := (nI 1)) G eX12_standing_53 rfl ?_
              refine V_goto G eX12_standing_54 ?_
              cases h; exact V_sub (lS_s (lS_s (lS_s (lS_n (lS_s (lS_s lS_0)))))) J
set_option maxRecDepth 100000 in
set_option maxHeartbeats 4000000 in
theorem M_standing_run {p : Program} {l : Launch} {e : Env} {R : Room} {s : State} {m : MethodId} {args : Array Value} {below : List Frame} {meth : Method} {c : Code} {w : Wld} (G : Cxt p R s m args meth c w cX12_standing 6 "PotBookModel" 1 0 0) (hr : meth.sig.returnType = some .int) {a1 : Int32} {a2 : Int32} {μ : Mem} {r : Int32} (h : M_standing a1 a2 μ = some r) : Vj p l e R s m args below meth c w 6 0 0 (MQ below (QI w r μ) args s 0 0 w.2.2.2) 0 [some (.ref (wad w 12 0)), some (.int a1), some (.int a2), none, none, none] [] μ := by
  unfold M_standing at h
  refine V_iconst (n := 0) (v := (nI 0)) G eX12_standing_0 rfl ?_
  refine V_istoreA_n (i := 3) (L' := [some (.ref (wad w 12 0)), some (.int a1), some (.int a2), some (.int (nI 0)), none, none]) G rfl eX12_standing_1 (by decide) rfl rfl ?_
  refine V_iconst (n := 0) (v := (nI 0)) G eX12_standing_2 rfl ?_
  refine V_istoreA (i := 4) (L' := [some (.ref (wad w 12 0)), some (.int a1), some (.int a2), some (.int (nI 0)), some (.int (nI 0)), none]) G eX12_standing_3 (by decide) rfl rfl ?_
  refine V_iconst (n := 0) (v := (nI 0)) G eX12_standing_5 rfl ?_
  refine V_istoreA (i := 5) (L' := [some (.ref (wad w 12 0)), some (.int a1), some (.int a2), some (.int (nI 0)), some (.int (nI 0)), some (.int (nI 0))]) G eX12_standing_6 (by decide) rfl rfl ?_
  obtain ⟨⟨x1, x2⟩, h1, h⟩ := bdS h
  refine M_standing_l1_ok G h1 ?_
  refine V_iload_n (i := 3) G eX12_standing_109 rfl rfl ?_
  refine V_iload G eX12_standing_110 rfl ?_
  refine V_icmp_ne G eX12_standing_112 h (fun h => ?_) (fun h => ?_)
  · refine V_iload_n (i := 3) G eX12_standing_119 rfl rfl ?_
    refine V_if_eq G eX12_standing_120 h (fun h => ?_) (fun h => ?_)
    · refine V_iconst (n := 0) (v := (nI 0)) G eX12_standing_127 rfl ?_
      exact V_ri G hr eX12_standing_128 h
    · refine V_iconst (n := 1) (v := (nI 1)) G eX12_standing_123 rfl ?_
      refine V_goto G eX12_standing_124 ?_
      exact V_ri G hr eX12_standing_128 h
  · refine V_iconst (n := -1) (v := (-1)) G eX12_standing_115 rfl ?_
    refine V_goto G eX12_standing_116 ?_
    exact V_ri G hr eX12_standing_128 h
theorem M_standing_ok {l : Launch} {w : Wld} {a1 : Int32} {a2 : Int32} {μ : Mem} {r : Int32} (h : M_standing a1 a2 μ = some r) : CtI l w yX12_standing cX12_standing 6 .int 1 [.ref (wad w 12 0), .int a1, .int a2] μ r μ :=
  Ct_of (own := "PotBookModel") [some (.ref (wad w 12 0)), some (.int a1), some (.int a2), none, none, none] (by decide +kernel) rfl rfl (Nat.le_of_ble_eq_true rfl) fun p e s m args below meth c G hr => M_standing_run G hr h
set_option maxRecDepth 100000 in
set_option maxHeartbeats 4000000 in
theorem M_stands_run {p : Program} {l : Launch} {e : Env} {R : Room} {s : State} {m : MethodId} {args : Array Value} {below : List Frame} {meth : Method} {c : Code} {w : Wld} (G : Cxt p R s m args meth c w cX12_stands 4 "PotBookModel" 9 0 0) (hr : meth.sig.returnType = some .int) {a1 : Int32} {a2 : Int32} {a3 : Int32} {μ : Mem} {r : Int32} {μ' : Mem} (h : M_stands a1 a2 a3 μ = some (r, μ')) : Vj p l e R s m args below meth c w 4 0 0 (MQ below (QI w r μ') args s 0 0 w.2.2.2) 0 [some (.ref (wad w 12 0)), some (.int a1), some (.int a2), some (.int a3)] [] μ := by
  unfold M_stands at h
  refine V_aload_n (i := 0) G eX12_stands_0 rfl rfl ?_
  refine V_iload_n (i := 3) G eX12_stands_1 rfl rfl ?_
  obtain ⟨x1, h1, h⟩ := bdS h
  refine V_callI (As := [.int a3]) (st := []) G lkX12_341 (M_isLaw_ok h1) (by decide) rfl rfl (Nat.le_of_ble_eq_true rfl) eX12_stands_2 ?_
  refine V_if_eq G eX12_stands_5 h (fun h => ?_) (fun h => ?_)
  · refine V_iconst (n := -1) (v := (-1)) G eX12_stands_30 rfl ?_
    exact V_riM G hr eX12_stands_31 h
  · refine V_aload_n (i := 0) G eX12_stands_8 rfl rfl ?_
    refine V_iload_n (i := 1) G eX12_stands_9 rfl rfl ?_
    obtain ⟨⟨x2, μ3⟩, h1, h⟩ := bdS h
    refine V_callI (As := [.int a1]) (st := []) G lkX12_376 (M_isTold_ok h1) (by decide) rfl rfl (Nat.le_of_ble_eq_true rfl) eX12_stands_10 ?_
    refine V_if_eq G eX12_stands_13 h (fun h => ?_) (fun h => ?_)
    · refine V_iconst (n := -1) (v := (-1)) G eX12_stands_30 rfl ?_
      exact V_riM G hr eX12_stands_31 h
    · refine V_iload_n (i := 2) G eX12_stands_16 rfl rfl ?_
      refine V_iconst (n := 0) (v := (nI 0)) G eX12_stands_17 rfl ?_
      refine V_aload_n (i := 0) G eX12_stands_18 rfl rfl ?_
      refine V_get (v := .int (mI μ3 1342 0 0)) G fgX12_361 rfl eX12_stands_19 ?_
      refine V_iconst (n := 1) (v := (nI 1)) G eX12_stands_22 rfl ?_
      refine V_isub G eX12_stands_23 ?_
      obtain ⟨x4, h1, h⟩ := bdS h
      refine V_callIS (As := [.int a2, .int (nI 0), .int ((mI μ3 1342 0 0) - (nI 1))]) (st := []) G lkX12_198 (M_in_ok (μ := μ3) h1) (by decide) rfl rfl (Nat.le_of_ble_eq_true rfl) eX12_stands_24 ?_
      refine V_if_ne G eX12_stands_27 h (fun h => ?_) (fun h => ?_)
      · refine V_aload_n (i := 0) G eX12_stands_32 rfl rfl ?_
        refine V_iload_n (i := 1) G eX12_stands_33 rfl rfl ?_
        refine V_iload_n (i := 2) G eX12_stands_34 rfl rfl ?_
        obtain ⟨μ5, h1, h⟩ := bdS h
        refine V_callV (As := [.int a1, .int a2]) (st := []) G lkX12_379 (M_go_ok h1) (by decide) rfl rfl (Nat.le_of_ble_eq_true rfl) eX12_stands_35 ?_
        refine V_aload_n (i := 0) G eX12_stands_38 rfl rfl ?_
        refine V_iload_n (i := 3) G eX12_stands_39 rfl rfl ?_
        refine V_aload_n (i := 0) G eX12_stands_40 rfl rfl ?_
        refine V_iload_n (i := 3) G eX12_stands_41 rfl rfl ?_
        obtain ⟨⟨x6, μ7⟩, h1, h⟩ := bdS h
        refine V_callI (As := [.int a3]) (st := [.int a3, .ref (wad w 12 0)]) G lkX12_355 (M_worthNow_ok h1) (by decide) rfl rfl (Nat.le_of_ble_eq_true rfl) eX12_stands_42 ?_
        obtain ⟨x8, h1, h⟩ := bdS h
        refine V_callI (As := [.int a3, .int x6]) (st := []) G lkX12_391 (M_standing_ok h1) (by decide) rfl rfl (Nat.le_of_ble_eq_true rfl) eX12_stands_45 ?_
        exact V_riM G hr eX12_stands_48 h
      · refine V_iconst (n := -1) (v := (-1)) G eX12_stands_30 rfl ?_
        exact V_riM G hr eX12_stands_31 h
theorem M_stands_ok {l : Launch} {w : Wld} {a1 : Int32} {a2 : Int32} {a3 : Int32} {μ : Mem} {r : Int32} {μ' : Mem} (h : M_stands a1 a2 a3 μ = some (r, μ')) : CtI l w yX12_stands cX12_stands 4 .int 9 [.ref (wad w 12 0), .int a1, .int a2, .int a3] μ r μ' :=
  Ct_of (own := "PotBookModel") [some (.ref (wad w 12 0)), some (.int a1), some (.int a2), some (.int a3)] (by decide +kernel) rfl rfl (Nat.le_of_ble_eq_true rfl) fun p e s m args below meth c G hr => M_stands_run G hr h
set_option maxRecDepth 100000 in
set_option maxHeartbeats 4000000 in
theorem M_stand_l1_ok {p : Program} {l : Launch} {e : Env} {R : Room} {s : State} {m : MethodId} {args : Array Value} {below : List Frame} {meth : Method} {c : Code} {w : Wld} {Q : State → Prop} (G : Cxt p R s m args meth c w cX12_stand 6 "PotBookModel" 9 0 0) {v1 : Int32} {v2 : Int32} {v3 : Int32} {o1 : Int32} {μo : Mem} : ∀ {n : Nat} {v4 : Int32} {v5 : Int32} {μ : Mem}, M_stand_l1 v1 v2 v3 n v4 v5 μ = some (o1, μo) → Vj p l e R s m args below meth c w 6 0 0 Q 79 [none, none, none, none, some (.int o1), none] [] μo → Vj p l e R s m args below meth c w 6 0 0 Q 33 [some (.ref (wad w 12 0)), some (.int v1), some (.int v2), some (.int v3), some (.int v4), some (.int v5)] [] μ := by
  intro n
  induction n with
  | zero => intro v4 v5 μ h K; exact noS h
  | succ n ih =>
    intro v4 v5 μ h K
    replace h : M_stand_l1b v1 v2 v3 (M_stand_l1 v1 v2 v3 n) v4 v5 μ = some (o1, μo) := h
    unfold M_stand_l1b at h
    refine V_iload G eX12_stand_33 rfl ?_
    refine V_aload_n (i := 0) G eX12_stand_35 rfl rfl ?_
    refine V_get (v := .int (mI μ 1342 0 0)) G fgX12_361 rfl eX12_stand_36 ?_
    refine V_icmp_ge G eX12_stand_39 h (fun h => ?_) (fun h => ?_)
    · cases h; exact V_sub (lS_n (lS_n (lS_n (lS_n (lS_s (lS_n lS_0)))))) K
    · refine V_aload_n (i := 0) G eX12_stand_42 rfl rfl ?_
      refine V_iload_n (i := 1) G eX12_stand_43 rfl rfl ?_
      refine V_iload G eX12_stand_44 rfl ?_
      obtain ⟨μ1, h1, h⟩ := bdS h
      refine V_callV (As := [.int v1, .int v5]) (st := []) G lkX12_379 (M_go_ok h1) (by decide) rfl rfl (Nat.le_of_ble_eq_true rfl) eX12_stand_46 ?_
      refine V_iload G eX12_stand_49 rfl ?_
      refine V_aload_n (i := 0) G eX12_stand_51 rfl rfl ?_
      refine V_iload_n (i := 2) G eX12_stand_52 rfl rfl ?_
      refine V_aload_n (i := 0) G eX12_stand_53 rfl rfl ?_
      refine V_iload_n (i := 2) G eX12_stand_54 rfl rfl ?_
      obtain ⟨⟨x2, μ3⟩, h1, h⟩ := bdS h
      refine V_callI (As := [.int v2]) (st := [.int v2, .ref (wad w 12 0), .int v4]) G lkX12_355 (M_worthNow_ok h1) (by decide) rfl rfl (Nat.le_of_ble_eq_true rfl) eX12_stand_55 ?_
      obtain ⟨x4, h1, h⟩ := bdS h
      refine V_callI (As := [.int v2, .int x2]) (st := [.int v4]) G lkX12_391 (M_standing_ok h1) (by decide) rfl rfl (Nat.le_of_ble_eq_true rfl) eX12_stand_58 ?_
      refine V_iload_n (i := 3) G eX12_stand_61 rfl rfl ?_
      obtain ⟨x5, hj, h⟩ := bdS h
      have J : Vj p l e R s m args below meth c w 6 0 0 Q 70 [some (.ref (wad w 12 0)), some (.int v1), some (.int v2), some (.int v3), none, some (.int v5)] [.int x5, .int v4] μ3 := by
        clear hj
        refine V_iadd G eX12_stand_70 ?_
        refine V_istore (i := 4) (L' := (fun x6 => [some (.ref (wad w 12 0)), some (.int v1), some (.int v2), some (.int v3), some (.int x6), some (.int v5)])) G eX12_stand_71 (by decide) rfl (fun _ => rfl) h (fun x6 h => ?_)
        refine V_iinc (z := (nI 1)) (L' := (fun x7 => [some (.ref (wad w 12 0)), some (.int v1), some (.int v2), some (.int v3), some (.int x6), some (.int x7)])) G eX12_stand_73 rfl rfl (by decide) rfl (fun _ => rfl) h (fun x7 h => ?_)
        refine V_goto G eX12_stand_76 ?_
        exact (ih h K)
      replace h := hj
      clear hj
      refine V_icmp_ne G eX12_stand_62 h (fun h => ?_) (fun h => ?_)
      · refine V_iconst (n := 0) (v := (nI 0)) G eX12_stand_69 rfl ?_
        cases h; exact V_sub (lS_s (lS_s (lS_s (lS_s (lS_n (lS_s lS_0)))))) J
      · refine V_iconst (n := 1) (v := (nI 1)) G eX12_stand_65 rfl ?_
        refine V_goto G eX12_stand_66 ?_
        cases h; exact V_sub (lS_s (lS_s (lS_s (lS_s (lS_n (lS_s lS_0)))))) J
set_option maxRecDepth 100000 in
set_option maxHeartbeats 4000000 in
theorem M_stand_run {p : Program} {l : Launch} {e : Env} {R : Room} {s : State} {m : MethodId} {args : Array Value} {below : List Frame} {meth : Method} {c : Code} {w : Wld} (G : Cxt p R s m args meth c w cX12_stand 6 "PotBookModel" 9 0 0) (hr : meth.sig.returnType = some .int) {a1 : Int32} {a2 : Int32} {a3 : Int32} {μ : Mem} {r : Int32} {μ' : Mem} (h : M_stand a1 a2 a3 μ = some (r, μ')) : Vj p l e R s m args below meth c w 6 0 0 (MQ below (QI w r μ') args s 0 0 w.2.2.2) 0 [some (.ref (wad w 12 0)), some (.int a1), some (.int a2), some (.int a3), none, none] [] μ := by
  unfold M_stand at h
  refine V_aload_n (i := 0) G eX12_stand_0 rfl rfl ?_
  refine V_iload_n (i := 2) G eX12_stand_1 rfl rfl ?_
  obtain ⟨x1, h1, h⟩ := bdS h
  refine V_callI (As := [.int a2]) (st := []) G lkX12_341 (M_isLaw_ok h1) (by decide) rfl rfl (Nat.le_of_ble_eq_true rfl) eX12_stand_2 ?_
  refine V_if_eq G eX12_stand_5 h (fun h => ?_) (fun h => ?_)
  · refine V_iconst (n := -1) (v := (-1)) G eX12_stand_25 rfl ?_
    exact V_riM G hr eX12_stand_26 h
  · refine V_iload_n (i := 3) G eX12_stand_8 rfl rfl ?_
    refine V_iconst (n := 0) (v := (nI 0)) G eX12_stand_9 rfl ?_
    refine V_iconst (n := 1) (v := (nI 1)) G eX12_stand_10 rfl ?_
    obtain ⟨x2, h1, h⟩ := bdS h
    refine V_callIS (As := [.int a3, .int (nI 0), .int (nI 1)]) (st := []) G lkX12_198 (M_in_ok (μ := μ) h1) (by decide) rfl rfl (Nat.le_of_ble_eq_true rfl) eX12_stand_11 ?_
    refine V_if_eq G eX12_stand_14 h (fun h => ?_) (fun h => ?_)
    · refine V_iconst (n := -1) (v := (-1)) G eX12_stand_25 rfl ?_
      exact V_riM G hr eX12_stand_26 h
    · refine V_aload_n (i := 0) G eX12_stand_17 rfl rfl ?_
      refine V_iload_n (i := 1) G eX12_stand_18 rfl rfl ?_
      obtain ⟨⟨x3, μ4⟩, h1, h⟩ := bdS h
      refine V_callI (As := [.int a1]) (st := []) G lkX12_376 (M_isTold_ok h1) (by decide) rfl rfl (Nat.le_of_ble_eq_true rfl) eX12_stand_19 ?_
      refine V_if_ne G eX12_stand_22 h (fun h => ?_) (fun h => ?_)
      · refine V_iconst (n := 0) (v := (nI 0)) G eX12_stand_27 rfl ?_
        refine V_istoreA (i := 4) (L' := [some (.ref (wad w 12 0)), some (.int a1), some (.int a2), some (.int a3), some (.int (nI 0)), none]) G eX12_stand_28 (by decide) rfl rfl ?_
        refine V_iconst (n := 0) (v := (nI 0)) G eX12_stand_30 rfl ?_
        refine V_istoreA (i := 5) (L' := [some (.ref (wad w 12 0)), some (.int a1), some (.int a2), some (.int a3), some (.int (nI 0)), some (.int (nI 0))]) G eX12_stand_31 (by decide) rfl rfl ?_
        obtain ⟨⟨x5, μ6⟩, h1, h⟩ := bdS h
        refine M_stand_l1_ok G h1 ?_
        refine V_iload G eX12_stand_79 rfl ?_
        exact V_riM G hr eX12_stand_81 h
      · refine V_iconst (n := -1) (v := (-1)) G eX12_stand_25 rfl ?_
        exact V_riM G hr eX12_stand_26 h
theorem M_stand_ok {l : Launch} {w : Wld} {a1 : Int32} {a2 : Int32} {a3 : Int32} {μ : Mem} {r : Int32} {μ' : Mem} (h : M_stand a1 a2 a3 μ = some (r, μ')) : CtI l w yX12_stand cX12_stand 6 .int 9 [.ref (wad w 12 0), .int a1, .int a2, .int a3] μ r μ' :=
  Ct_of (own := "PotBookModel") [some (.ref (wad w 12 0)), some (.int a1), some (.int a2), some (.int a3), none, none] (by decide +kernel) rfl rfl (Nat.le_of_ble_eq_true rfl) fun p e s m args below meth c G hr => M_stand_run G hr h
set_option maxRecDepth 100000 in
set_option maxHeartbeats 4000000 in
theorem M_book_run {p : Program} {l : Launch} {e : Env} {R : Room} {s : State} {m : MethodId} {args : Array Value} {below : List Frame} {meth : Method} {c : Code} {w : Wld} (G : Cxt p R s m args meth c w cX12_book 2 "PotBookModel" 2 0 0) (hr : meth.sig.returnType = some .int) {a1 : Int32} {μ : Mem} {r : Int32} {μ' : Mem} (h : M_book a1 μ = some (r, μ')) : Vj p l e R s m args below meth c w 2 0 0 (MQ below (QI w r μ') args s 0 0 w.2.2.2) 0 [some (.ref (wad w 12 0)), some (.int a1)] [] μ := by
  unfold M_book at h
  refine V_iload_n (i := 1) G eX12_book_0 rfl rfl ?_
  refine V_iconst (n := -1) (v := (-1)) G eX12_book_1 rfl ?_
  refine V_aload_n (i := 0) G eX12_book_2 rfl rfl ?_
  refine V_get (v := .int (mI μ 1354 0 0)) G fgX12_394 rfl eX12_book_3 ?_
  refine V_iconst (n := 1) (v := (nI 1)) G eX12_book_6 rfl ?_
  refine V_isub G eX12_book_7 ?_
  obtain ⟨x1, h1, h⟩ := bdS h
  refine V_callIS (As := [.int a1, .int (-1), .int ((mI μ 1354 0 0) - (nI 1))]) (st := []) G lkX12_198 (M_in_ok (μ := μ) h1) (by decide) rfl rfl (Nat.le_of_ble_eq_true rfl) eX12_book_8 ?_
  refine V_if_eq G eX12_book_11 h (fun h => ?_) (fun h => ?_)
  · refine V_iconst (n := -1) (v := (-1)) G eX12_book_23 rfl ?_
    exact V_riM G hr eX12_book_24 h
  · refine V_aload_n (i := 0) G eX12_book_14 rfl rfl ?_
    refine V_get (v := .int (mI μ 1354 0 0)) G fgX12_394 rfl eX12_book_15 ?_
    refine V_bipush (n := 12) (v := (nI 12)) G eX12_book_18 rfl ?_
    refine V_icmp_ne G eX12_book_20 h (fun h => ?_) (fun h => ?_)
    · refine V_aload_n (i := 0) G eX12_book_25 rfl rfl ?_
      refine V_get (v := .ref (wad w 1350 0)) G fgX12_123 rfl eX12_book_26 ?_
      refine V_aload_n (i := 0) G eX12_book_29 rfl rfl ?_
      refine V_get (v := .int (mI μ 1354 0 0)) G fgX12_394 rfl eX12_book_30 ?_
      refine V_iload_n (i := 1) G eX12_book_33 rfl rfl ?_
      refine V_iast G al_1350 (by decide) eX12_book_34 h (fun μ2 h => ?_)
      refine V_aload_n (i := 0) G eX12_book_35 rfl rfl ?_
      refine V_get (v := .ref (wad w 1351 0)) G fgX12_126 rfl eX12_book_36 ?_
      refine V_aload_n (i := 0) G eX12_book_39 rfl rfl ?_
      refine V_get (v := .int (mI μ2 1354 0 0)) G fgX12_394 rfl eX12_book_40 ?_
      refine V_iconst (n := -1) (v := (-1)) G eX12_book_43 rfl ?_
      refine V_iast G al_1351 (by decide) eX12_book_44 h (fun μ3 h => ?_)
      refine V_aload_n (i := 0) G eX12_book_45 rfl rfl ?_
      refine V_dup G eX12_book_46 rfl ?_
      refine V_get (v := .int (mI μ3 1354 0 0)) G fgX12_394 rfl eX12_book_47 ?_
      refine V_iconst (n := 1) (v := (nI 1)) G eX12_book_50 rfl ?_
      refine V_iadd G eX12_book_51 ?_
      refine V_put G fgX12_394 fp_12_54 eX12_book_52 h (fun μ4 h => ?_)
      refine V_aload_n (i := 0) G eX12_book_55 rfl rfl ?_
      refine V_get (v := .int (mI μ4 1354 0 0)) G fgX12_394 rfl eX12_book_56 ?_
      refine V_iconst (n := 1) (v := (nI 1)) G eX12_book_59 rfl ?_
      refine V_isub G eX12_book_60 ?_
      exact V_riM G hr eX12_book_61 h
    · refine V_iconst (n := -1) (v := (-1)) G eX12_book_23 rfl ?_
      exact V_riM G hr eX12_book_24 h
theorem M_book_ok {l : Launch} {w : Wld} {a1 : Int32} {μ : Mem} {r : Int32} {μ' : Mem} (h : M_book a1 μ = some (r, μ')) : CtI l w yX12_book cX12_book 2 .int 2 [.ref (wad w 12 0), .int a1] μ r μ' :=
  Ct_of (own := "PotBookModel") [some (.ref (wad w 12 0)), some (.int a1)] (by decide +kernel) rfl rfl (Nat.le_of_ble_eq_true rfl) fun p e s m args below meth c G hr => M_book_run G hr h
set_option maxRecDepth 100000 in
set_option maxHeartbeats 4000000 in
theorem M_slip_run {p : Program} {l : Launch} {e : Env} {R : Room} {s : State} {m : MethodId} {args : Array Value} {below : List Frame} {meth : Method} {c : Code} {w : Wld} (G : Cxt p R s m args meth c w cX12_slip 4 "PotBookModel" 2 0 0) (hr : meth.sig.returnType = some .boolean) {a1 : Int32} {a2 : Int32} {a3 : Int32} {μ : Mem} {r : Int32} {μ' : Mem} (h : M_slip a1 a2 a3 μ = some (r, μ')) : Vj p l e R s m args below meth c w 4 0 0 (MQ below (QI w r μ') args s 0 0 w.2.2.2) 0 [some (.ref (wad w 12 0)), some (.int a1), some (.int a2), some (.int a3)] [] μ := by
  unfold M_slip at h
  refine V_iload_n (i := 1) G eX12_slip_0 rfl rfl ?_
  refine V_iconst (n := 0) (v := (nI 0)) G eX12_slip_1 rfl ?_
  refine V_bipush (n := 7) (v := (nI 7)) G eX12_slip_2 rfl ?_
  obtain ⟨x1, h1, h⟩ := bdS h
  refine V_callIS (As := [.int a1, .int (nI 0), .int (nI 7)]) (st := []) G lkX12_198 (M_in_ok (μ := μ) h1) (by decide) rfl rfl (Nat.le_of_ble_eq_true rfl) eX12_slip_4 ?_
  refine V_if_eq G eX12_slip_7 h (fun h => ?_) (fun h => ?_)
  · refine V_iconst (n := 0) (v := (nI 0)) G eX12_slip_35 rfl ?_
    exact V_rzM G hr eX12_slip_36 h
  · refine V_iload_n (i := 2) G eX12_slip_10 rfl rfl ?_
    refine V_iconst (n := 0) (v := (nI 0)) G eX12_slip_11 rfl ?_
    refine V_bipush (n := 7) (v := (nI 7)) G eX12_slip_12 rfl ?_
    obtain ⟨x2, h1, h⟩ := bdS h
    refine V_callIS (As := [.int a2, .int (nI 0), .int (nI 7)]) (st := []) G lkX12_198 (M_in_ok (μ := μ) h1) (by decide) rfl rfl (Nat.le_of_ble_eq_true rfl) eX12_slip_14 ?_
    refine V_if_eq G eX12_slip_17 h (fun h => ?_) (fun h => ?_)
    · refine V_iconst (n := 0) (v := (nI 0)) G eX12_slip_35 rfl ?_
      exact V_rzM G hr eX12_slip_36 h
    · refine V_iload_n (i := 1) G eX12_slip_20 rfl rfl ?_
      refine V_iload_n (i := 2) G eX12_slip_21 rfl rfl ?_
      refine V_icmp_eq G eX12_slip_22 h (fun h => ?_) (fun h => ?_)
      · refine V_iconst (n := 0) (v := (nI 0)) G eX12_slip_35 rfl ?_
        exact V_rzM G hr eX12_slip_36 h
      · refine V_iload_n (i := 3) G eX12_slip_25 rfl rfl ?_
        refine V_iconst (n := 0) (v := (nI 0)) G eX12_slip_26 rfl ?_
        refine V_bipush (n := 99) (v := (nI 99)) G eX12_slip_27 rfl ?_
        obtain ⟨x3, h1, h⟩ := bdS h
        refine V_callIS (As := [.int a3, .int (nI 0), .int (nI 99)]) (st := []) G lkX12_198 (M_in_ok (μ := μ) h1) (by decide) rfl rfl (Nat.le_of_ble_eq_true rfl) eX12_slip_29 ?_
        refine V_if_ne G eX12_slip_32 h (fun h => ?_) (fun h => ?_)
        · refine V_aload_n (i := 0) G eX12_slip_37 rfl rfl ?_
          refine V_get (v := .ref (wad w 1349 0)) G fgX12_120 rfl eX12_slip_38 ?_
          refine V_bipush (n := 8) (v := (nI 8)) G eX12_slip_41 rfl ?_
          refine V_iload_n (i := 1) G eX12_slip_43 rfl rfl ?_
          refine V_imul G eX12_slip_44 ?_
          refine V_iload_n (i := 2) G eX12_slip_45 rfl rfl ?_
          refine V_iadd G eX12_slip_46 ?_
          refine V_iload_n (i := 3) G eX12_slip_47 rfl rfl ?_
          refine V_iast G al_1349 (by decide) eX12_slip_48 h (fun μ4 h => ?_)
          refine V_iconst (n := 1) (v := (nI 1)) G eX12_slip_49 rfl ?_
          exact V_rzM G hr eX12_slip_50 h
        · refine V_iconst (n := 0) (v := (nI 0)) G eX12_slip_35 rfl ?_
          exact V_rzM G hr eX12_slip_36 h
theorem M_slip_ok {l : Launch} {w : Wld} {a1 : Int32} {a2 : Int32} {a3 : Int32} {μ : Mem} {r : Int32} {μ' : Mem} (h : M_slip a1 a2 a3 μ = some (r, μ')) : CtI l w yX12_slip cX12_slip 4 .boolean 2 [.ref (wad w 12 0), .int a1, .int a2, .int a3] μ r μ' :=
  Ct_of (own := "PotBookModel") [some (.ref (wad w 12 0)), some (.int a1), some (.int a2), some (.int a3)] (by decide +kernel) rfl rfl (Nat.le_of_ble_eq_true rfl) fun p e s m args below meth c G hr => M_slip_run G hr h
set_option maxRecDepth 100000 in
set_option maxHeartbeats 4000000 in
theorem M_reads_run {p : Program} {l : Launch} {e : Env} {R : Room} {s : State} {m : MethodId} {args : Array Value} {below : List Frame} {meth : Method} {c : Code} {w : Wld} (G : Cxt p R s m args meth c w cX12_reads 3 "PotBookModel" 2 0 0) (hr : meth.sig.returnType = some .boolean) {a1 : Int32} {a2 : Int32} {μ : Mem} {r : Int32} {μ' : Mem} (h : M_reads a1 a2 μ = some (r, μ')) : Vj p l e R s m args below meth c w 3 0 0 (MQ below (QI w r μ') args s 0 0 w.2.2.2) 0 [some (.ref (wad w 12 0)), some (.int a1), some (.int a2)] [] μ := by
  unfold M_reads at h
  refine V_iload_n (i := 1) G eX12_reads_0 rfl rfl ?_
  refine V_iconst (n := 0) (v := (nI 0)) G eX12_reads_1 rfl ?_
  refine V_aload_n (i := 0) G eX12_reads_2 rfl rfl ?_
  refine V_get (v := .int (mI μ 1354 0 0)) G fgX12_394 rfl eX12_reads_3 ?_
  refine V_iconst (n := 1) (v := (nI 1)) G eX12_reads_6 rfl ?_
  refine V_isub G eX12_reads_7 ?_
  obtain ⟨x1, h1, h⟩ := bdS h
  refine V_callIS (As := [.int a1, .int (nI 0), .int ((mI μ 1354 0 0) - (nI 1))]) (st := []) G lkX12_198 (M_in_ok (μ := μ) h1) (by decide) rfl rfl (Nat.le_of_ble_eq_true rfl) eX12_reads_8 ?_
  refine V_if_eq G eX12_reads_11 h (fun h => ?_) (fun h => ?_)
  · refine V_iconst (n := 0) (v := (nI 0)) G eX12_reads_24 rfl ?_
    exact V_rzM G hr eX12_reads_25 h
  · refine V_iload_n (i := 2) G eX12_reads_14 rfl rfl ?_
    refine V_iconst (n := -1) (v := (-1)) G eX12_reads_15 rfl ?_
    refine V_bipush (n := 7) (v := (nI 7)) G eX12_reads_16 rfl ?_
    obtain ⟨x2, h1, h⟩ := bdS h
    refine V_callIS (As := [.int a2, .int (-1), .int (nI 7)]) (st := []) G lkX12_198 (M_in_ok (μ := μ) h1) (by decide) rfl rfl (Nat.le_of_ble_eq_true rfl) eX12_reads_18 ?_
    refine V_if_ne G eX12_reads_21 h (fun h => ?_) (fun h => ?_)
    · refine V_aload_n (i := 0) G eX12_reads_26 rfl rfl ?_
      refine V_get (v := .ref (wad w 1351 0)) G fgX12_126 rfl eX12_reads_27 ?_
      refine V_iload_n (i := 1) G eX12_reads_30 rfl rfl ?_
      refine V_iload_n (i := 2) G eX12_reads_31 rfl rfl ?_
      refine V_iast G al_1351 (by decide) eX12_reads_32 h (fun μ3 h => ?_)
      refine V_iconst (n := 1) (v := (nI 1)) G eX12_reads_33 rfl ?_
      exact V_rzM G hr eX12_reads_34 h
    · refine V_iconst (n := 0) (v := (nI 0)) G eX12_reads_24 rfl ?_
      exact V_rzM G hr eX12_reads_25 h
theorem M_reads_ok {l : Launch} {w : Wld} {a1 : Int32} {a2 : Int32} {μ : Mem} {r : Int32} {μ' : Mem} (h : M_reads a1 a2 μ = some (r, μ')) : CtI l w yX12_reads cX12_reads 3 .boolean 2 [.ref (wad w 12 0), .int a1, .int a2] μ r μ' :=
  Ct_of (own := "PotBookModel") [some (.ref (wad w 12 0)), some (.int a1), some (.int a2)] (by decide +kernel) rfl rfl (Nat.le_of_ble_eq_true rfl) fun p e s m args below meth c G hr => M_reads_run G hr h
set_option maxRecDepth 100000 in
set_option maxHeartbeats 4000000 in
theorem M_hang_l1_ok {p : Program} {l : Launch} {e : Env} {R : Room} {s : State} {m : MethodId} {args : Array Value} {below : List Frame} {meth : Method} {c : Code} {w : Wld} {Q : State → Prop} (G : Cxt p R s m args meth c w cX12_hang 9 "PotBookModel" 2 0 0) {v1 : Int32} {v2 : Int32} {v3 : Int32} {μ : Mem} {o1 : Int32} {o2 : Int64} : ∀ {n : Nat} {v4 : Int32} {v5 : Int64} {v7 : Int32}, M_hang_l1 v1 v2 v3 μ n v4 v5 v7 = some (o1, o2) → Vj p l e R s m args below meth c w 9 0 0 Q 119 [some (.ref (wad w 12 0)), some (.int v1), none, some (.int v3), some (.int o1), some (.long o2), none, none, none] [] μ → Vj p l e R s m args below meth c w 9 0 0 Q 11 [some (.ref (wad w 12 0)), some (.int v1), some (.int v2), some (.int v3), some (.int v4), some (.long v5), none, some (.int v7), none] [] μ := by
  intro n
  induction n with
  | zero => intro v4 v5 v7 h K; exact noS h
  | succ n ih =>
    intro v4 v5 v7 h K
    replace h : M_hang_l1b v1 v2 v3 μ (M_hang_l1 v1 v2 v3 μ n) v4 v5 v7 = some (o1, o2) := h
    unfold M_hang_l1b at h
    refine V_iload G eX12_hang_11 rfl ?_
    refine V_bipush (n := 8) (v := (nI 8)) G eX12_hang_13 rfl ?_
    refine V_icmp_ge G eX12_hang_15 h (fun h => ?_) (fun h => ?_)
    · cases h; exact V_sub (lS_s (lS_s (lS_n (lS_s (lS_s (lS_s (lS_n (lS_n (lS_n lS_0))))))))) K
    · refine V_aload_n (i := 0) G eX12_hang_18 rfl rfl ?_
      refine V_get (v := .ref (wad w 1349 0)) G fgX12_120 rfl eX12_hang_19 ?_
      refine V_bipush (n := 8) (v := (nI 8)) G eX12_hang_22 rfl ?_
      refine V_iload_n (i := 3) G eX12_hang_24 rfl rfl ?_
      refine V_imul G eX12_hang_25 ?_
      refine V_iload G eX12_hang_26 rfl ?_
      refine V_iadd G eX12_hang_28 ?_
      refine V_iald G al_1349 (by decide) eX12_hang_29 h (fun x1 h => ?_)
      refine V_aload_n (i := 0) G eX12_hang_30 rfl rfl ?_
      refine V_get (v := .ref (wad w 1352 0)) G fgX12_129 rfl eX12_hang_31 ?_
      refine V_bipush (n := 8) (v := (nI 8)) G eX12_hang_34 rfl ?_
      refine V_iload_n (i := 2) G eX12_hang_36 rfl rfl ?_
      refine V_imul G eX12_hang_37 ?_
      refine V_iload G eX12_hang_38 rfl ?_
      refine V_iadd G eX12_hang_40 ?_
      refine V_iald G al_1352 (by decide) eX12_hang_41 h (fun x2 h => ?_)
      refine V_iadd G eX12_hang_42 ?_
      refine V_istore (i := 8) (L' := (fun x3 => [some (.ref (wad w 12 0)), some (.int v1), some (.int v2), some (.int v3), some (.int v4), some (.long v5), none, some (.int v7), some (.int x3)])) G eX12_hang_43 (by decide) rfl (fun _ => rfl) h (fun x3 h => ?_)
      refine V_aload_n (i := 0) G eX12_hang_45 rfl rfl ?_
      refine V_get (v := .ref (wad w 1352 0)) G fgX12_129 rfl eX12_hang_46 ?_
      refine V_bipush (n := 8) (v := (nI 8)) G eX12_hang_49 rfl ?_
      refine V_iload_n (i := 2) G eX12_hang_51 rfl rfl ?_
      refine V_imul G eX12_hang_52 ?_
      refine V_iload G eX12_hang_53 rfl ?_
      refine V_iadd G eX12_hang_55 ?_
      refine V_iald G al_1352 (by decide) eX12_hang_56 h (fun x4 h => ?_)
      refine V_ldcw (v := (nI 100000000)) G cnI_X12_397 eX12_hang_57 ?_
      obtain ⟨⟨x8, x9⟩, hj, h⟩ := bdS h
      have J : Vj p l e R s m args below meth c w 9 0 0 Q 113 [some (.ref (wad w 12 0)), some (.int v1), some (.int v2), some (.int v3), some (.int x8), some (.long x9), none, some (.int v7), none] [] μ := by
        clear hj
        refine V_iinc (z := (nI 1)) (L' := (fun x10 => [some (.ref (wad w 12 0)), some (.int v1), some (.int v2), some (.int v3), some (.int x8), some (.long x9), none, some (.int x10), none])) G eX12_hang_113 rfl rfl (by decide) rfl (fun _ => rfl) h (fun x10 h => ?_)
        refine V_goto G eX12_hang_116 ?_
        exact (ih h K)
      replace h := hj
      clear hj
      refine V_icmp_ge G eX12_hang_60 h (fun h => ?_) (fun h => ?_)
      · cases h; exact V_sub (lS_s (lS_s (lS_s (lS_s (lS_s (lS_s (lS_n (lS_s (lS_n lS_0))))))))) J
      · refine V_iload G eX12_hang_63 rfl ?_
        refine V_iload G eX12_hang_65 rfl ?_
        refine V_icmp_gt G eX12_hang_67 h (fun h => ?_) (fun h => ?_)
        · cases h; exact V_sub (lS_s (lS_s (lS_s (lS_s (lS_s (lS_s (lS_n (lS_s (lS_n lS_0))))))))) J
        · refine V_iload G eX12_hang_70 rfl ?_
          refine V_iload G eX12_hang_72 rfl ?_
          obtain ⟨x7, hj, h⟩ := bdS h
          have J : Vj p l e R s m args below meth c w 9 0 0 Q 107 [some (.ref (wad w 12 0)), some (.int v1), some (.int v2), some (.int v3), none, none, none, some (.int v7), some (.int x3)] [.long x7] μ := by
            clear hj
            refine V_lstoreA (i := 5) (L' := [some (.ref (wad w 12 0)), some (.int v1), some (.int v2), some (.int v3), none, some (.long x7), none, some (.int v7), some (.int x3)]) G eX12_hang_107 (by decide) rfl rfl ?_
            refine V_iload G eX12_hang_109 rfl ?_
            refine V_istoreA (i := 4) (L' := [some (.ref (wad w 12 0)), some (.int v1), some (.int v2), some (.int v3), some (.int x3), some (.long x7), none, some (.int v7), some (.int x3)]) G eX12_hang_111 (by decide) rfl rfl ?_
            cases h; exact V_sub (lS_s (lS_s (lS_s (lS_s (lS_s (lS_s (lS_n (lS_s (lS_n lS_0))))))))) J
          replace h := hj
          clear hj
          refine V_icmp_ge G eX12_hang_74 h (fun h => ?_) (fun h => ?_)
          · refine V_lload G eX12_hang_92 rfl ?_
            refine V_aload_n (i := 0) G eX12_hang_94 rfl rfl ?_
            refine V_get (v := .ref (wad w 1353 0)) G fgX12_132 rfl eX12_hang_95 ?_
            refine V_bipush (n := 8) (v := (nI 8)) G eX12_hang_98 rfl ?_
            refine V_iload_n (i := 2) G eX12_hang_100 rfl rfl ?_
            refine V_imul G eX12_hang_101 ?_
            refine V_iload G eX12_hang_102 rfl ?_
            refine V_iadd G eX12_hang_104 ?_
            refine V_lald G al_1353 (by decide) eX12_hang_105 h (fun x5 h => ?_)
            refine V_ladd G eX12_hang_106 ?_
            cases h; exact V_sub (lS_s (lS_s (lS_s (lS_s (lS_n (lS_n (lS_n (lS_s (lS_s lS_0))))))))) J
          · refine V_aload_n (i := 0) G eX12_hang_77 rfl rfl ?_
            refine V_get (v := .ref (wad w 1353 0)) G fgX12_132 rfl eX12_hang_78 ?_
            refine V_bipush (n := 8) (v := (nI 8)) G eX12_hang_81 rfl ?_
            refine V_iload_n (i := 2) G eX12_hang_83 rfl rfl ?_
            refine V_imul G eX12_hang_84 ?_
            refine V_iload G eX12_hang_85 rfl ?_
            refine V_iadd G eX12_hang_87 ?_
            refine V_lald G al_1353 (by decide) eX12_hang_88 h (fun x6 h => ?_)
            refine V_goto G eX12_hang_89 ?_
            cases h; exact V_sub (lS_s (lS_s (lS_s (lS_s (lS_n (lS_n (lS_n (lS_s (lS_s lS_0))))))))) J
set_option maxRecDepth 100000 in
set_option maxHeartbeats 4000000 in
theorem M_hang_run {p : Program} {l : Launch} {e : Env} {R : Room} {s : State} {m : MethodId} {args : Array Value} {below : List Frame} {meth : Method} {c : Code} {w : Wld} (G : Cxt p R s m args meth c w cX12_hang 9 "PotBookModel" 2 0 0) (hr : meth.sig.returnType = none) {a1 : Int32} {a2 : Int32} {a3 : Int32} {μ : Mem} {μ' : Mem} (h : M_hang a1 a2 a3 μ = some μ') : Vj p l e R s m args below meth c w 9 0 0 (MQ below (QV w μ') args s 0 0 w.2.2.2) 0 [some (.ref (wad w 12 0)), some (.int a1), some (.int a2), some (.int a3), none, none, none, none, none] [] μ := by
  unfold M_hang at h
  refine V_ldcw (v := (nI 100000000)) G cnI_X12_397 eX12_hang_0 ?_
  refine V_istoreA (i := 4) (L' := [some (.ref (wad w 12 0)), some (.int a1), some (.int a2), some (.int a3), some (.int (nI 100000000)), none, none, none, none]) G eX12_hang_3 (by decide) rfl rfl ?_
  refine V_lconst (v := 0) G eX12_hang_5 rfl ?_
  refine V_lstoreA (i := 5) (L' := [some (.ref (wad w 12 0)), some (.int a1), some (.int a2), some (.int a3), some (.int (nI 100000000)), some (.long 0), none, none, none]) G eX12_hang_6 (by decide) rfl rfl ?_
  refine V_iconst (n := 0) (v := (nI 0)) G eX12_hang_8 rfl ?_
  refine V_istoreA (i := 7) (L' := [some (.ref (wad w 12 0)), some (.int a1), some (.int a2), some (.int a3), some (.int (nI 100000000)), some (.long 0), none, some (.int (nI 0)), none]) G eX12_hang_9 (by decide) rfl rfl ?_
  obtain ⟨⟨x1, x2⟩, h1, h⟩ := bdS h
  refine M_hang_l1_ok G h1 ?_
  refine V_aload_n (i := 0) G eX12_hang_119 rfl rfl ?_
  refine V_get (v := .ref (wad w 1352 0)) G fgX12_129 rfl eX12_hang_120 ?_
  refine V_bipush (n := 8) (v := (nI 8)) G eX12_hang_123 rfl ?_
  refine V_iload_n (i := 1) G eX12_hang_125 rfl rfl ?_
  refine V_imul G eX12_hang_126 ?_
  refine V_iload_n (i := 3) G eX12_hang_127 rfl rfl ?_
  refine V_iadd G eX12_hang_128 ?_
  refine V_ldcw (v := (nI 100000000)) G cnI_X12_397 eX12_hang_129 ?_
  refine V_aload_n (i := 0) G eX12_hang_132 rfl rfl ?_
  refine V_get (v := .ref (wad w 1352 0)) G fgX12_129 rfl eX12_hang_133 ?_
  refine V_bipush (n := 8) (v := (nI 8)) G eX12_hang_136 rfl ?_
  refine V_iload_n (i := 1) G eX12_hang_138 rfl rfl ?_
  refine V_imul G eX12_hang_139 ?_
  refine V_iload_n (i := 3) G eX12_hang_140 rfl rfl ?_
  refine V_iadd G eX12_hang_141 ?_
  refine V_iald G al_1352 (by decide) eX12_hang_142 h (fun x3 h => ?_)
  refine V_iload G eX12_hang_143 rfl ?_
  refine V_iadd G eX12_hang_145 ?_
  refine V_jMin G mkX12_382 (by decide) (Nat.le_of_ble_eq_true rfl) eX12_hang_146 ?_
  refine V_iast G al_1352 (by decide) eX12_hang_149 h (fun μ4 h => ?_)
  refine V_aload_n (i := 0) G eX12_hang_150 rfl rfl ?_
  refine V_get (v := .ref (wad w 1353 0)) G fgX12_132 rfl eX12_hang_151 ?_
  refine V_bipush (n := 8) (v := (nI 8)) G eX12_hang_154 rfl ?_
  refine V_iload_n (i := 1) G eX12_hang_156 rfl rfl ?_
  refine V_imul G eX12_hang_157 ?_
  refine V_iload_n (i := 3) G eX12_hang_158 rfl rfl ?_
  refine V_iadd G eX12_hang_159 ?_
  refine V_dup2_11 G eX12_hang_160 rfl rfl ?_
  refine V_lald G al_1353 (by decide) eX12_hang_161 h (fun x5 h => ?_)
  refine V_lload G eX12_hang_162 rfl ?_
  refine V_lmul G eX12_hang_164 ?_
  refine V_last G al_1353 (by decide) eX12_hang_165 h (fun μ6 h => ?_)
  exact V_rvM G hr eX12_hang_166 h
theorem M_hang_ok {l : Launch} {w : Wld} {a1 : Int32} {a2 : Int32} {a3 : Int32} {μ : Mem} {μ' : Mem} (h : M_hang a1 a2 a3 μ = some μ') : CtV l w yX12_hang cX12_hang 9 2 [.ref (wad w 12 0), .int a1, .int a2, .int a3] μ μ' :=
  Ct_of (own := "PotBookModel") [some (.ref (wad w 12 0)), some (.int a1), some (.int a2), some (.int a3), none, none, none, none, none] (by decide +kernel) rfl rfl (Nat.le_of_ble_eq_true rfl) fun p e s m args below meth c G hr => M_hang_run G hr h
set_option maxRecDepth 100000 in
set_option maxHeartbeats 4000000 in
theorem M_price_l1_ok {p : Program} {l : Launch} {e : Env} {R : Room} {s : State} {m : MethodId} {args : Array Value} {below : List Frame} {meth : Method} {c : Code} {w : Wld} {Q : State → Prop} (G : Cxt p R s m args meth c w cX12_price 6 "PotBookModel" 3 0 0) {v1 : Int32} {v2 : Int32} {μo : Mem} : ∀ {n : Nat} {v3 : Int32} {μ : Mem}, M_price_l1 v1 v2 n v3 μ = some μo → Vj p l e R s m args below meth c w 6 0 0 Q 28 [some (.ref (wad w 12 0)), some (.int v1), some (.int v2), none, none, none] [] μo → Vj p l e R s m args below meth c w 6 0 0 Q 2 [some (.ref (wad w 12 0)), some (.int v1), some (.int v2), some (.int v3), none, none] [] μ := by
  intro n
  induction n with
  | zero => intro v3 μ h K; exact noS h
  | succ n ih =>
    intro v3 μ h K
    replace h : M_price_l1b v1 v2 (M_price_l1 v1 v2 n) v3 μ = some μo := h
    unfold M_price_l1b at h
    refine V_iload_n (i := 3) G eX12_price_2 rfl rfl ?_
    refine V_bipush (n := 104) (v := (nI 104)) G eX12_price_3 rfl ?_
    refine V_icmp_ge G eX12_price_5 h (fun h => ?_) (fun h => ?_)
    · cases h; exact V_sub (lS_s (lS_s (lS_s (lS_n (lS_n (lS_n lS_0)))))) K
    · refine V_aload_n (i := 0) G eX12_price_8 rfl rfl ?_
      refine V_get (v := .ref (wad w 1352 0)) G fgX12_129 rfl eX12_price_9 ?_
      refine V_iload_n (i := 3) G eX12_price_12 rfl rfl ?_
      refine V_iconst (n := 0) (v := (nI 0)) G eX12_price_13 rfl ?_
      refine V_iast G al_1352 (by decide) eX12_price_14 h (fun μ1 h => ?_)
      refine V_aload_n (i := 0) G eX12_price_15 rfl rfl ?_
      refine V_get (v := .ref (wad w 1353 0)) G fgX12_132 rfl eX12_price_16 ?_
      refine V_iload_n (i := 3) G eX12_price_19 rfl rfl ?_
      refine V_lconst (v := 1) G eX12_price_20 rfl ?_
      refine V_last G al_1353 (by decide) eX12_price_21 h (fun μ2 h => ?_)
      refine V_iinc (z := (nI 1)) (L' := (fun x3 => [some (.ref (wad w 12 0)), some (.int v1), some (.int v2), some (.int x3), none, none])) G eX12_price_22 rfl rfl (by decide) rfl (fun _ => rfl) h (fun x3 h => ?_)
      refine V_goto G eX12_price_25 ?_
      exact (ih h K)
set_option maxRecDepth 100000 in
set_option maxHeartbeats 4000000 in
theorem M_price_l3_ok {p : Program} {l : Launch} {e : Env} {R : Room} {s : State} {m : MethodId} {args : Array Value} {below : List Frame} {meth : Method} {c : Code} {w : Wld} {Q : State → Prop} (G : Cxt p R s m args meth c w cX12_price 6 "PotBookModel" 3 0 0) {v1 : Int32} {v2 : Int32} {v3 : Int32} {μo : Mem} : ∀ {n : Nat} {v4 : Int32} {μ : Mem}, M_price_l3 v1 v2 v3 n v4 μ = some μo → Vj p l e R s m args below meth c w 6 0 0 Q 129 [some (.ref (wad w 12 0)), some (.int v1), some (.int v2), some (.int v3), none, none] [] μo → Vj p l e R s m args below meth c w 6 0 0 Q 42 [some (.ref (wad w 12 0)), some (.int v1), some (.int v2), some (.int v3), some (.int v4), none] [] μ := by
  intro n
  induction n with
  | zero => intro v4 μ h K; exact noS h
  | succ n ih =>
    intro v4 μ h K
    replace h : M_price_l3b v1 v2 v3 (M_price_l3 v1 v2 v3 n) v4 μ = some μo := h
    unfold M_price_l3b at h
    refine V_iload G eX12_price_42 rfl ?_
    refine V_bipush (n := 8) (v := (nI 8)) G eX12_price_44 rfl ?_
    refine V_icmp_ge G eX12_price_46 h (fun h => ?_) (fun h => ?_)
    · cases h; exact V_sub (lS_s (lS_s (lS_s (lS_s (lS_n (lS_n lS_0)))))) K
    · refine V_aload_n (i := 0) G eX12_price_49 rfl rfl ?_
      refine V_get (v := .ref (wad w 1351 0)) G fgX12_126 rfl eX12_price_50 ?_
      refine V_iload_n (i := 3) G eX12_price_53 rfl rfl ?_
      refine V_iald G al_1351 (by decide) eX12_price_54 h (fun x1 h => ?_)
      refine V_iconst (n := -1) (v := (-1)) G eX12_price_55 rfl ?_
      obtain ⟨x3, hj, h⟩ := bdS h
      have J : Vj p l e R s m args below meth c w 6 0 0 Q 86 [some (.ref (wad w 12 0)), some (.int v1), some (.int v2), some (.int v3), some (.int v4), none] [.int x3] μ := by
        clear hj
        refine V_istoreA (i := 5) (L' := [some (.ref (wad w 12 0)), some (.int v1), some (.int v2), some (.int v3), some (.int v4), some (.int x3)]) G eX12_price_86 (by decide) rfl rfl ?_
        refine V_aload_n (i := 0) G eX12_price_88 rfl rfl ?_
        refine V_get (v := .ref (wad w 1352 0)) G fgX12_129 rfl eX12_price_89 ?_
        refine V_bipush (n := 8) (v := (nI 8)) G eX12_price_92 rfl ?_
        refine V_iload_n (i := 3) G eX12_price_94 rfl rfl ?_
        refine V_imul G eX12_price_95 ?_
        refine V_iload G eX12_price_96 rfl ?_
        refine V_iadd G eX12_price_98 ?_
        refine V_iload G eX12_price_99 rfl ?_
        obtain ⟨x5, hj, h⟩ := bdS h
        have J : Vj p l e R s m args below meth c w 6 0 0 Q 122 [some (.ref (wad w 12 0)), some (.int v1), some (.int v2), some (.int v3), some (.int v4), none] [.int x5, .int (((nI 8) * v3) + v4), .ref (wad w 1352 0)] μ := by
          clear hj
          refine V_iast G al_1352 (by decide) eX12_price_122 h (fun μ6 h => ?_)
          refine V_iinc (z := (nI 1)) (L' := (fun x7 => [some (.ref (wad w 12 0)), some (.int v1), some (.int v2), some (.int v3), some (.int x7), none])) G eX12_price_123 rfl rfl (by decide) rfl (fun _ => rfl) h (fun x7 h => ?_)
          refine V_goto G eX12_price_126 ?_
          exact (ih h K)
        replace h := hj
        clear hj
        refine V_if_eq G eX12_price_101 h (fun h => ?_) (fun h => ?_)
        · refine V_ldcw (v := (nI 100000000)) G cnI_X12_397 eX12_price_119 ?_
          cases h; exact V_sub (lS_s (lS_s (lS_s (lS_s (lS_s (lS_n lS_0)))))) J
        · refine V_aload_n (i := 0) G eX12_price_104 rfl rfl ?_
          refine V_get (v := .ref (wad w 1352 0)) G fgX12_129 rfl eX12_price_105 ?_
          refine V_bipush (n := 8) (v := (nI 8)) G eX12_price_108 rfl ?_
          refine V_iload_n (i := 3) G eX12_price_110 rfl rfl ?_
          refine V_imul G eX12_price_111 ?_
          refine V_iload G eX12_price_112 rfl ?_
          refine V_iadd G eX12_price_114 ?_
          refine V_iald G al_1352 (by decide) eX12_price_115 h (fun x4 h => ?_)
          refine V_goto G eX12_price_116 ?_
          cases h; exact V_sub (lS_s (lS_s (lS_s (lS_s (lS_s (lS_n lS_0)))))) J
      replace h := hj
      clear hj
      refine V_icmp_eq G eX12_price_56 h (fun h => ?_) (fun h => ?_)
      · refine V_iload_n (i := 3) G eX12_price_70 rfl rfl ?_
        refine V_iload_n (i := 1) G eX12_price_71 rfl rfl ?_
        refine V_icmp_ne G eX12_price_72 h (fun h => ?_) (fun h => ?_)
        · refine V_iconst (n := 1) (v := (nI 1)) G eX12_price_81 rfl ?_
          refine V_goto G eX12_price_82 ?_
          cases h; exact J
        · refine V_iload G eX12_price_75 rfl ?_
          refine V_iload_n (i := 2) G eX12_price_77 rfl rfl ?_
          refine V_icmp_ne G eX12_price_78 h (fun h => ?_) (fun h => ?_)
          · refine V_iconst (n := 0) (v := (nI 0)) G eX12_price_85 rfl ?_
            cases h; exact J
          · refine V_iconst (n := 1) (v := (nI 1)) G eX12_price_81 rfl ?_
            refine V_goto G eX12_price_82 ?_
            cases h; exact J
      · refine V_aload_n (i := 0) G eX12_price_59 rfl rfl ?_
        refine V_get (v := .ref (wad w 1351 0)) G fgX12_126 rfl eX12_price_60 ?_
        refine V_iload_n (i := 3) G eX12_price_63 rfl rfl ?_
        refine V_iald G al_1351 (by decide) eX12_price_64 h (fun x2 h => ?_)
        refine V_iload G eX12_price_65 rfl ?_
        refine V_icmp_ne G eX12_price_67 h (fun h => ?_) (fun h => ?_)
        · refine V_iconst (n := 0) (v := (nI 0)) G eX12_price_85 rfl ?_
          cases h; exact J
        · refine V_iload_n (i := 3) G eX12_price_70 rfl rfl ?_
          refine V_iload_n (i := 1) G eX12_price_71 rfl rfl ?_
          refine V_icmp_ne G eX12_price_72 h (fun h => ?_) (fun h => ?_)
          · refine V_iconst (n := 1) (v := (nI 1)) G eX12_price_81 rfl ?_
            refine V_goto G eX12_price_82 ?_
            cases h; exact J
          · refine V_iload G eX12_price_75 rfl ?_
            refine V_iload_n (i := 2) G eX12_price_77 rfl rfl ?_
            refine V_icmp_ne G eX12_price_78 h (fun h => ?_) (fun h => ?_)
            · refine V_iconst (n := 0) (v := (nI 0)) G eX12_price_85 rfl ?_
              cases h; exact J
            · refine V_iconst (n := 1) (v := (nI 1)) G eX12_price_81 rfl ?_
              refine V_goto G eX12_price_82 ?_
              cases h; exact J
set_option maxRecDepth 100000 in
set_option maxHeartbeats 4000000 in
theorem M_price_l4_ok {p : Program} {l : Launch} {e : Env} {R : Room} {s : State} {m : MethodId} {args : Array Value} {below : List Frame} {meth : Method} {c : Code} {w : Wld} {Q : State → Prop} (G : Cxt p R s m args meth c w cX12_price 6 "PotBookModel" 3 0 0) {v1 : Int32} {v2 : Int32} {v3 : Int32} {v4 : Int32} {μo : Mem} : ∀ {n : Nat} {v5 : Int32} {μ : Mem}, M_price_l4 v1 v2 v3 v4 n v5 μ = some μo → Vj p l e R s m args below meth c w 6 0 0 Q 177 [some (.ref (wad w 12 0)), some (.int v1), some (.int v2), some (.int v3), none, none] [] μo → Vj p l e R s m args below meth c w 6 0 0 Q 155 [some (.ref (wad w 12 0)), some (.int v1), some (.int v2), some (.int v3), some (.int v4), some (.int v5)] [] μ := by
  intro n
  induction n with
  | zero => intro v5 μ h K; exact noS h
  | succ n ih =>
    intro v5 μ h K
    replace h : M_price_l4b v1 v2 v3 v4 (M_price_l4 v1 v2 v3 v4 n) v5 μ = some μo := h
    unfold M_price_l4b at h
    refine V_iload G eX12_price_155 rfl ?_
    refine V_bipush (n := 8) (v := (nI 8)) G eX12_price_157 rfl ?_
    refine V_icmp_ge G eX12_price_159 h (fun h => ?_) (fun h => ?_)
    · cases h; exact V_sub (lS_s (lS_s (lS_s (lS_s (lS_n (lS_n lS_0)))))) K
    · refine V_aload_n (i := 0) G eX12_price_162 rfl rfl ?_
      refine V_iload G eX12_price_163 rfl ?_
      refine V_iload_n (i := 3) G eX12_price_165 rfl rfl ?_
      refine V_iload G eX12_price_166 rfl ?_
      obtain ⟨μ1, h1, h⟩ := bdS h
      refine V_callV (As := [.int v4, .int v3, .int v5]) (st := []) G lkX12_398 (M_hang_ok h1) (by decide) rfl rfl (Nat.le_of_ble_eq_true rfl) eX12_price_168 ?_
      refine V_iinc (z := (nI 1)) (L' := (fun x2 => [some (.ref (wad w 12 0)), some (.int v1), some (.int v2), some (.int v3), some (.int v4), some (.int x2)])) G eX12_price_171 rfl rfl (by decide) rfl (fun _ => rfl) h (fun x2 h => ?_)
      refine V_goto G eX12_price_174 ?_
      exact (ih h K)
set_option maxRecDepth 100000 in
set_option maxHeartbeats 4000000 in
theorem M_price_l2_ok {p : Program} {l : Launch} {e : Env} {R : Room} {s : State} {m : MethodId} {args : Array Value} {below : List Frame} {meth : Method} {c : Code} {w : Wld} {Q : State → Prop} (G : Cxt p R s m args meth c w cX12_price 6 "PotBookModel" 3 0 0) {v1 : Int32} {v2 : Int32} {μo : Mem} : ∀ {n : Nat} {v3 : Int32} {μ : Mem}, M_price_l2 v1 v2 n v3 μ = some μo → Vj p l e R s m args below meth c w 6 0 0 Q 183 [none, none, none, none, none, none] [] μo → Vj p l e R s m args below meth c w 6 0 0 Q 35 [some (.ref (wad w 12 0)), some (.int v1), some (.int v2), some (.int v3), none, none] [] μ := by
  intro n
  induction n with
  | zero => intro v3 μ h K; exact noS h
  | succ n ih =>
    intro v3 μ h K
    replace h : M_price_l2b v1 v2 (M_price_l2 v1 v2 n) v3 μ = some μo := h
    unfold M_price_l2b at h
    refine V_iload_n (i := 3) G eX12_price_35 rfl rfl ?_
    refine V_if_lt G eX12_price_36 h (fun h => ?_) (fun h => ?_)
    · cases h; exact V_sub (lS_n (lS_n (lS_n (lS_n (lS_n (lS_n lS_0)))))) K
    · refine V_iconst (n := 0) (v := (nI 0)) G eX12_price_39 rfl ?_
      refine V_istoreA (i := 4) (L' := [some (.ref (wad w 12 0)), some (.int v1), some (.int v2), some (.int v3), some (.int (nI 0)), none]) G eX12_price_40 (by decide) rfl rfl ?_
      obtain ⟨μ1, h1, h⟩ := bdS h
      refine M_price_l3_ok G h1 ?_
      refine V_aload_n (i := 0) G eX12_price_129 rfl rfl ?_
      refine V_get (v := .ref (wad w 1350 0)) G fgX12_123 rfl eX12_price_130 ?_
      refine V_iload_n (i := 3) G eX12_price_133 rfl rfl ?_
      refine V_iald G al_1350 (by decide) eX12_price_134 h (fun x2 h => ?_)
      refine V_iconst (n := -1) (v := (-1)) G eX12_price_135 rfl ?_
      obtain ⟨x4, hj, h⟩ := bdS h
      have J : Vj p l e R s m args below meth c w 6 0 0 Q 150 [some (.ref (wad w 12 0)), some (.int v1), some (.int v2), some (.int v3), none, none] [.int x4] μ1 := by
        clear hj
        refine V_istoreA (i := 4) (L' := [some (.ref (wad w 12 0)), some (.int v1), some (.int v2), some (.int v3), some (.int x4), none]) G eX12_price_150 (by decide) rfl rfl ?_
        refine V_iconst (n := 0) (v := (nI 0)) G eX12_price_152 rfl ?_
        refine V_istoreA (i := 5) (L' := [some (.ref (wad w 12 0)), some (.int v1), some (.int v2), some (.int v3), some (.int x4), some (.int (nI 0))]) G eX12_price_153 (by decide) rfl rfl ?_
        obtain ⟨μ5, h1, h⟩ := bdS h
        refine M_price_l4_ok G h1 ?_
        refine V_iinc (z := (-1)) (L' := (fun x6 => [some (.ref (wad w 12 0)), some (.int v1), some (.int v2), some (.int x6), none, none])) G eX12_price_177 rfl rfl (by decide) rfl (fun _ => rfl) h (fun x6 h => ?_)
        refine V_goto G eX12_price_180 ?_
        exact (ih h K)
      replace h := hj
      clear hj
      refine V_icmp_ne G eX12_price_136 h (fun h => ?_) (fun h => ?_)
      · refine V_aload_n (i := 0) G eX12_price_144 rfl rfl ?_
        refine V_get (v := .ref (wad w 1350 0)) G fgX12_123 rfl eX12_price_145 ?_
        refine V_iload_n (i := 3) G eX12_price_148 rfl rfl ?_
        refine V_iald G al_1350 (by decide) eX12_price_149 h (fun x3 h => ?_)
        cases h; exact J
      · refine V_bipush (n := 12) (v := (nI 12)) G eX12_price_139 rfl ?_
        refine V_goto G eX12_price_141 ?_
        cases h; exact J
set_option maxRecDepth 100000 in
set_option maxHeartbeats 4000000 in
theorem M_price_run {p : Program} {l : Launch} {e : Env} {R : Room} {s : State} {m : MethodId} {args : Array Value} {below : List Frame} {meth : Method} {c : Code} {w : Wld} (G : Cxt p R s m args meth c w cX12_price 6 "PotBookModel" 3 0 0) (hr : meth.sig.returnType = none) {a1 : Int32} {a2 : Int32} {μ : Mem} {μ' : Mem} (h : M_price a1 a2 μ = some μ') : Vj p l e R s m args below meth c w 6 0 0 (MQ below (QV w μ') args s 0 0 w.2.2.2) 0 [some (.ref (wad w 12 0)), some (.int a1), some (.int a2), none, none, none] [] μ := by
  unfold M_price at h
  refine V_iconst (n := 0) (v := (nI 0)) G eX12_price_0 rfl ?_
  refine V_istoreA_n (i := 3) (L' := [some (.ref (wad w 12 0)), some (.int a1), some (.int a2), some (.int (nI 0)), none, none]) G rfl eX12_price_1 (by decide) rfl rfl ?_
  obtain ⟨μ1, h1, h⟩ := bdS h
  refine M_price_l1_ok G h1 ?_
  refine V_aload_n (i := 0) G eX12_price_28 rfl rfl ?_
  refine V_get (v := .int (mI μ1 1354 0 0)) G fgX12_394 rfl eX12_price_29 ?_
  refine V_iconst (n := 1) (v := (nI 1)) G eX12_price_32 rfl ?_
  refine V_isub G eX12_price_33 ?_
  refine V_istore_n (i := 3) (L' := (fun x2 => [some (.ref (wad w 12 0)), some (.int a1), some (.int a2), some (.int x2), none, none])) G rfl eX12_price_34 (by decide) rfl (fun _ => rfl) h (fun x2 h => ?_)
  obtain ⟨μ3, h1, h⟩ := bdS h
  refine M_price_l2_ok G h1 ?_
  exact V_rvM G hr eX12_price_183 h
theorem M_price_ok {l : Launch} {w : Wld} {a1 : Int32} {a2 : Int32} {μ : Mem} {μ' : Mem} (h : M_price a1 a2 μ = some μ') : CtV l w yX12_price cX12_price 6 3 [.ref (wad w 12 0), .int a1, .int a2] μ μ' :=
  Ct_of (own := "PotBookModel") [some (.ref (wad w 12 0)), some (.int a1), some (.int a2), none, none, none] (by decide +kernel) rfl rfl (Nat.le_of_ble_eq_true rfl) fun p e s m args below meth c G hr => M_price_run G hr h
set_option maxRecDepth 100000 in
set_option maxHeartbeats 4000000 in
theorem M_leastFirst_l1_ok {p : Program} {l : Launch} {e : Env} {R : Room} {s : State} {m : MethodId} {args : Array Value} {below : List Frame} {meth : Method} {c : Code} {w : Wld} {Q : State → Prop} (G : Cxt p R s m args meth c w cX12_leastFirst 3 "PotBookModel" 1 0 0) {μ : Mem} {o1 : Int32} : ∀ {n : Nat} {v1 : Int32} {v2 : Int32}, M_leastFirst_l1 μ n v1 v2 = some o1 → Vj p l e R s m args below meth c w 3 0 0 Q 43 [none, some (.int o1), none] [] μ → Vj p l e R s m args below meth c w 3 0 0 Q 4 [some (.ref (wad w 12 0)), some (.int v1), some (.int v2)] [] μ := by
  intro n
  induction n with
  | zero => intro v1 v2 h K; exact noS h
  | succ n ih =>
    intro v1 v2 h K
    replace h : M_leastFirst_l1b μ (M_leastFirst_l1 μ n) v1 v2 = some o1 := h
    unfold M_leastFirst_l1b at h
    refine V_iload_n (i := 2) G eX12_leastFirst_4 rfl rfl ?_
    refine V_bipush (n := 8) (v := (nI 8)) G eX12_leastFirst_5 rfl ?_
    refine V_icmp_ge G eX12_leastFirst_7 h (fun h => ?_) (fun h => ?_)
    · cases h; exact V_sub (lS_n (lS_s (lS_n lS_0))) K
    · refine V_aload_n (i := 0) G eX12_leastFirst_10 rfl rfl ?_
      refine V_get (v := .ref (wad w 1352 0)) G fgX12_129 rfl eX12_leastFirst_11 ?_
      refine V_bipush (n := 96) (v := (nI 96)) G eX12_leastFirst_14 rfl ?_
      refine V_iload_n (i := 2) G eX12_leastFirst_16 rfl rfl ?_
      refine V_iadd G eX12_leastFirst_17 ?_
      refine V_iald G al_1352 (by decide) eX12_leastFirst_18 h (fun x1 h => ?_)
      refine V_aload_n (i := 0) G eX12_leastFirst_19 rfl rfl ?_
      refine V_get (v := .ref (wad w 1352 0)) G fgX12_129 rfl eX12_leastFirst_20 ?_
      refine V_bipush (n := 96) (v := (nI 96)) G eX12_leastFirst_23 rfl ?_
      refine V_iload_n (i := 1) G eX12_leastFirst_25 rfl rfl ?_
      refine V_iadd G eX12_leastFirst_26 ?_
      refine V_iald G al_1352 (by decide) eX12_leastFirst_27 h (fun x2 h => ?_)
      obtain ⟨x3, hj, h⟩ := bdS h
      have J : Vj p l e R s m args below meth c w 3 0 0 Q 36 [some (.ref (wad w 12 0)), none, some (.int v2)] [.int x3] μ := by
        clear hj
        refine V_istoreA_n (i := 1) (L' := [some (.ref (wad w 12 0)), some (.int x3), some (.int v2)]) G rfl eX12_leastFirst_36 (by decide) rfl rfl ?_
        refine V_iinc (z := (nI 1)) (L' := (fun x4 => [some (.ref (wad w 12 0)), some (.int x3), some (.int x4)])) G eX12_leastFirst_37 rfl rfl (by decide) rfl (fun _ => rfl) h (fun x4 h => ?_)
        refine V_goto G eX12_leastFirst_40 ?_
        exact (ih h K)
      replace h := hj
      clear hj
      refine V_icmp_ge G eX12_leastFirst_28 h (fun h => ?_) (fun h => ?_)
      · refine V_iload_n (i := 1) G eX12_leastFirst_35 rfl rfl ?_
        cases h; exact V_sub (lS_s (lS_n (lS_s lS_0))) J
      · refine V_iload_n (i := 2) G eX12_leastFirst_31 rfl rfl ?_
        refine V_goto G eX12_leastFirst_32 ?_
        cases h; exact V_sub (lS_s (lS_n (lS_s lS_0))) J
set_option maxRecDepth 100000 in
set_option maxHeartbeats 4000000 in
theorem M_leastFirst_run {p : Program} {l : Launch} {e : Env} {R : Room} {s : State} {m : MethodId} {args : Array Value} {below : List Frame} {meth : Method} {c : Code} {w : Wld} (G : Cxt p R s m args meth c w cX12_leastFirst 3 "PotBookModel" 1 0 0) (hr : meth.sig.returnType = some .int) {μ : Mem} {r : Int32} (h : M_leastFirst μ = some r) : Vj p l e R s m args below meth c w 3 0 0 (MQ below (QI w r μ) args s 0 0 w.2.2.2) 0 [some (.ref (wad w 12 0)), none, none] [] μ := by
  unfold M_leastFirst at h
  refine V_iconst (n := 0) (v := (nI 0)) G eX12_leastFirst_0 rfl ?_
  refine V_istoreA_n (i := 1) (L' := [some (.ref (wad w 12 0)), some (.int (nI 0)), none]) G rfl eX12_leastFirst_1 (by decide) rfl rfl ?_
  refine V_iconst (n := 1) (v := (nI 1)) G eX12_leastFirst_2 rfl ?_
  refine V_istoreA_n (i := 2) (L' := [some (.ref (wad w 12 0)), some (.int (nI 0)), some (.int (nI 1))]) G rfl eX12_leastFirst_3 (by decide) rfl rfl ?_
  obtain ⟨x1, h1, h⟩ := bdS h
  refine M_leastFirst_l1_ok G h1 ?_
  refine V_iload_n (i := 1) G eX12_leastFirst_43 rfl rfl ?_
  exact V_ri G hr eX12_leastFirst_44 h
theorem M_leastFirst_ok {l : Launch} {w : Wld} {μ : Mem} {r : Int32} (h : M_leastFirst μ = some r) : CtI l w yX12_leastFirst cX12_leastFirst 3 .int 1 [.ref (wad w 12 0)] μ r μ :=
  Ct_of (own := "PotBookModel") [some (.ref (wad w 12 0)), none, none] (by decide +kernel) rfl rfl (Nat.le_of_ble_eq_true rfl) fun p e s m args below meth c G hr => M_leastFirst_run G hr h
set_option maxRecDepth 100000 in
set_option maxHeartbeats 4000000 in
theorem M_isWord_run {p : Program} {l : Launch} {e : Env} {R : Room} {s : State} {m : MethodId} {args : Array Value} {below : List Frame} {meth : Method} {c : Code} {w : Wld} (G : Cxt p R s m args meth c w cX12_isWord 2 "PotBookModel" 2 0 0) (hr : meth.sig.returnType = some .boolean) {a1 : Int32} {μ : Mem} {r : Int32} (h : M_isWord a1 = some r) : Vj p l e R s m args below meth c w 2 0 0 (MQ below (QI w r μ) args s 0 0 w.2.2.2) 0 [some (.ref (wad w 12 0)), some (.int a1)] [] μ := by
  unfold M_isWord at h
  refine V_iload_n (i := 1) G eX12_isWord_0 rfl rfl ?_
  refine V_iconst (n := 0) (v := (nI 0)) G eX12_isWord_1 rfl ?_
  refine V_bipush (n := 7) (v := (nI 7)) G eX12_isWord_2 rfl ?_
  obtain ⟨x1, h1, h⟩ := bdS h
  refine V_callIS (As := [.int a1, .int (nI 0), .int (nI 7)]) (st := []) G lkX12_198 (M_in_ok (μ := μ) h1) (by decide) rfl rfl (Nat.le_of_ble_eq_true rfl) eX12_isWord_4 ?_
  exact V_rz G hr eX12_isWord_7 h
theorem M_isWord_ok {l : Launch} {w : Wld} {a1 : Int32} {μ : Mem} {r : Int32} (h : M_isWord a1 = some r) : CtI l w yX12_isWord cX12_isWord 2 .boolean 2 [.ref (wad w 12 0), .int a1] μ r μ :=
  Ct_of (own := "PotBookModel") [some (.ref (wad w 12 0)), some (.int a1)] (by decide +kernel) rfl rfl (Nat.le_of_ble_eq_true rfl) fun p e s m args below meth c G hr => M_isWord_run G hr h
set_option maxRecDepth 100000 in
set_option maxHeartbeats 4000000 in
theorem M_cost_run {p : Program} {l : Launch} {e : Env} {R : Room} {s : State} {m : MethodId} {args : Array Value} {below : List Frame} {meth : Method} {c : Code} {w : Wld} (G : Cxt p R s m args meth c w cX12_cost 2 "PotBookModel" 4 0 0) (hr : meth.sig.returnType = some .int) {a1 : Int32} {μ : Mem} {r : Int32} {μ' : Mem} (h : M_cost a1 μ = some (r, μ')) : Vj p l e R s m args below meth c w 2 0 0 (MQ below (QI w r μ') args s 0 0 w.2.2.2) 0 [some (.ref (wad w 12 0)), some (.int a1)] [] μ := by
  unfold M_cost at h
  refine V_aload_n (i := 0) G eX12_cost_0 rfl rfl ?_
  refine V_iload_n (i := 1) G eX12_cost_1 rfl rfl ?_
  obtain ⟨x1, h1, h⟩ := bdS h
  refine V_callI (As := [.int a1]) (st := []) G lkX12_402 (M_isWord_ok h1) (by decide) rfl rfl (Nat.le_of_ble_eq_true rfl) eX12_cost_2 ?_
  refine V_if_ne G eX12_cost_5 h (fun h => ?_) (fun h => ?_)
  · refine V_aload_n (i := 0) G eX12_cost_10 rfl rfl ?_
    refine V_iconst (n := -1) (v := (-1)) G eX12_cost_11 rfl ?_
    refine V_iconst (n := 0) (v := (nI 0)) G eX12_cost_12 rfl ?_
    obtain ⟨μ2, h1, h⟩ := bdS h
    refine V_callV (As := [.int (-1), .int (nI 0)]) (st := []) G lkX12_405 (M_price_ok h1) (by decide) rfl rfl (Nat.le_of_ble_eq_true rfl) eX12_cost_13 ?_
    refine V_aload_n (i := 0) G eX12_cost_16 rfl rfl ?_
    refine V_get (v := .ref (wad w 1352 0)) G fgX12_129 rfl eX12_cost_17 ?_
    refine V_bipush (n := 96) (v := (nI 96)) G eX12_cost_20 rfl ?_
    refine V_iload_n (i := 1) G eX12_cost_22 rfl rfl ?_
    refine V_iadd G eX12_cost_23 ?_
    refine V_iald G al_1352 (by decide) eX12_cost_24 h (fun x3 h => ?_)
    exact V_riM G hr eX12_cost_25 h
  · refine V_iconst (n := -1) (v := (-1)) G eX12_cost_8 rfl ?_
    exact V_riM G hr eX12_cost_9 h
theorem M_cost_ok {l : Launch} {w : Wld} {a1 : Int32} {μ : Mem} {r : Int32} {μ' : Mem} (h : M_cost a1 μ = some (r, μ')) : CtI l w yX12_cost cX12_cost 2 .int 4 [.ref (wad w 12 0), .int a1] μ r μ' :=
  Ct_of (own := "PotBookModel") [some (.ref (wad w 12 0)), some (.int a1)] (by decide +kernel) rfl rfl (Nat.le_of_ble_eq_true rfl) fun p e s m args below meth c G hr => M_cost_run G hr h
set_option maxRecDepth 100000 in
set_option maxHeartbeats 4000000 in
theorem M_ways_run {p : Program} {l : Launch} {e : Env} {R : Room} {s : State} {m : MethodId} {args : Array Value} {below : List Frame} {meth : Method} {c : Code} {w : Wld} (G : Cxt p R s m args meth c w cX12_ways 2 "PotBookModel" 4 0 0) (hr : meth.sig.returnType = some .long) {a1 : Int32} {μ : Mem} {r : Int64} {μ' : Mem} (h : M_ways a1 μ = some (r, μ')) : Vj p l e R s m args below meth c w 2 0 0 (MQ below (QL w r μ') args s 0 0 w.2.2.2) 0 [some (.ref (wad w 12 0)), some (.int a1)] [] μ := by
  unfold M_ways at h
  refine V_aload_n (i := 0) G eX12_ways_0 rfl rfl ?_
  refine V_iload_n (i := 1) G eX12_ways_1 rfl rfl ?_
  obtain ⟨x1, h1, h⟩ := bdS h
  refine V_callI (As := [.int a1]) (st := []) G lkX12_402 (M_isWord_ok h1) (by decide) rfl rfl (Nat.le_of_ble_eq_true rfl) eX12_ways_2 ?_
  refine V_if_ne G eX12_ways_5 h (fun h => ?_) (fun h => ?_)
  · refine V_aload_n (i := 0) G eX12_ways_12 rfl rfl ?_
    refine V_iconst (n := -1) (v := (-1)) G eX12_ways_13 rfl ?_
    refine V_iconst (n := 0) (v := (nI 0)) G eX12_ways_14 rfl ?_
    obtain ⟨μ2, h1, h⟩ := bdS h
    refine V_callV (As := [.int (-1), .int (nI 0)]) (st := []) G lkX12_405 (M_price_ok h1) (by decide) rfl rfl (Nat.le_of_ble_eq_true rfl) eX12_ways_15 ?_
    refine V_aload_n (i := 0) G eX12_ways_18 rfl rfl ?_
    refine V_get (v := .ref (wad w 1353 0)) G fgX12_132 rfl eX12_ways_19 ?_
    refine V_bipush (n := 96) (v := (nI 96)) G eX12_ways_22 rfl ?_
    refine V_iload_n (i := 1) G eX12_ways_24 rfl rfl ?_
    refine V_iadd G eX12_ways_25 ?_
    refine V_lald G al_1353 (by decide) eX12_ways_26 h (fun x3 h => ?_)
    exact V_rlM G hr eX12_ways_27 h
  · refine V_ldc2 (v := (-1)) G cnJ_X12_408 eX12_ways_8 ?_
    exact V_rlM G hr eX12_ways_11 h
theorem M_ways_ok {l : Launch} {w : Wld} {a1 : Int32} {μ : Mem} {r : Int64} {μ' : Mem} (h : M_ways a1 μ = some (r, μ')) : CtL l w yX12_ways cX12_ways 2 .long 4 [.ref (wad w 12 0), .int a1] μ r μ' :=
  Ct_of (own := "PotBookModel") [some (.ref (wad w 12 0)), some (.int a1)] (by decide +kernel) rfl rfl (Nat.le_of_ble_eq_true rfl) fun p e s m args below meth c G hr => M_ways_run G hr h
set_option maxRecDepth 100000 in
set_option maxHeartbeats 4000000 in
theorem M_first_run {p : Program} {l : Launch} {e : Env} {R : Room} {s : State} {m : MethodId} {args : Array Value} {below : List Frame} {meth : Method} {c : Code} {w : Wld} (G : Cxt p R s m args meth c w cX12_first 1 "PotBookModel" 4 0 0) (hr : meth.sig.returnType = some .int) {μ : Mem} {r : Int32} {μ' : Mem} (h : M_first μ = some (r, μ')) : Vj p l e R s m args below meth c w 1 0 0 (MQ below (QI w r μ') args s 0 0 w.2.2.2) 0 [some (.ref (wad w 12 0))] [] μ := by
  unfold M_first at h
  refine V_aload_n (i := 0) G eX12_first_0 rfl rfl ?_
  refine V_iconst (n := -1) (v := (-1)) G eX12_first_1 rfl ?_
  refine V_iconst (n := 0) (v := (nI 0)) G eX12_first_2 rfl ?_
  obtain ⟨μ1, h1, h⟩ := bdS h
  refine V_callV (As := [.int (-1), .int (nI 0)]) (st := []) G lkX12_405 (M_price_ok h1) (by decide) rfl rfl (Nat.le_of_ble_eq_true rfl) eX12_first_3 ?_
  refine V_aload_n (i := 0) G eX12_first_6 rfl rfl ?_
  obtain ⟨x2, h1, h⟩ := bdS h
  refine V_callI (As := []) (st := []) G lkX12_410 (M_leastFirst_ok h1) (by decide) rfl rfl (Nat.le_of_ble_eq_true rfl) eX12_first_7 ?_
  exact V_riM G hr eX12_first_10 h
theorem M_first_ok {l : Launch} {w : Wld} {μ : Mem} {r : Int32} {μ' : Mem} (h : M_first μ = some (r, μ')) : CtI l w yX12_first cX12_first 1 .int 4 [.ref (wad w 12 0)] μ r μ' :=
  Ct_of (own := "PotBookModel") [some (.ref (wad w 12 0))] (by decide +kernel) rfl rfl (Nat.le_of_ble_eq_true rfl) fun p e s m args below meth c G hr => M_first_run G hr h
set_option maxRecDepth 100000 in
set_option maxHeartbeats 4000000 in
theorem M_could_l1_ok {p : Program} {l : Launch} {e : Env} {R : Room} {s : State} {m : MethodId} {args : Array Value} {below : List Frame} {meth : Method} {c : Code} {w : Wld} {Q : State → Prop} (G : Cxt p R s m args meth c w cX12_could 5 "PotBookModel" 4 0 0) {v1 : Int32} {v2 : Int32} {o1 : Int32} {μo : Mem} : ∀ {n : Nat} {v3 : Int32} {v4 : Int32} {μ : Mem}, M_could_l1 v1 v2 n v3 v4 μ = some (o1, μo) → Vj p l e R s m args below meth c w 5 0 0 Q 87 [none, none, none, some (.int o1), none] [] μo → Vj p l e R s m args below meth c w 5 0 0 Q 40 [some (.ref (wad w 12 0)), some (.int v1), some (.int v2), some (.int v3), some (.int v4)] [] μ := by
  intro n
  induction n with
  | zero => intro v3 v4 μ h K; exact noS h
  | succ n ih =>
    intro v3 v4 μ h K
    replace h : M_could_l1b v1 v2 (M_could_l1 v1 v2 n) v3 v4 μ = some (o1, μo) := h
    unfold M_could_l1b at h
    refine V_iload G eX12_could_40 rfl ?_
    refine V_bipush (n := 8) (v := (nI 8)) G eX12_could_42 rfl ?_
    refine V_icmp_ge G eX12_could_44 h (fun h => ?_) (fun h => ?_)
    · cases h; exact V_sub (lS_n (lS_n (lS_n (lS_s (lS_n lS_0))))) K
    · refine V_aload_n (i := 0) G eX12_could_47 rfl rfl ?_
      refine V_iload_n (i := 1) G eX12_could_48 rfl rfl ?_
      refine V_iload G eX12_could_49 rfl ?_
      obtain ⟨μ1, h1, h⟩ := bdS h
      refine V_callV (As := [.int v1, .int v4]) (st := []) G lkX12_405 (M_price_ok h1) (by decide) rfl rfl (Nat.le_of_ble_eq_true rfl) eX12_could_51 ?_
      refine V_iload_n (i := 3) G eX12_could_54 rfl rfl ?_
      refine V_aload_n (i := 0) G eX12_could_55 rfl rfl ?_
      refine V_get (v := .ref (wad w 1352 0)) G fgX12_129 rfl eX12_could_56 ?_
      refine V_bipush (n := 96) (v := (nI 96)) G eX12_could_59 rfl ?_
      refine V_aload_n (i := 0) G eX12_could_61 rfl rfl ?_
      obtain ⟨x2, h1, h⟩ := bdS h
      refine V_callI (As := []) (st := [.int (nI 96), .ref (wad w 1352 0), .int v3]) G lkX12_410 (M_leastFirst_ok h1) (by decide) rfl rfl (Nat.le_of_ble_eq_true rfl) eX12_could_62 ?_
      refine V_iadd G eX12_could_65 ?_
      refine V_iald G al_1352 (by decide) eX12_could_66 h (fun x3 h => ?_)
      refine V_iload_n (i := 2) G eX12_could_67 rfl rfl ?_
      obtain ⟨x4, hj, h⟩ := bdS h
      have J : Vj p l e R s m args below meth c w 5 0 0 Q 79 [some (.ref (wad w 12 0)), some (.int v1), some (.int v2), none, some (.int v4)] [.int x4, .int v3] μ1 := by
        clear hj
        refine V_ior G eX12_could_79 ?_
        refine V_istore_n (i := 3) (L' := (fun x5 => [some (.ref (wad w 12 0)), some (.int v1), some (.int v2), some (.int x5), some (.int v4)])) G rfl eX12_could_80 (by decide) rfl (fun _ => rfl) h (fun x5 h => ?_)
        refine V_iinc (z := (nI 1)) (L' := (fun x6 => [some (.ref (wad w 12 0)), some (.int v1), some (.int v2), some (.int x5), some (.int x6)])) G eX12_could_81 rfl rfl (by decide) rfl (fun _ => rfl) h (fun x6 h => ?_)
        refine V_goto G eX12_could_84 ?_
        exact (ih h K)
      replace h := hj
      clear hj
      refine V_icmp_ne G eX12_could_68 h (fun h => ?_) (fun h => ?_)
      · refine V_iconst (n := 0) (v := (nI 0)) G eX12_could_78 rfl ?_
        cases h; exact V_sub (lS_s (lS_s (lS_s (lS_n (lS_s lS_0))))) J
      · refine V_iconst (n := 1) (v := (nI 1)) G eX12_could_71 rfl ?_
        refine V_iload G eX12_could_72 rfl ?_
        refine V_ishl G eX12_could_74 ?_
        refine V_goto G eX12_could_75 ?_
        cases h; exact V_sub (lS_s (lS_s (lS_s (lS_n (lS_s lS_0))))) J
set_option maxRecDepth 100000 in
set_option maxHeartbeats 4000000 in
theorem M_could_run {p : Program} {l : Launch} {e : Env} {R : Room} {s : State} {m : MethodId} {args : Array Value} {below : List Frame} {meth : Method} {c : Code} {w : Wld} (G : Cxt p R s m args meth c w cX12_could 5 "PotBookModel" 4 0 0) (hr : meth.sig.returnType = some .int) {a1 : Int32} {μ : Mem} {r : Int32} {μ' : Mem} (h : M_could a1 μ = some (r, μ')) : Vj p l e R s m args below meth c w 5 0 0 (MQ below (QI w r μ') args s 0 0 w.2.2.2) 0 [some (.ref (wad w 12 0)), some (.int a1), none, none, none] [] μ := by
  unfold M_could at h
  refine V_iload_n (i := 1) G eX12_could_0 rfl rfl ?_
  refine V_iconst (n := 0) (v := (nI 0)) G eX12_could_1 rfl ?_
  refine V_aload_n (i := 0) G eX12_could_2 rfl rfl ?_
  refine V_get (v := .int (mI μ 1354 0 0)) G fgX12_394 rfl eX12_could_3 ?_
  refine V_iconst (n := 1) (v := (nI 1)) G eX12_could_6 rfl ?_
  refine V_isub G eX12_could_7 ?_
  obtain ⟨x1, h1, h⟩ := bdS h
  refine V_callIS (As := [.int a1, .int (nI 0), .int ((mI μ 1354 0 0) - (nI 1))]) (st := []) G lkX12_198 (M_in_ok (μ := μ) h1) (by decide) rfl rfl (Nat.le_of_ble_eq_true rfl) eX12_could_8 ?_
  refine V_if_ne G eX12_could_11 h (fun h => ?_) (fun h => ?_)
  · refine V_aload_n (i := 0) G eX12_could_16 rfl rfl ?_
    refine V_iconst (n := -1) (v := (-1)) G eX12_could_17 rfl ?_
    refine V_iconst (n := 0) (v := (nI 0)) G eX12_could_18 rfl ?_
    obtain ⟨μ2, h1, h⟩ := bdS h
    refine V_callV (As := [.int (-1), .int (nI 0)]) (st := []) G lkX12_405 (M_price_ok h1) (by decide) rfl rfl (Nat.le_of_ble_eq_true rfl) eX12_could_19 ?_
    refine V_aload_n (i := 0) G eX12_could_22 rfl rfl ?_
    refine V_get (v := .ref (wad w 1352 0)) G fgX12_129 rfl eX12_could_23 ?_
    refine V_bipush (n := 96) (v := (nI 96)) G eX12_could_26 rfl ?_
    refine V_aload_n (i := 0) G eX12_could_28 rfl rfl ?_
    obtain ⟨x3, h1, h⟩ := bdS h
    refine V_callI (As := []) (st := [.int (nI 96), .ref (wad w 1352 0)]) G lkX12_410 (M_leastFirst_ok h1) (by decide) rfl rfl (Nat.le_of_ble_eq_true rfl) eX12_could_29 ?_
    refine V_iadd G eX12_could_32 ?_
    refine V_iald G al_1352 (by decide) eX12_could_33 h (fun x4 h => ?_)
    refine V_istoreA_n (i := 2) (L' := [some (.ref (wad w 12 0)), some (.int a1), some (.int x4), none, none]) G rfl eX12_could_34 (by decide) rfl rfl ?_
    refine V_iconst (n := 0) (v := (nI 0)) G eX12_could_35 rfl ?_
    refine V_istoreA_n (i := 3) (L' := [some (.ref (wad w 12 0)), some (.int a1), some (.int x4), some (.int (nI 0)), none]) G rfl eX12_could_36 (by decide) rfl rfl ?_
    refine V_iconst (n := 0) (v := (nI 0)) G eX12_could_37 rfl ?_
    refine V_istoreA (i := 4) (L' := [some (.ref (wad w 12 0)), some (.int a1), some (.int x4), some (.int (nI 0)), some (.int (nI 0))]) G eX12_could_38 (by decide) rfl rfl ?_
    obtain ⟨⟨x5, μ6⟩, h1, h⟩ := bdS h
    refine M_could_l1_ok G h1 ?_
    refine V_iload_n (i := 3) G eX12_could_87 rfl rfl ?_
    exact V_riM G hr eX12_could_88 h
  · refine V_iconst (n := -1) (v := (-1)) G eX12_could_14 rfl ?_
    exact V_riM G hr eX12_could_15 h
theorem M_could_ok {l : Launch} {w : Wld} {a1 : Int32} {μ : Mem} {r : Int32} {μ' : Mem} (h : M_could a1 μ = some (r, μ')) : CtI l w yX12_could cX12_could 5 .int 4 [.ref (wad w 12 0), .int a1] μ r μ' :=
  Ct_of (own := "PotBookModel") [some (.ref (wad w 12 0)), some (.int a1), none, none, none] (by decide +kernel) rfl rfl (Nat.le_of_ble_eq_true rfl) fun p e s m args below meth c G hr => M_could_run G hr h
set_option maxRecDepth 100000 in
set_option maxHeartbeats 4000000 in
theorem M_day_run {p : Program} {l : Launch} {e : Env} {R : Room} {s : State} {m : MethodId} {args : Array Value} {below : List Frame} {meth : Method} {c : Code} {w : Wld} (G : Cxt p R s m args meth c w cX12_day 3 "PotBookModel" 2 0 0) (hr : meth.sig.returnType = some .int) {a1 : Int32} {a2 : Int32} {μ : Mem} {r : Int32} {μ' : Mem} (h : M_day a1 a2 μ = some (r, μ')) : Vj p l e R s m args below meth c w 3 0 0 (MQ below (QI w r μ') args s 0 0 w.2.2.2) 0 [some (.ref (wad w 12 0)), some (.int a1), some (.int a2)] [] μ := by
  unfold M_day at h
  refine V_iload_n (i := 1) G eX12_day_0 rfl rfl ?_
  refine V_iconst (n := 1) (v := (nI 1)) G eX12_day_1 rfl ?_
  refine V_bipush (n := 12) (v := (nI 12)) G eX12_day_2 rfl ?_
  obtain ⟨x1, h1, h⟩ := bdS h
  refine V_callIS (As := [.int a1, .int (nI 1), .int (nI 12)]) (st := []) G lkX12_198 (M_in_ok (μ := μ) h1) (by decide) rfl rfl (Nat.le_of_ble_eq_true rfl) eX12_day_4 ?_
  refine V_if_eq G eX12_day_7 h (fun h => ?_) (fun h => ?_)
  · refine V_iconst (n := -1) (v := (-1)) G eX12_day_19 rfl ?_
    exact V_riM G hr eX12_day_20 h
  · refine V_aload_n (i := 0) G eX12_day_10 rfl rfl ?_
    refine V_get (v := .int (mI μ 1358 0 0)) G fgX12_413 rfl eX12_day_11 ?_
    refine V_bipush (n := 10) (v := (nI 10)) G eX12_day_14 rfl ?_
    refine V_icmp_ne G eX12_day_16 h (fun h => ?_) (fun h => ?_)
    · refine V_aload_n (i := 0) G eX12_day_21 rfl rfl ?_
      refine V_get (v := .ref (wad w 1355 0)) G fgX12_136 rfl eX12_day_22 ?_
      refine V_aload_n (i := 0) G eX12_day_25 rfl rfl ?_
      refine V_get (v := .int (mI μ 1358 0 0)) G fgX12_413 rfl eX12_day_26 ?_
      refine V_iload_n (i := 1) G eX12_day_29 rfl rfl ?_
      refine V_iast G al_1355 (by decide) eX12_day_30 h (fun μ2 h => ?_)
      refine V_aload_n (i := 0) G eX12_day_31 rfl rfl ?_
      refine V_get (v := .ref (wad w 1356 0)) G fgX12_139 rfl eX12_day_32 ?_
      refine V_aload_n (i := 0) G eX12_day_35 rfl rfl ?_
      refine V_get (v := .int (mI μ2 1358 0 0)) G fgX12_413 rfl eX12_day_36 ?_
      refine V_iload_n (i := 2) G eX12_day_39 rfl rfl ?_
      refine V_zast G al_1356 (by decide) eX12_day_40 h (fun μ3 h => ?_)
      refine V_aload_n (i := 0) G eX12_day_41 rfl rfl ?_
      refine V_dup G eX12_day_42 rfl ?_
      refine V_get (v := .int (mI μ3 1358 0 0)) G fgX12_413 rfl eX12_day_43 ?_
      refine V_iconst (n := 1) (v := (nI 1)) G eX12_day_46 rfl ?_
      refine V_iadd G eX12_day_47 ?_
      refine V_put G fgX12_413 fp_12_58 eX12_day_48 h (fun μ4 h => ?_)
      refine V_aload_n (i := 0) G eX12_day_51 rfl rfl ?_
      refine V_get (v := .int (mI μ4 1358 0 0)) G fgX12_413 rfl eX12_day_52 ?_
      refine V_iconst (n := 1) (v := (nI 1)) G eX12_day_55 rfl ?_
      refine V_isub G eX12_day_56 ?_
      exact V_riM G hr eX12_day_57 h
    · refine V_iconst (n := -1) (v := (-1)) G eX12_day_19 rfl ?_
      exact V_riM G hr eX12_day_20 h
theorem M_day_ok {l : Launch} {w : Wld} {a1 : Int32} {a2 : Int32} {μ : Mem} {r : Int32} {μ' : Mem} (h : M_day a1 a2 μ = some (r, μ')) : CtI l w yX12_day cX12_day 3 .int 2 [.ref (wad w 12 0), .int a1, .int a2] μ r μ' :=
  Ct_of (own := "PotBookModel") [some (.ref (wad w 12 0)), some (.int a1), some (.int a2)] (by decide +kernel) rfl rfl (Nat.le_of_ble_eq_true rfl) fun p e s m args below meth c G hr => M_day_run G hr h
set_option maxRecDepth 100000 in
set_option maxHeartbeats 4000000 in
theorem M_isDay_run {p : Program} {l : Launch} {e : Env} {R : Room} {s : State} {m : MethodId} {args : Array Value} {below : List Frame} {meth : Method} {c : Code} {w : Wld} (G : Cxt p R s m args meth c w cX12_isDay 2 "PotBookModel" 2 0 0) (hr : meth.sig.returnType = some .boolean) {a1 : Int32} {μ : Mem} {r : Int32} (h : M_isDay a1 μ = some r) : Vj p l e R s m args below meth c w 2 0 0 (MQ below (QI w r μ) args s 0 0 w.2.2.2) 0 [some (.ref (wad w 12 0)), some (.int a1)] [] μ := by
  unfold M_isDay at h
  refine V_iload_n (i := 1) G eX12_isDay_0 rfl rfl ?_
  refine V_iconst (n := 0) (v := (nI 0)) G eX12_isDay_1 rfl ?_
  refine V_aload_n (i := 0) G eX12_isDay_2 rfl rfl ?_
  refine V_get (v := .int (mI μ 1358 0 0)) G fgX12_413 rfl eX12_isDay_3 ?_
  refine V_iconst (n := 1) (v := (nI 1)) G eX12_isDay_6 rfl ?_
  refine V_isub G eX12_isDay_7 ?_
  obtain ⟨x1, h1, h⟩ := bdS h
  refine V_callIS (As := [.int a1, .int (nI 0), .int ((mI μ 1358 0 0) - (nI 1))]) (st := []) G lkX12_198 (M_in_ok (μ := μ) h1) (by decide) rfl rfl (Nat.le_of_ble_eq_true rfl) eX12_isDay_8 ?_
  exact V_rz G hr eX12_isDay_11 h
theorem M_isDay_ok {l : Launch} {w : Wld} {a1 : Int32} {μ : Mem} {r : Int32} (h : M_isDay a1 μ = some r) : CtI l w yX12_isDay cX12_isDay 2 .boolean 2 [.ref (wad w 12 0), .int a1] μ r μ :=
  Ct_of (own := "PotBookModel") [some (.ref (wad w 12 0)), some (.int a1)] (by decide +kernel) rfl rfl (Nat.le_of_ble_eq_true rfl) fun p e s m args below meth c G hr => M_isDay_run G hr h
set_option maxRecDepth 100000 in
set_option maxHeartbeats 4000000 in
theorem M_bought_run {p : Program} {l : Launch} {e : Env} {R : Room} {s : State} {m : MethodId} {args : Array Value} {below : List Frame} {meth : Method} {c : Code} {w : Wld} (G : Cxt p R s m args meth c w cX12_bought 4 "PotBookModel" 3 0 0) (hr : meth.sig.returnType = some .boolean) {a1 : Int32} {a2 : Int32} {a3 : Int32} {μ : Mem} {r : Int32} {μ' : Mem} (h : M_bought a1 a2 a3 μ = some (r, μ')) : Vj p l e R s m args below meth c w 4 0 0 (MQ below (QI w r μ') args s 0 0 w.2.2.2) 0 [some (.ref (wad w 12 0)), some (.int a1), some (.int a2), some (.int a3)] [] μ := by
  unfold M_bought at h
  refine V_aload_n (i := 0) G eX12_bought_0 rfl rfl ?_
  refine V_iload_n (i := 1) G eX12_bought_1 rfl rfl ?_
  obtain ⟨x1, h1, h⟩ := bdS h
  refine V_callI (As := [.int a1]) (st := []) G lkX12_416 (M_isDay_ok h1) (by decide) rfl rfl (Nat.le_of_ble_eq_true rfl) eX12_bought_2 ?_
  refine V_if_eq G eX12_bought_5 h (fun h => ?_) (fun h => ?_)
  · refine V_iconst (n := 0) (v := (nI 0)) G eX12_bought_27 rfl ?_
    exact V_rzM G hr eX12_bought_28 h
  · refine V_aload_n (i := 0) G eX12_bought_8 rfl rfl ?_
    refine V_iload_n (i := 2) G eX12_bought_9 rfl rfl ?_
    obtain ⟨x2, h1, h⟩ := bdS h
    refine V_callI (As := [.int a2]) (st := []) G lkX12_202 (M_isThing_ok h1) (by decide) rfl rfl (Nat.le_of_ble_eq_true rfl) eX12_bought_10 ?_
    refine V_if_eq G eX12_bought_13 h (fun h => ?_) (fun h => ?_)
    · refine V_iconst (n := 0) (v := (nI 0)) G eX12_bought_27 rfl ?_
      exact V_rzM G hr eX12_bought_28 h
    · refine V_iload_n (i := 3) G eX12_bought_16 rfl rfl ?_
      refine V_iconst (n := 0) (v := (nI 0)) G eX12_bought_17 rfl ?_
      refine V_sipush (n := 999) (v := (nI 999)) G eX12_bought_18 rfl ?_
      obtain ⟨x3, h1, h⟩ := bdS h
      refine V_callIS (As := [.int a3, .int (nI 0), .int (nI 999)]) (st := []) G lkX12_198 (M_in_ok (μ := μ) h1) (by decide) rfl rfl (Nat.le_of_ble_eq_true rfl) eX12_bought_21 ?_
      refine V_if_ne G eX12_bought_24 h (fun h => ?_) (fun h => ?_)
      · refine V_aload_n (i := 0) G eX12_bought_29 rfl rfl ?_
        refine V_get (v := .ref (wad w 1357 0)) G fgX12_142 rfl eX12_bought_30 ?_
        refine V_bipush (n := 12) (v := (nI 12)) G eX12_bought_33 rfl ?_
        refine V_iload_n (i := 1) G eX12_bought_35 rfl rfl ?_
        refine V_imul G eX12_bought_36 ?_
        refine V_iload_n (i := 2) G eX12_bought_37 rfl rfl ?_
        refine V_iadd G eX12_bought_38 ?_
        refine V_iload_n (i := 3) G eX12_bought_39 rfl rfl ?_
        refine V_iast G al_1357 (by decide) eX12_bought_40 h (fun μ4 h => ?_)
        refine V_iconst (n := 1) (v := (nI 1)) G eX12_bought_41 rfl ?_
        exact V_rzM G hr eX12_bought_42 h
      · refine V_iconst (n := 0) (v := (nI 0)) G eX12_bought_27 rfl ?_
        exact V_rzM G hr eX12_bought_28 h
theorem M_bought_ok {l : Launch} {w : Wld} {a1 : Int32} {a2 : Int32} {a3 : Int32} {μ : Mem} {r : Int32} {μ' : Mem} (h : M_bought a1 a2 a3 μ = some (r, μ')) : CtI l w yX12_bought cX12_bought 4 .boolean 3 [.ref (wad w 12 0), .int a1, .int a2, .int a3] μ r μ' :=
  Ct_of (own := "PotBookModel") [some (.ref (wad w 12 0)), some (.int a1), some (.int a2), some (.int a3)] (by decide +kernel) rfl rfl (Nat.le_of_ble_eq_true rfl) fun p e s m args below meth c G hr => M_bought_run G hr h
set_option maxRecDepth 100000 in
set_option maxHeartbeats 4000000 in
theorem M_monthsOf_l1_ok {p : Program} {l : Launch} {e : Env} {R : Room} {s : State} {m : MethodId} {args : Array Value} {below : List Frame} {meth : Method} {c : Code} {w : Wld} {Q : State → Prop} (G : Cxt p R s m args meth c w cX12_monthsOf 4 "PotBookModel" 1 0 0) {v1 : Int32} {μ : Mem} {o1 : Int32} : ∀ {n : Nat} {v2 : Int32} {v3 : Int32}, M_monthsOf_l1 v1 μ n v2 v3 = some o1 → Vj p l e R s m args below meth c w 4 0 0 Q 41 [none, none, some (.int o1), none] [] μ → Vj p l e R s m args below meth c w 4 0 0 Q 6 [some (.ref (wad w 12 0)), some (.int v1), some (.int v2), some (.int v3)] [] μ := by
  intro n
  induction n with
  | zero => intro v2 v3 h K; exact noS h
  | succ n ih =>
    intro v2 v3 h K
    replace h : M_monthsOf_l1b v1 μ (M_monthsOf_l1 v1 μ n) v2 v3 = some o1 := h
    unfold M_monthsOf_l1b at h
    refine V_iload_n (i := 3) G eX12_monthsOf_6 rfl rfl ?_
    refine V_aload_n (i := 0) G eX12_monthsOf_7 rfl rfl ?_
    refine V_get (v := .ref (wad w 1315 0)) G fgX12_38 rfl eX12_monthsOf_8 ?_
    refine V_iload_n (i := 1) G eX12_monthsOf_11 rfl rfl ?_
    refine V_iald G al_1315 (by decide) eX12_monthsOf_12 h (fun x1 h => ?_)
    refine V_icmp_ge G eX12_monthsOf_13 h (fun h => ?_) (fun h => ?_)
    · cases h; exact V_sub (lS_n (lS_n (lS_s (lS_n lS_0)))) K
    · refine V_iload_n (i := 2) G eX12_monthsOf_16 rfl rfl ?_
      refine V_aload_n (i := 0) G eX12_monthsOf_17 rfl rfl ?_
      refine V_get (v := .ref (wad w 1310 0)) G fgX12_26 rfl eX12_monthsOf_18 ?_
      refine V_aload_n (i := 0) G eX12_monthsOf_21 rfl rfl ?_
      refine V_get (v := .ref (wad w 1316 0)) G fgX12_41 rfl eX12_monthsOf_22 ?_
      refine V_bipush (n := 8) (v := (nI 8)) G eX12_monthsOf_25 rfl ?_
      refine V_iload_n (i := 1) G eX12_monthsOf_27 rfl rfl ?_
      refine V_imul G eX12_monthsOf_28 ?_
      refine V_iload_n (i := 3) G eX12_monthsOf_29 rfl rfl ?_
      refine V_iadd G eX12_monthsOf_30 ?_
      refine V_iald G al_1316 (by decide) eX12_monthsOf_31 h (fun x2 h => ?_)
      refine V_iald G al_1310 (by decide) eX12_monthsOf_32 h (fun x3 h => ?_)
      refine V_iand G eX12_monthsOf_33 ?_
      refine V_istore_n (i := 2) (L' := (fun x4 => [some (.ref (wad w 12 0)), some (.int v1), some (.int x4), some (.int v3)])) G rfl eX12_monthsOf_34 (by decide) rfl (fun _ => rfl) h (fun x4 h => ?_)
      refine V_iinc (z := (nI 1)) (L' := (fun x5 => [some (.ref (wad w 12 0)), some (.int v1), some (.int x4), some (.int x5)])) G eX12_monthsOf_35 rfl rfl (by decide) rfl (fun _ => rfl) h (fun x5 h => ?_)
      refine V_goto G eX12_monthsOf_38 ?_
      exact (ih h K)
set_option maxRecDepth 100000 in
set_option maxHeartbeats 4000000 in
theorem M_monthsOf_run {p : Program} {l : Launch} {e : Env} {R : Room} {s : State} {m : MethodId} {args : Array Value} {below : List Frame} {meth : Method} {c : Code} {w : Wld} (G : Cxt p R s m args meth c w cX12_monthsOf 4 "PotBookModel" 1 0 0) (hr : meth.sig.returnType = some .int) {a1 : Int32} {μ : Mem} {r : Int32} (h : M_monthsOf a1 μ = some r) : Vj p l e R s m args below meth c w 4 0 0 (MQ below (QI w r μ) args s 0 0 w.2.2.2) 0 [some (.ref (wad w 12 0)), some (.int a1), none, none] [] μ := by
  unfold M_monthsOf at h
  refine V_sipush (n := 4095) (v := (nI 4095)) G eX12_monthsOf_0 rfl ?_
  refine V_istoreA_n (i := 2) (L' := [some (.ref (wad w 12 0)), some (.int a1), some (.int (nI 4095)), none]) G rfl eX12_monthsOf_3 (by decide) rfl rfl ?_
  refine V_iconst (n := 0) (v := (nI 0)) G eX12_monthsOf_4 rfl ?_
  refine V_istoreA_n (i := 3) (L' := [some (.ref (wad w 12 0)), some (.int a1), some (.int (nI 4095)), some (.int (nI 0))]) G rfl eX12_monthsOf_5 (by decide) rfl rfl ?_
  obtain ⟨x1, h1, h⟩ := bdS h
  refine M_monthsOf_l1_ok G h1 ?_
  refine V_iload_n (i := 2) G eX12_monthsOf_41 rfl rfl ?_
  exact V_ri G hr eX12_monthsOf_42 h
theorem M_monthsOf_ok {l : Launch} {w : Wld} {a1 : Int32} {μ : Mem} {r : Int32} (h : M_monthsOf a1 μ = some r) : CtI l w yX12_monthsOf cX12_monthsOf 4 .int 1 [.ref (wad w 12 0), .int a1] μ r μ :=
  Ct_of (own := "PotBookModel") [some (.ref (wad w 12 0)), some (.int a1), none, none] (by decide +kernel) rfl rfl (Nat.le_of_ble_eq_true rfl) fun p e s m args below meth c G hr => M_monthsOf_run G hr h
set_option maxRecDepth 100000 in
set_option maxHeartbeats 4000000 in
theorem M_hasFlesh_l1_ok {p : Program} {l : Launch} {e : Env} {R : Room} {s : State} {m : MethodId} {args : Array Value} {below : List Frame} {meth : Method} {c : Code} {w : Wld} (G : Cxt p R s m args meth c w cX12_hasFlesh 3 "PotBookModel" 1 0 0) (hr : meth.sig.returnType = some .boolean) {v1 : Int32} {μ : Mem} {r : Int32} : ∀ {n : Nat} {v2 : Int32}, M_hasFlesh_l1 v1 μ n v2 = some r → Vj p l e R s m args below meth c w 3 0 0 (MQ below (QI w r μ) args s 0 0 w.2.2.2) 2 [some (.ref (wad w 12 0)), some (.int v1), some (.int v2)] [] μ := by
  intro n
  induction n with
  | zero => intro v2 h; exact noS h
  | succ n ih =>
    intro v2 h
    replace h : M_hasFlesh_l1b v1 μ (M_hasFlesh_l1 v1 μ n) v2 = some r := h
    unfold M_hasFlesh_l1b at h
    refine V_iload_n (i := 2) G eX12_hasFlesh_2 rfl rfl ?_
    refine V_aload_n (i := 0) G eX12_hasFlesh_3 rfl rfl ?_
    refine V_get (v := .ref (wad w 1315 0)) G fgX12_38 rfl eX12_hasFlesh_4 ?_
    refine V_iload_n (i := 1) G eX12_hasFlesh_7 rfl rfl ?_
    refine V_iald G al_1315 (by decide) eX12_hasFlesh_8 h (fun x1 h => ?_)
    refine V_icmp_ge G eX12_hasFlesh_9 h (fun h => ?_) (fun h => ?_)
    · refine V_iconst (n := 0) (v := (nI 0)) G eX12_hasFlesh_39 rfl ?_
      exact V_rz G hr eX12_hasFlesh_40 h
    · refine V_aload_n (i := 0) G eX12_hasFlesh_12 rfl rfl ?_
      refine V_get (v := .ref (wad w 1309 0)) G fgX12_22 rfl eX12_hasFlesh_13 ?_
      refine V_aload_n (i := 0) G eX12_hasFlesh_16 rfl rfl ?_
      refine V_get (v := .ref (wad w 1316 0)) G fgX12_41 rfl eX12_hasFlesh_17 ?_
      refine V_bipush (n := 8) (v := (nI 8)) G eX12_hasFlesh_20 rfl ?_
      refine V_iload_n (i := 1) G eX12_hasFlesh_22 rfl rfl ?_
      refine V_imul G eX12_hasFlesh_23 ?_
      refine V_iload_n (i := 2) G eX12_hasFlesh_24 rfl rfl ?_
      refine V_iadd G eX12_hasFlesh_25 ?_
      refine V_iald G al_1316 (by decide) eX12_hasFlesh_26 h (fun x2 h => ?_)
      refine V_zald G al_1309 (by decide) eX12_hasFlesh_27 h (fun x3 h => ?_)
      refine V_if_eq G eX12_hasFlesh_28 h (fun h => ?_) (fun h => ?_)
      · refine V_iinc (z := (nI 1)) (L' := (fun x4 => [some (.ref (wad w 12 0)), some (.int v1), some (.int x4)])) G eX12_hasFlesh_33 rfl rfl (by decide) rfl (fun _ => rfl) h (fun x4 h => ?_)
        refine V_goto G eX12_hasFlesh_36 ?_
        exact (ih h)
      · refine V_iconst (n := 1) (v := (nI 1)) G eX12_hasFlesh_31 rfl ?_
        exact V_rz G hr eX12_hasFlesh_32 h
set_option maxRecDepth 100000 in
set_option maxHeartbeats 4000000 in
theorem M_hasFlesh_run {p : Program} {l : Launch} {e : Env} {R : Room} {s : State} {m : MethodId} {args : Array Value} {below : List Frame} {meth : Method} {c : Code} {w : Wld} (G : Cxt p R s m args meth c w cX12_hasFlesh 3 "PotBookModel" 1 0 0) (hr : meth.sig.returnType = some .boolean) {a1 : Int32} {μ : Mem} {r : Int32} (h : M_hasFlesh a1 μ = some r) : Vj p l e R s m args below meth c w 3 0 0 (MQ below (QI w r μ) args s 0 0 w.2.2.2) 0 [some (.ref (wad w 12 0)), some (.int a1), none] [] μ := by
  unfold M_hasFlesh at h
  refine V_iconst (n := 0) (v := (nI 0)) G eX12_hasFlesh_0 rfl ?_
  refine V_istoreA_n (i := 2) (L' := [some (.ref (wad w 12 0)), some (.int a1), some (.int (nI 0))]) G rfl eX12_hasFlesh_1 (by decide) rfl rfl ?_
  exact M_hasFlesh_l1_ok G hr h
theorem M_hasFlesh_ok {l : Launch} {w : Wld} {a1 : Int32} {μ : Mem} {r : Int32} (h : M_hasFlesh a1 μ = some r) : CtI l w yX12_hasFlesh cX12_hasFlesh 3 .boolean 1 [.ref (wad w 12 0), .int a1] μ r μ :=
  Ct_of (own := "PotBookModel") [some (.ref (wad w 12 0)), some (.int a1), none] (by decide +kernel) rfl rfl (Nat.le_of_ble_eq_true rfl) fun p e s m args below meth c G hr => M_hasFlesh_run G hr h
set_option maxRecDepth 100000 in
set_option maxHeartbeats 4000000 in
theorem M_mayBe_run {p : Program} {l : Launch} {e : Env} {R : Room} {s : State} {m : MethodId} {args : Array Value} {below : List Frame} {meth : Method} {c : Code} {w : Wld} (G : Cxt p R s m args meth c w cX12_mayBe 3 "PotBookModel" 8 0 0) (hr : meth.sig.returnType = some .boolean) {a1 : Int32} {a2 : Int32} {μ : Mem} {r : Int32} {μ' : Mem} (h : M_mayBe a1 a2 μ = some (r, μ')) : Vj p l e R s m args below meth c w 3 0 0 (MQ below (QI w r μ') args s 0 0 w.2.2.2) 0 [some (.ref (wad w 12 0)), some (.int a1), some (.int a2)] [] μ := by
  unfold M_mayBe at h
  refine V_aload_n (i := 0) G eX12_mayBe_0 rfl rfl ?_
  refine V_iload_n (i := 2) G eX12_mayBe_1 rfl rfl ?_
  obtain ⟨x1, h1, h⟩ := bdS h
  refine V_callI (As := [.int a2]) (st := []) G lkX12_419 (M_monthsOf_ok h1) (by decide) rfl rfl (Nat.le_of_ble_eq_true rfl) eX12_mayBe_2 ?_
  refine V_aload_n (i := 0) G eX12_mayBe_5 rfl rfl ?_
  refine V_get (v := .ref (wad w 1355 0)) G fgX12_136 rfl eX12_mayBe_6 ?_
  refine V_iload_n (i := 1) G eX12_mayBe_9 rfl rfl ?_
  refine V_iald G al_1355 (by decide) eX12_mayBe_10 h (fun x2 h => ?_)
  refine V_iconst (n := 1) (v := (nI 1)) G eX12_mayBe_11 rfl ?_
  refine V_isub G eX12_mayBe_12 ?_
  obtain ⟨x3, h1, h⟩ := bdS h
  refine V_callIS (As := [.int x1, .int (x2 - (nI 1))]) (st := []) G lkX12_422 (M_has_ok (μ := μ) h1) (by decide) rfl rfl (Nat.le_of_ble_eq_true rfl) eX12_mayBe_13 ?_
  refine V_if_eq G eX12_mayBe_16 h (fun h => ?_) (fun h => ?_)
  · refine V_iconst (n := 0) (v := (nI 0)) G eX12_mayBe_56 rfl ?_
    exact V_rzM G hr eX12_mayBe_57 h
  · refine V_aload_n (i := 0) G eX12_mayBe_19 rfl rfl ?_
    refine V_get (v := .ref (wad w 1356 0)) G fgX12_139 rfl eX12_mayBe_20 ?_
    refine V_iload_n (i := 1) G eX12_mayBe_23 rfl rfl ?_
    refine V_zald G al_1356 (by decide) eX12_mayBe_24 h (fun x4 h => ?_)
    obtain ⟨k6, hkk6, h⟩ := kE h
    have Jk6 :  k6 () = some (r, μ') → Vj p l e R s m args below meth c w 3 0 0 (MQ below (QI w r μ') args s 0 0 w.2.2.2) 36 [some (.ref (wad w 12 0)), none, some (.int a2)] [] μ := by
      clear h
      intro h
      rw [hkk6] at h
      clear hkk6
      refine V_aload_n (i := 0) G eX12_mayBe_36 rfl rfl ?_
      refine V_iload_n (i := 2) G eX12_mayBe_37 rfl rfl ?_
      obtain ⟨⟨x7, μ8⟩, h1, h⟩ := bdS h
      refine V_callI (As := [.int a2]) (st := []) G lkX12_373 (M_findDishes_ok h1) (by decide) rfl rfl (Nat.le_of_ble_eq_true rfl) eX12_mayBe_38 ?_
      refine V_if_eq G eX12_mayBe_41 h (fun h => ?_) (fun h => ?_)
      · refine V_iconst (n := 0) (v := (nI 0)) G eX12_mayBe_56 rfl ?_
        exact V_rzM G hr eX12_mayBe_57 h
      · refine V_aload_n (i := 0) G eX12_mayBe_44 rfl rfl ?_
        refine V_get (v := .int (mI μ8 1342 0 0)) G fgX12_361 rfl eX12_mayBe_45 ?_
        refine V_iconst (n := 1) (v := (nI 1)) G eX12_mayBe_48 rfl ?_
        refine V_icmp_ne G eX12_mayBe_49 h (fun h => ?_) (fun h => ?_)
        · refine V_iconst (n := 0) (v := (nI 0)) G eX12_mayBe_56 rfl ?_
          exact V_rzM G hr eX12_mayBe_57 h
        · refine V_iconst (n := 1) (v := (nI 1)) G eX12_mayBe_52 rfl ?_
          refine V_goto G eX12_mayBe_53 ?_
          exact V_rzM G hr eX12_mayBe_57 h
    refine V_if_eq G eX12_mayBe_25 h (fun h => ?_) (fun h => ?_)
    · exact V_sub (lS_s (lS_n (lS_s lS_0))) (Jk6 h)
    · refine V_aload_n (i := 0) G eX12_mayBe_28 rfl rfl ?_
      refine V_iload_n (i := 2) G eX12_mayBe_29 rfl rfl ?_
      obtain ⟨x5, h1, h⟩ := bdS h
      refine V_callI (As := [.int a2]) (st := []) G lkX12_426 (M_hasFlesh_ok h1) (by decide) rfl rfl (Nat.le_of_ble_eq_true rfl) eX12_mayBe_30 ?_
      refine V_if_ne G eX12_mayBe_33 h (fun h => ?_) (fun h => ?_)
      · refine V_iconst (n := 0) (v := (nI 0)) G eX12_mayBe_56 rfl ?_
        exact V_rzM G hr eX12_mayBe_57 h
      · exact V_sub (lS_s (lS_n (lS_s lS_0))) (Jk6 h)
theorem M_mayBe_ok {l : Launch} {w : Wld} {a1 : Int32} {a2 : Int32} {μ : Mem} {r : Int32} {μ' : Mem} (h : M_mayBe a1 a2 μ = some (r, μ')) : CtI l w yX12_mayBe cX12_mayBe 3 .boolean 8 [.ref (wad w 12 0), .int a1, .int a2] μ r μ' :=
  Ct_of (own := "PotBookModel") [some (.ref (wad w 12 0)), some (.int a1), some (.int a2)] (by decide +kernel) rfl rfl (Nat.le_of_ble_eq_true rfl) fun p e s m args below meth c G hr => M_mayBe_run G hr h
set_option maxRecDepth 100000 in
set_option maxHeartbeats 4000000 in
theorem M_may_run {p : Program} {l : Launch} {e : Env} {R : Room} {s : State} {m : MethodId} {args : Array Value} {below : List Frame} {meth : Method} {c : Code} {w : Wld} (G : Cxt p R s m args meth c w cX12_may 3 "PotBookModel" 9 0 0) (hr : meth.sig.returnType = some .int) {a1 : Int32} {a2 : Int32} {μ : Mem} {r : Int32} {μ' : Mem} (h : M_may a1 a2 μ = some (r, μ')) : Vj p l e R s m args below meth c w 3 0 0 (MQ below (QI w r μ') args s 0 0 w.2.2.2) 0 [some (.ref (wad w 12 0)), some (.int a1), some (.int a2)] [] μ := by
  unfold M_may at h
  refine V_aload_n (i := 0) G eX12_may_0 rfl rfl ?_
  refine V_iload_n (i := 1) G eX12_may_1 rfl rfl ?_
  obtain ⟨x1, h1, h⟩ := bdS h
  refine V_callI (As := [.int a1]) (st := []) G lkX12_416 (M_isDay_ok h1) (by decide) rfl rfl (Nat.le_of_ble_eq_true rfl) eX12_may_2 ?_
  refine V_if_eq G eX12_may_5 h (fun h => ?_) (fun h => ?_)
  · refine V_iconst (n := -1) (v := (-1)) G eX12_may_33 rfl ?_
    exact V_riM G hr eX12_may_34 h
  · refine V_aload_n (i := 0) G eX12_may_8 rfl rfl ?_
    refine V_iload_n (i := 2) G eX12_may_9 rfl rfl ?_
    obtain ⟨x2, h1, h⟩ := bdS h
    refine V_callI (As := [.int a2]) (st := []) G lkX12_332 (M_isPage_ok h1) (by decide) rfl rfl (Nat.le_of_ble_eq_true rfl) eX12_may_10 ?_
    refine V_if_eq G eX12_may_13 h (fun h => ?_) (fun h => ?_)
    · refine V_iconst (n := -1) (v := (-1)) G eX12_may_33 rfl ?_
      exact V_riM G hr eX12_may_34 h
    · refine V_aload_n (i := 0) G eX12_may_16 rfl rfl ?_
      refine V_iload_n (i := 1) G eX12_may_17 rfl rfl ?_
      refine V_iload_n (i := 2) G eX12_may_18 rfl rfl ?_
      obtain ⟨⟨x3, μ4⟩, h1, h⟩ := bdS h
      refine V_callI (As := [.int a1, .int a2]) (st := []) G lkX12_429 (M_mayBe_ok h1) (by decide) rfl rfl (Nat.le_of_ble_eq_true rfl) eX12_may_19 ?_
      refine V_if_eq G eX12_may_22 h (fun h => ?_) (fun h => ?_)
      · refine V_iconst (n := 0) (v := (nI 0)) G eX12_may_29 rfl ?_
        refine V_goto G eX12_may_30 ?_
        exact V_riM G hr eX12_may_34 h
      · refine V_iconst (n := 1) (v := (nI 1)) G eX12_may_25 rfl ?_
        refine V_goto G eX12_may_26 ?_
        exact V_riM G hr eX12_may_34 h
theorem M_may_ok {l : Launch} {w : Wld} {a1 : Int32} {a2 : Int32} {μ : Mem} {r : Int32} {μ' : Mem} (h : M_may a1 a2 μ = some (r, μ')) : CtI l w yX12_may cX12_may 3 .int 9 [.ref (wad w 12 0), .int a1, .int a2] μ r μ' :=
  Ct_of (own := "PotBookModel") [some (.ref (wad w 12 0)), some (.int a1), some (.int a2)] (by decide +kernel) rfl rfl (Nat.le_of_ble_eq_true rfl) fun p e s m args below meth c G hr => M_may_run G hr h
set_option maxRecDepth 100000 in
set_option maxHeartbeats 4000000 in
theorem M_layMenu_l2_ok {p : Program} {l : Launch} {e : Env} {R : Room} {s : State} {m : MethodId} {args : Array Value} {below : List Frame} {meth : Method} {c : Code} {w : Wld} {Q : State → Prop} (G : Cxt p R s m args meth c w cX12_layMenu 6 "PotBookModel" 9 0 0) {v1 : Int32} {v2 : Int32} {v3 : Int32} {v4 : Int32} {μo : Mem} : ∀ {n : Nat} {v5 : Int32} {μ : Mem}, M_layMenu_l2 v1 v2 v3 v4 n v5 μ = some μo → Vj p l e R s m args below meth c w 6 0 0 Q 130 [some (.ref (wad w 12 0)), some (.int v1), some (.int v2), some (.int v3), some (.int v4), none] [] μo → Vj p l e R s m args below meth c w 6 0 0 Q 103 [some (.ref (wad w 12 0)), some (.int v1), some (.int v2), some (.int v3), some (.int v4), some (.int v5)] [] μ := by
  intro n
  induction n with
  | zero => intro v5 μ h K; exact noS h
  | succ n ih =>
    intro v5 μ h K
    replace h : M_layMenu_l2b v1 v2 v3 v4 (M_layMenu_l2 v1 v2 v3 v4 n) v5 μ = some μo := h
    unfold M_layMenu_l2b at h
    refine V_iload G eX12_layMenu_103 rfl ?_
    refine V_bipush (n := 12) (v := (nI 12)) G eX12_layMenu_105 rfl ?_
    refine V_icmp_ge G eX12_layMenu_107 h (fun h => ?_) (fun h => ?_)
    · cases h; exact V_sub (lS_s (lS_s (lS_s (lS_s (lS_s (lS_n lS_0)))))) K
    · refine V_aload_n (i := 0) G eX12_layMenu_110 rfl rfl ?_
      refine V_get (v := .ref (wad w 1361 0)) G fgX12_151 rfl eX12_layMenu_111 ?_
      refine V_bipush (n := 12) (v := (nI 12)) G eX12_layMenu_114 rfl ?_
      refine V_iload G eX12_layMenu_116 rfl ?_
      refine V_imul G eX12_layMenu_118 ?_
      refine V_iload G eX12_layMenu_119 rfl ?_
      refine V_iadd G eX12_layMenu_121 ?_
      refine V_iconst (n := 0) (v := (nI 0)) G eX12_layMenu_122 rfl ?_
      refine V_iast G al_1361 (by decide) eX12_layMenu_123 h (fun μ1 h => ?_)
      refine V_iinc (z := (nI 1)) (L' := (fun x2 => [some (.ref (wad w 12 0)), some (.int v1), some (.int v2), some (.int v3), some (.int v4), some (.int x2)])) G eX12_layMenu_124 rfl rfl (by decide) rfl (fun _ => rfl) h (fun x2 h => ?_)
      refine V_goto G eX12_layMenu_127 ?_
      exact (ih h K)
set_option maxRecDepth 100000 in
set_option maxHeartbeats 4000000 in
theorem M_layMenu_l3_ok {p : Program} {l : Launch} {e : Env} {R : Room} {s : State} {m : MethodId} {args : Array Value} {below : List Frame} {meth : Method} {c : Code} {w : Wld} {Q : State → Prop} (G : Cxt p R s m args meth c w cX12_layMenu 6 "PotBookModel" 9 0 0) {v1 : Int32} {v2 : Int32} {v3 : Int32} {v4 : Int32} {μo : Mem} : ∀ {n : Nat} {v5 : Int32} {μ : Mem}, M_layMenu_l3 v1 v2 v3 v4 n v5 μ = some μo → Vj p l e R s m args below meth c w 6 0 0 Q 201 [some (.ref (wad w 12 0)), some (.int v1), some (.int v2), some (.int v3), none, none] [] μo → Vj p l e R s m args below meth c w 6 0 0 Q 154 [some (.ref (wad w 12 0)), some (.int v1), some (.int v2), some (.int v3), some (.int v4), some (.int v5)] [] μ := by
  intro n
  induction n with
  | zero => intro v5 μ h K; exact noS h
  | succ n ih =>
    intro v5 μ h K
    replace h : M_layMenu_l3b v1 v2 v3 v4 (M_layMenu_l3 v1 v2 v3 v4 n) v5 μ = some μo := h
    unfold M_layMenu_l3b at h
    refine V_iload G eX12_layMenu_154 rfl ?_
    refine V_aload_n (i := 0) G eX12_layMenu_156 rfl rfl ?_
    refine V_get (v := .ref (wad w 1315 0)) G fgX12_38 rfl eX12_layMenu_157 ?_
    refine V_iload_n (i := 3) G eX12_layMenu_160 rfl rfl ?_
    refine V_iald G al_1315 (by decide) eX12_layMenu_161 h (fun x1 h => ?_)
    refine V_icmp_ge G eX12_layMenu_162 h (fun h => ?_) (fun h => ?_)
    · cases h; exact V_sub (lS_s (lS_s (lS_s (lS_s (lS_n (lS_n lS_0)))))) K
    · refine V_aload_n (i := 0) G eX12_layMenu_165 rfl rfl ?_
      refine V_get (v := .ref (wad w 1361 0)) G fgX12_151 rfl eX12_layMenu_166 ?_
      refine V_bipush (n := 12) (v := (nI 12)) G eX12_layMenu_169 rfl ?_
      refine V_iload G eX12_layMenu_171 rfl ?_
      refine V_imul G eX12_layMenu_173 ?_
      refine V_aload_n (i := 0) G eX12_layMenu_174 rfl rfl ?_
      refine V_get (v := .ref (wad w 1316 0)) G fgX12_41 rfl eX12_layMenu_175 ?_
      refine V_bipush (n := 8) (v := (nI 8)) G eX12_layMenu_178 rfl ?_
      refine V_iload_n (i := 3) G eX12_layMenu_180 rfl rfl ?_
      refine V_imul G eX12_layMenu_181 ?_
      refine V_iload G eX12_layMenu_182 rfl ?_
      refine V_iadd G eX12_layMenu_184 ?_
      refine V_iald G al_1316 (by decide) eX12_layMenu_185 h (fun x2 h => ?_)
      refine V_iadd G eX12_layMenu_186 ?_
      refine V_aload_n (i := 0) G eX12_layMenu_187 rfl rfl ?_
      refine V_get (v := .ref (wad w 1340 0)) G fgX12_102 rfl eX12_layMenu_188 ?_
      refine V_iload G eX12_layMenu_191 rfl ?_
      refine V_iald G al_1340 (by decide) eX12_layMenu_193 h (fun x3 h => ?_)
      refine V_iast G al_1361 (by decide) eX12_layMenu_194 h (fun μ4 h => ?_)
      refine V_iinc (z := (nI 1)) (L' := (fun x5 => [some (.ref (wad w 12 0)), some (.int v1), some (.int v2), some (.int v3), some (.int v4), some (.int x5)])) G eX12_layMenu_195 rfl rfl (by decide) rfl (fun _ => rfl) h (fun x5 h => ?_)
      refine V_goto G eX12_layMenu_198 ?_
      exact (ih h K)
set_option maxRecDepth 100000 in
set_option maxHeartbeats 4000000 in
theorem M_layMenu_l1_ok {p : Program} {l : Launch} {e : Env} {R : Room} {s : State} {m : MethodId} {args : Array Value} {below : List Frame} {meth : Method} {c : Code} {w : Wld} {Q : State → Prop} (G : Cxt p R s m args meth c w cX12_layMenu 6 "PotBookModel" 9 0 0) {v1 : Int32} {v2 : Int32} {μo : Mem} : ∀ {n : Nat} {v3 : Int32} {μ : Mem}, M_layMenu_l1 v1 v2 n v3 μ = some μo → Vj p l e R s m args below meth c w 6 0 0 Q 217 [none, none, none, none, none, none] [] μo → Vj p l e R s m args below meth c w 6 0 0 Q 43 [some (.ref (wad w 12 0)), some (.int v1), some (.int v2), some (.int v3), none, none] [] μ := by
  intro n
  induction n with
  | zero => intro v3 μ h K; exact noS h
  | succ n ih =>
    intro v3 μ h K
    replace h : M_layMenu_l1b v1 v2 (M_layMenu_l1 v1 v2 n) v3 μ = some μo := h
    unfold M_layMenu_l1b at h
    refine V_iload_n (i := 3) G eX12_layMenu_43 rfl rfl ?_
    refine V_aload_n (i := 0) G eX12_layMenu_44 rfl rfl ?_
    refine V_get (v := .int (mI μ 1322 0 0)) G fgX12_299 rfl eX12_layMenu_45 ?_
    refine V_icmp_ge G eX12_layMenu_48 h (fun h => ?_) (fun h => ?_)
    · cases h; exact V_sub (lS_n (lS_n (lS_n (lS_n (lS_n (lS_n lS_0)))))) K
    · refine V_iload_n (i := 2) G eX12_layMenu_51 rfl rfl ?_
      refine V_iload_n (i := 3) G eX12_layMenu_52 rfl rfl ?_
      obtain ⟨x1, h1, h⟩ := bdS h
      refine V_callIS (As := [.int v2, .int v3]) (st := []) G lkX12_422 (M_has_ok (μ := μ) h1) (by decide) rfl rfl (Nat.le_of_ble_eq_true rfl) eX12_layMenu_53 ?_
      obtain ⟨μ16, hj, h⟩ := bdS h
      have J : Vj p l e R s m args below meth c w 6 0 0 Q 211 [some (.ref (wad w 12 0)), some (.int v1), some (.int v2), some (.int v3), none, none] [] μ16 := by
        clear hj
        refine V_iinc (z := (nI 1)) (L' := (fun x17 => [some (.ref (wad w 12 0)), some (.int v1), some (.int v2), some (.int x17), none, none])) G eX12_layMenu_211 rfl rfl (by decide) rfl (fun _ => rfl) h (fun x17 h => ?_)
        refine V_goto G eX12_layMenu_214 ?_
        exact (ih h K)
      replace h := hj
      clear hj
      refine V_if_eq G eX12_layMenu_56 h (fun h => ?_) (fun h => ?_)
      · cases h; exact J
      · refine V_aload_n (i := 0) G eX12_layMenu_59 rfl rfl ?_
        refine V_get (v := .int (mI μ 1364 0 0)) G fgX12_435 rfl eX12_layMenu_60 ?_
        refine V_istore (i := 4) (L' := (fun x2 => [some (.ref (wad w 12 0)), some (.int v1), some (.int v2), some (.int v3), some (.int x2), none])) G eX12_layMenu_63 (by decide) rfl (fun _ => rfl) h (fun x2 h => ?_)
        refine V_aload_n (i := 0) G eX12_layMenu_65 rfl rfl ?_
        refine V_get (v := .ref (wad w 1359 0)) G fgX12_145 rfl eX12_layMenu_66 ?_
        refine V_iload G eX12_layMenu_69 rfl ?_
        refine V_iload_n (i := 3) G eX12_layMenu_71 rfl rfl ?_
        refine V_iast G al_1359 (by decide) eX12_layMenu_72 h (fun μ3 h => ?_)
        refine V_aload_n (i := 0) G eX12_layMenu_73 rfl rfl ?_
        refine V_get (v := .ref (wad w 1360 0)) G fgX12_148 rfl eX12_layMenu_74 ?_
        refine V_iload G eX12_layMenu_77 rfl ?_
        refine V_aload_n (i := 0) G eX12_layMenu_79 rfl rfl ?_
        refine V_iload_n (i := 1) G eX12_layMenu_80 rfl rfl ?_
        refine V_iload_n (i := 3) G eX12_layMenu_81 rfl rfl ?_
        obtain ⟨⟨x4, μ5⟩, h1, h⟩ := bdS h
        refine V_callI (As := [.int v1, .int v3]) (st := [.int x2, .ref (wad w 1360 0)]) G lkX12_429 (M_mayBe_ok h1) (by decide) rfl rfl (Nat.le_of_ble_eq_true rfl) eX12_layMenu_82 ?_
        refine V_zast G al_1360 (by decide) eX12_layMenu_85 h (fun μ6 h => ?_)
        refine V_aload_n (i := 0) G eX12_layMenu_86 rfl rfl ?_
        refine V_dup G eX12_layMenu_87 rfl ?_
        refine V_get (v := .int (mI μ6 1365 0 0)) G fgX12_438 rfl eX12_layMenu_88 ?_
        refine V_aload_n (i := 0) G eX12_layMenu_91 rfl rfl ?_
        refine V_iload_n (i := 3) G eX12_layMenu_92 rfl rfl ?_
        obtain ⟨x7, h1, h⟩ := bdS h
        refine V_callI (As := [.int v3]) (st := [.int (mI μ6 1365 0 0), .ref (wad w 12 0)]) G lkX12_335 (M_thingsOf_ok h1) (by decide) rfl rfl (Nat.le_of_ble_eq_true rfl) eX12_layMenu_93 ?_
        refine V_ior G eX12_layMenu_96 ?_
        refine V_put G fgX12_438 fp_12_65 eX12_layMenu_97 h (fun μ8 h => ?_)
        refine V_iconst (n := 0) (v := (nI 0)) G eX12_layMenu_100 rfl ?_
        refine V_istoreA (i := 5) (L' := [some (.ref (wad w 12 0)), some (.int v1), some (.int v2), some (.int v3), some (.int x2), some (.int (nI 0))]) G eX12_layMenu_101 (by decide) rfl rfl ?_
        obtain ⟨μ9, h1, h⟩ := bdS h
        refine M_layMenu_l2_ok G h1 ?_
        refine V_aload_n (i := 0) G eX12_layMenu_130 rfl rfl ?_
        refine V_get (v := .ref (wad w 1360 0)) G fgX12_148 rfl eX12_layMenu_131 ?_
        refine V_iload G eX12_layMenu_134 rfl ?_
        refine V_zald G al_1360 (by decide) eX12_layMenu_136 h (fun x10 h => ?_)
        obtain ⟨μ14, hj, h⟩ := bdS h
        have J : Vj p l e R s m args below meth c w 6 0 0 Q 201 [some (.ref (wad w 12 0)), some (.int v1), some (.int v2), some (.int v3), none, none] [] μ14 := by
          clear hj
          refine V_aload_n (i := 0) G eX12_layMenu_201 rfl rfl ?_
          refine V_dup G eX12_layMenu_202 rfl ?_
          refine V_get (v := .int (mI μ14 1364 0 0)) G fgX12_435 rfl eX12_layMenu_203 ?_
          refine V_iconst (n := 1) (v := (nI 1)) G eX12_layMenu_206 rfl ?_
          refine V_iadd G eX12_layMenu_207 ?_
          refine V_put G fgX12_435 fp_12_64 eX12_layMenu_208 h (fun μ15 h => ?_)
          cases h; exact J
        replace h := hj
        clear hj
        refine V_if_eq G eX12_layMenu_137 h (fun h => ?_) (fun h => ?_)
        · cases h; exact V_sub (lS_s (lS_s (lS_s (lS_s (lS_n (lS_n lS_0)))))) J
        · refine V_aload_n (i := 0) G eX12_layMenu_140 rfl rfl ?_
          refine V_iload_n (i := 3) G eX12_layMenu_141 rfl rfl ?_
          refine V_aload_n (i := 0) G eX12_layMenu_142 rfl rfl ?_
          refine V_get (v := .ref (wad w 1341 0)) G fgX12_105 rfl eX12_layMenu_143 ?_
          refine V_iconst (n := 0) (v := (nI 0)) G eX12_layMenu_146 rfl ?_
          refine V_iald G al_1341 (by decide) eX12_layMenu_147 h (fun x11 h => ?_)
          obtain ⟨μ12, h1, h⟩ := bdS h
          refine V_callV (As := [.int v3, .int x11]) (st := []) G lkX12_364 (M_lay_ok h1) (by decide) rfl rfl (Nat.le_of_ble_eq_true rfl) eX12_layMenu_148 ?_
          refine V_iconst (n := 0) (v := (nI 0)) G eX12_layMenu_151 rfl ?_
          refine V_istoreA (i := 5) (L' := [some (.ref (wad w 12 0)), some (.int v1), some (.int v2), some (.int v3), some (.int x2), some (.int (nI 0))]) G eX12_layMenu_152 (by decide) rfl rfl ?_
          obtain ⟨μ13, h1, h⟩ := bdS h
          refine M_layMenu_l3_ok G h1 ?_
          cases h; exact J
set_option maxRecDepth 100000 in
set_option maxHeartbeats 4000000 in
theorem M_layMenu_run {p : Program} {l : Launch} {e : Env} {R : Room} {s : State} {m : MethodId} {args : Array Value} {below : List Frame} {meth : Method} {c : Code} {w : Wld} (G : Cxt p R s m args meth c w cX12_layMenu 6 "PotBookModel" 9 0 0) (hr : meth.sig.returnType = some .boolean) {a1 : Int32} {a2 : Int32} {μ : Mem} {r : Int32} {μ' : Mem} (h : M_layMenu a1 a2 μ = some (r, μ')) : Vj p l e R s m args below meth c w 6 0 0 (MQ below (QI w r μ') args s 0 0 w.2.2.2) 0 [some (.ref (wad w 12 0)), some (.int a1), some (.int a2), none, none, none] [] μ := by
  unfold M_layMenu at h
  refine V_aload_n (i := 0) G eX12_layMenu_0 rfl rfl ?_
  refine V_iload_n (i := 1) G eX12_layMenu_1 rfl rfl ?_
  obtain ⟨x1, h1, h⟩ := bdS h
  refine V_callI (As := [.int a1]) (st := []) G lkX12_416 (M_isDay_ok h1) (by decide) rfl rfl (Nat.le_of_ble_eq_true rfl) eX12_layMenu_2 ?_
  refine V_if_eq G eX12_layMenu_5 h (fun h => ?_) (fun h => ?_)
  · refine V_iconst (n := 0) (v := (nI 0)) G eX12_layMenu_29 rfl ?_
    exact V_rzM G hr eX12_layMenu_30 h
  · refine V_iload_n (i := 2) G eX12_layMenu_8 rfl rfl ?_
    refine V_if_le G eX12_layMenu_9 h (fun h => ?_) (fun h => ?_)
    · refine V_iconst (n := 0) (v := (nI 0)) G eX12_layMenu_29 rfl ?_
      exact V_rzM G hr eX12_layMenu_30 h
    · refine V_iload_n (i := 2) G eX12_layMenu_12 rfl rfl ?_
      refine V_aload_n (i := 0) G eX12_layMenu_13 rfl rfl ?_
      refine V_get (v := .int (mI μ 1322 0 0)) G fgX12_299 rfl eX12_layMenu_14 ?_
      refine V_ishr G eX12_layMenu_17 ?_
      refine V_if_ne G eX12_layMenu_18 h (fun h => ?_) (fun h => ?_)
      · refine V_iconst (n := 0) (v := (nI 0)) G eX12_layMenu_29 rfl ?_
        exact V_rzM G hr eX12_layMenu_30 h
      · refine V_iload_n (i := 2) G eX12_layMenu_21 rfl rfl ?_
        obtain ⟨x2, h1, h⟩ := bdS h
        refine V_callIS (As := [.int a2]) (st := []) G lkX12_432 (M_bits_ok (μ := μ) h1) (by decide) rfl rfl (Nat.le_of_ble_eq_true rfl) eX12_layMenu_22 ?_
        refine V_iconst (n := 5) (v := (nI 5)) G eX12_layMenu_25 rfl ?_
        refine V_icmp_le G eX12_layMenu_26 h (fun h => ?_) (fun h => ?_)
        · refine V_aload_n (i := 0) G eX12_layMenu_31 rfl rfl ?_
          refine V_iconst (n := 0) (v := (nI 0)) G eX12_layMenu_32 rfl ?_
          refine V_put G fgX12_435 fp_12_64 eX12_layMenu_33 h (fun μ3 h => ?_)
          refine V_aload_n (i := 0) G eX12_layMenu_36 rfl rfl ?_
          refine V_iconst (n := 0) (v := (nI 0)) G eX12_layMenu_37 rfl ?_
          refine V_put G fgX12_438 fp_12_65 eX12_layMenu_38 h (fun μ4 h => ?_)
          refine V_iconst (n := 0) (v := (nI 0)) G eX12_layMenu_41 rfl ?_
          refine V_istoreA_n (i := 3) (L' := [some (.ref (wad w 12 0)), some (.int a1), some (.int a2), some (.int (nI 0)), none, none]) G rfl eX12_layMenu_42 (by decide) rfl rfl ?_
          obtain ⟨μ5, h1, h⟩ := bdS h
          refine M_layMenu_l1_ok G h1 ?_
          refine V_iconst (n := 1) (v := (nI 1)) G eX12_layMenu_217 rfl ?_
          exact V_rzM G hr eX12_layMenu_218 h
        · refine V_iconst (n := 0) (v := (nI 0)) G eX12_layMenu_29 rfl ?_
          exact V_rzM G hr eX12_layMenu_30 h
theorem M_layMenu_ok {l : Launch} {w : Wld} {a1 : Int32} {a2 : Int32} {μ : Mem} {r : Int32} {μ' : Mem} (h : M_layMenu a1 a2 μ = some (r, μ')) : CtI l w yX12_layMenu cX12_layMenu 6 .boolean 9 [.ref (wad w 12 0), .int a1, .int a2] μ r μ' :=
  Ct_of (own := "PotBookModel") [some (.ref (wad w 12 0)), some (.int a1), some (.int a2), none, none, none] (by decide +kernel) rfl rfl (Nat.le_of_ble_eq_true rfl) fun p e s m args below meth c G hr => M_layMenu_run G hr h
set_option maxRecDepth 100000 in
set_option maxHeartbeats 4000000 in
theorem M_isMenu_l2_ok {p : Program} {l : Launch} {e : Env} {R : Room} {s : State} {m : MethodId} {args : Array Value} {below : List Frame} {meth : Method} {c : Code} {w : Wld} {Q : State → Prop} (G : Cxt p R s m args meth c w cX12_isMenu 6 "PotBookModel" 2 0 0) {v1 : Int32} {v2 : Int32} {v3 : Int32} {μ : Mem} {o1 : Int32} : ∀ {n : Nat} {v4 : Int32} {v5 : Int32}, M_isMenu_l2 v1 v2 v3 μ n v4 v5 = some o1 → Vj p l e R s m args below meth c w 6 0 0 Q 56 [some (.ref (wad w 12 0)), some (.int v1), some (.int v2), some (.int v3), some (.int o1), none] [] μ → Vj p l e R s m args below meth c w 6 0 0 Q 16 [some (.ref (wad w 12 0)), some (.int v1), some (.int v2), some (.int v3), some (.int v4), some (.int v5)] [] μ := by
  intro n
  induction n with
  | zero => intro v4 v5 h K; exact noS h
  | succ n ih =>
    intro v4 v5 h K
    replace h : M_isMenu_l2b v1 v2 v3 μ (M_isMenu_l2 v1 v2 v3 μ n) v4 v5 = some o1 := h
    unfold M_isMenu_l2b at h
    refine V_iload G eX12_isMenu_16 rfl ?_
    refine V_aload_n (i := 0) G eX12_isMenu_18 rfl rfl ?_
    refine V_get (v := .int (mI μ 1364 0 0)) G fgX12_435 rfl eX12_isMenu_19 ?_
    refine V_icmp_ge G eX12_isMenu_22 h (fun h => ?_) (fun h => ?_)
    · cases h; exact V_sub (lS_s (lS_s (lS_s (lS_s (lS_s (lS_n lS_0)))))) K
    · refine V_iload G eX12_isMenu_25 rfl ?_
      refine V_aload_n (i := 0) G eX12_isMenu_27 rfl rfl ?_
      refine V_get (v := .ref (wad w 1361 0)) G fgX12_151 rfl eX12_isMenu_28 ?_
      refine V_bipush (n := 12) (v := (nI 12)) G eX12_isMenu_31 rfl ?_
      refine V_iload G eX12_isMenu_33 rfl ?_
      refine V_imul G eX12_isMenu_35 ?_
      refine V_iload_n (i := 3) G eX12_isMenu_36 rfl rfl ?_
      refine V_iadd G eX12_isMenu_37 ?_
      refine V_iald G al_1361 (by decide) eX12_isMenu_38 h (fun x1 h => ?_)
      refine V_aload_n (i := 0) G eX12_isMenu_39 rfl rfl ?_
      refine V_get (v := .ref (wad w 1362 0)) G fgX12_154 rfl eX12_isMenu_40 ?_
      refine V_iload G eX12_isMenu_43 rfl ?_
      refine V_iald G al_1362 (by decide) eX12_isMenu_45 h (fun x2 h => ?_)
      refine V_imul G eX12_isMenu_46 ?_
      refine V_iadd G eX12_isMenu_47 ?_
      refine V_istore (i := 4) (L' := (fun x3 => [some (.ref (wad w 12 0)), some (.int v1), some (.int v2), some (.int v3), some (.int x3), some (.int v5)])) G eX12_isMenu_48 (by decide) rfl (fun _ => rfl) h (fun x3 h => ?_)
      refine V_iinc (z := (nI 1)) (L' := (fun x4 => [some (.ref (wad w 12 0)), some (.int v1), some (.int v2), some (.int v3), some (.int x3), some (.int x4)])) G eX12_isMenu_50 rfl rfl (by decide) rfl (fun _ => rfl) h (fun x4 h => ?_)
      refine V_goto G eX12_isMenu_53 ?_
      exact (ih h K)
set_option maxRecDepth 100000 in
set_option maxHeartbeats 4000000 in
theorem M_isMenu_l1_ok {p : Program} {l : Launch} {e : Env} {R : Room} {s : State} {m : MethodId} {args : Array Value} {below : List Frame} {meth : Method} {c : Code} {w : Wld} (G : Cxt p R s m args meth c w cX12_isMenu 6 "PotBookModel" 2 0 0) (hr : meth.sig.returnType = some .boolean) {v1 : Int32} {v2 : Int32} {μ : Mem} {r : Int32} : ∀ {n : Nat} {v3 : Int32}, M_isMenu_l1 v1 v2 μ n v3 = some r → Vj p l e R s m args below meth c w 6 0 0 (MQ below (QI w r μ) args s 0 0 w.2.2.2) 2 [some (.ref (wad w 12 0)), some (.int v1), some (.int v2), some (.int v3), none, none] [] μ := by
  intro n
  induction n with
  | zero => intro v3 h; exact noS h
  | succ n ih =>
    intro v3 h
    replace h : M_isMenu_l1b v1 v2 μ (M_isMenu_l1 v1 v2 μ n) v3 = some r := h
    unfold M_isMenu_l1b at h
    refine V_iload_n (i := 3) G eX12_isMenu_2 rfl rfl ?_
    refine V_aload_n (i := 0) G eX12_isMenu_3 rfl rfl ?_
    refine V_get (v := .int (mI μ 1314 0 0)) G fgX12_195 rfl eX12_isMenu_4 ?_
    refine V_icmp_ge G eX12_isMenu_7 h (fun h => ?_) (fun h => ?_)
    · refine V_iconst (n := 1) (v := (nI 1)) G eX12_isMenu_97 rfl ?_
      exact V_rz G hr eX12_isMenu_98 h
    · refine V_iconst (n := 0) (v := (nI 0)) G eX12_isMenu_10 rfl ?_
      refine V_istoreA (i := 4) (L' := [some (.ref (wad w 12 0)), some (.int v1), some (.int v2), some (.int v3), some (.int (nI 0)), none]) G eX12_isMenu_11 (by decide) rfl rfl ?_
      refine V_iconst (n := 0) (v := (nI 0)) G eX12_isMenu_13 rfl ?_
      refine V_istoreA (i := 5) (L' := [some (.ref (wad w 12 0)), some (.int v1), some (.int v2), some (.int v3), some (.int (nI 0)), some (.int (nI 0))]) G eX12_isMenu_14 (by decide) rfl rfl ?_
      obtain ⟨x1, h1, h⟩ := bdS h
      refine M_isMenu_l2_ok G h1 ?_
      refine V_aload_n (i := 0) G eX12_isMenu_56 rfl rfl ?_
      refine V_get (v := .int (mI μ 1365 0 0)) G fgX12_438 rfl eX12_isMenu_57 ?_
      refine V_iload_n (i := 3) G eX12_isMenu_60 rfl rfl ?_
      obtain ⟨x2, h1, h⟩ := bdS h
      refine V_callIS (As := [.int (mI μ 1365 0 0), .int v3]) (st := []) G lkX12_422 (M_has_ok (μ := μ) h1) (by decide) rfl rfl (Nat.le_of_ble_eq_true rfl) eX12_isMenu_61 ?_
      refine V_if_eq G eX12_isMenu_64 h (fun h => ?_) (fun h => ?_)
      · refine V_iinc (z := (nI 1)) (L' := (fun x3 => [some (.ref (wad w 12 0)), some (.int v1), some (.int v2), some (.int x3), some (.int x1), none])) G eX12_isMenu_91 rfl rfl (by decide) rfl (fun _ => rfl) h (fun x3 h => ?_)
        refine V_goto G eX12_isMenu_94 ?_
        exact V_sub (lS_s (lS_s (lS_s (lS_s (lS_n (lS_n lS_0)))))) (ih h)
      · refine V_aload_n (i := 0) G eX12_isMenu_67 rfl rfl ?_
        refine V_get (v := .ref (wad w 1357 0)) G fgX12_142 rfl eX12_isMenu_68 ?_
        refine V_bipush (n := 12) (v := (nI 12)) G eX12_isMenu_71 rfl ?_
        refine V_iload_n (i := 1) G eX12_isMenu_73 rfl rfl ?_
        refine V_imul G eX12_isMenu_74 ?_
        refine V_iload_n (i := 3) G eX12_isMenu_75 rfl rfl ?_
        refine V_iadd G eX12_isMenu_76 ?_
        refine V_iald G al_1357 (by decide) eX12_isMenu_77 h (fun x4 h => ?_)
        refine V_iload G eX12_isMenu_78 rfl ?_
        refine V_isub G eX12_isMenu_80 ?_
        refine V_iconst (n := 0) (v := (nI 0)) G eX12_isMenu_81 rfl ?_
        refine V_iload_n (i := 2) G eX12_isMenu_82 rfl rfl ?_
        obtain ⟨x5, h1, h⟩ := bdS h
        refine V_callIS (As := [.int (x4 - x1), .int (nI 0), .int v2]) (st := []) G lkX12_198 (M_in_ok (μ := μ) h1) (by decide) rfl rfl (Nat.le_of_ble_eq_true rfl) eX12_isMenu_83 ?_
        refine V_if_ne G eX12_isMenu_86 h (fun h => ?_) (fun h => ?_)
        · refine V_iinc (z := (nI 1)) (L' := (fun x6 => [some (.ref (wad w 12 0)), some (.int v1), some (.int v2), some (.int x6), some (.int x1), none])) G eX12_isMenu_91 rfl rfl (by decide) rfl (fun _ => rfl) h (fun x6 h => ?_)
          refine V_goto G eX12_isMenu_94 ?_
          exact V_sub (lS_s (lS_s (lS_s (lS_s (lS_n (lS_n lS_0)))))) (ih h)
        · refine V_iconst (n := 0) (v := (nI 0)) G eX12_isMenu_89 rfl ?_
          exact V_rz G hr eX12_isMenu_90 h
set_option maxRecDepth 100000 in
set_option maxHeartbeats 4000000 in
theorem M_isMenu_run {p : Program} {l : Launch} {e : Env} {R : Room} {s : State} {m : MethodId} {args : Array Value} {below : List Frame} {meth : Method} {c : Code} {w : Wld} (G : Cxt p R s m args meth c w cX12_isMenu 6 "PotBookModel" 2 0 0) (hr : meth.sig.returnType = some .boolean) {a1 : Int32} {a2 : Int32} {μ : Mem} {r : Int32} (h : M_isMenu a1 a2 μ = some r) : Vj p l e R s m args below meth c w 6 0 0 (MQ below (QI w r μ) args s 0 0 w.2.2.2) 0 [some (.ref (wad w 12 0)), some (.int a1), some (.int a2), none, none, none] [] μ := by
  unfold M_isMenu at h
  refine V_iconst (n := 0) (v := (nI 0)) G eX12_isMenu_0 rfl ?_
  refine V_istoreA_n (i := 3) (L' := [some (.ref (wad w 12 0)), some (.int a1), some (.int a2), some (.int (nI 0)), none, none]) G rfl eX12_isMenu_1 (by decide) rfl rfl ?_
  exact M_isMenu_l1_ok G hr h
theorem M_isMenu_ok {l : Launch} {w : Wld} {a1 : Int32} {a2 : Int32} {μ : Mem} {r : Int32} (h : M_isMenu a1 a2 μ = some r) : CtI l w yX12_isMenu cX12_isMenu 6 .boolean 2 [.ref (wad w 12 0), .int a1, .int a2] μ r μ :=
  Ct_of (own := "PotBookModel") [some (.ref (wad w 12 0)), some (.int a1), some (.int a2), none, none, none] (by decide +kernel) rfl rfl (Nat.le_of_ble_eq_true rfl) fun p e s m args below meth c G hr => M_isMenu_run G hr h
