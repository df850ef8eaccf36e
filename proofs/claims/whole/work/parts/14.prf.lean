set_option maxRecDepth 100000 in
set_option maxHeartbeats 4000000 in
theorem M_size_run {p : Program} {l : Launch} {e : Env} {R : Room} {s : State} {m : MethodId} {args : Array Value} {below : List Frame} {meth : Method} {c : Code} {w : Wld} (G : Cxt p R s m args meth c w cX12_size 3 "PotBookModel" 3 0 0) (hr : meth.sig.returnType = some .int) {a1 : Int32} {a2 : Int32} {μ : Mem} {r : Int32} (h : M_size a1 a2 μ = some r) : Vj p l e R s m args below meth c w 3 0 0 (MQ below (QI w r μ) args s 0 0 w.2.2.2) 0 [some (.ref (wad w 12 0)), some (.int a1), some (.int a2)] [] μ := by
  unfold M_size at h
  refine V_aload_n (i := 0) G eX12_size_0 rfl rfl ?_
  refine V_iload_n (i := 1) G eX12_size_1 rfl rfl ?_
  obtain ⟨x1, h1, h⟩ := bdS h
  refine V_callI (As := [.int a1]) (st := []) G lkX12_202 (M_isThing_ok h1) (by decide) rfl rfl (Nat.le_of_ble_eq_true rfl) eX12_size_2 ?_
  refine V_if_eq G eX12_size_5 h (fun h => ?_) (fun h => ?_)
  · refine V_iconst (n := -1) (v := (-1)) G eX12_size_24 rfl ?_
    exact V_ri G hr eX12_size_25 h
  · refine V_iload_n (i := 2) G eX12_size_8 rfl rfl ?_
    obtain ⟨x2, h1, h⟩ := bdS h
    refine V_callIS (As := [.int a2]) (st := []) G lkX12_206 (M_isYear_ok (μ := μ) h1) (by decide) rfl rfl (Nat.le_of_ble_eq_true rfl) eX12_size_9 ?_
    refine V_if_eq G eX12_size_12 h (fun h => ?_) (fun h => ?_)
    · refine V_iconst (n := -1) (v := (-1)) G eX12_size_24 rfl ?_
      exact V_ri G hr eX12_size_25 h
    · refine V_aload_n (i := 0) G eX12_size_15 rfl rfl ?_
      refine V_iload_n (i := 1) G eX12_size_16 rfl rfl ?_
      refine V_iload_n (i := 2) G eX12_size_17 rfl rfl ?_
      obtain ⟨x3, h1, h⟩ := bdS h
      refine V_callI (As := [.int a1, .int a2]) (st := []) G lkX12_215 (M_sizeIn_ok h1) (by decide) rfl rfl (Nat.le_of_ble_eq_true rfl) eX12_size_18 ?_
      refine V_goto G eX12_size_21 ?_
      exact V_ri G hr eX12_size_25 h
theorem M_size_ok {l : Launch} {w : Wld} {a1 : Int32} {a2 : Int32} {μ : Mem} {r : Int32} (h : M_size a1 a2 μ = some r) : CtI l w yX12_size cX12_size 3 .int 3 [.ref (wad w 12 0), .int a1, .int a2] μ r μ :=
  Ct_of (own := "PotBookModel") [some (.ref (wad w 12 0)), some (.int a1), some (.int a2)] (by decide +kernel) rfl rfl (Nat.le_of_ble_eq_true rfl) fun p e s m args below meth c G hr => M_size_run G hr h
set_option maxRecDepth 100000 in
set_option maxHeartbeats 4000000 in
theorem M_number_run {p : Program} {l : Launch} {e : Env} {R : Room} {s : State} {m : MethodId} {args : Array Value} {below : List Frame} {meth : Method} {c : Code} {w : Wld} (G : Cxt p R s m args meth c w cX12_number 3 "PotBookModel" 3 0 0) (hr : meth.sig.returnType = some .int) {a1 : Int32} {μ : Mem} {r : Int32} {μ' : Mem} (h : M_number a1 μ = some (r, μ')) : Vj p l e R s m args below meth c w 3 0 0 (MQ below (QI w r μ') args s 0 0 w.2.2.2) 0 [some (.ref (wad w 12 0)), some (.int a1), none] [] μ := by
  unfold M_number at h
  refine V_aload_n (i := 0) G eX12_number_0 rfl rfl ?_
  obtain ⟨⟨x1, μ2⟩, h1, h⟩ := bdS h
  refine V_callI (As := []) (st := []) G lkX12_218 (M_look_ok h1) (by decide) rfl rfl (Nat.le_of_ble_eq_true rfl) eX12_number_1 ?_
  obtain ⟨x3, h1, h⟩ := bdS h
  refine V_callIS (As := [.int x1]) (st := []) G lkX12_221 (M_isDigit_ok (μ := μ2) h1) (by decide) rfl rfl (Nat.le_of_ble_eq_true rfl) eX12_number_4 ?_
  refine V_if_ne G eX12_number_7 h (fun h => ?_) (fun h => ?_)
  · refine V_aload_n (i := 0) G eX12_number_16 rfl rfl ?_
    obtain ⟨x4, h1, h⟩ := bdS h
    refine V_callI (As := []) (st := []) G lkX12_188 (M_here_ok h1) (by decide) rfl rfl (Nat.le_of_ble_eq_true rfl) eX12_number_17 ?_
    refine V_bipush (n := 48) (v := (nI 48)) G eX12_number_20 rfl ?_
    refine V_isub G eX12_number_22 ?_
    refine V_istore_n (i := 2) (L' := (fun x5 => [some (.ref (wad w 12 0)), some (.int a1), some (.int x5)])) G rfl eX12_number_23 (by decide) rfl (fun _ => rfl) h (fun x5 h => ?_)
    refine V_aload_n (i := 0) G eX12_number_24 rfl rfl ?_
    refine V_dup G eX12_number_25 rfl ?_
    refine V_get (v := .int (mI μ2 1303 0 0)) G fgX12_185 rfl eX12_number_26 ?_
    refine V_iconst (n := 1) (v := (nI 1)) G eX12_number_29 rfl ?_
    refine V_iadd G eX12_number_30 ?_
    refine V_put G fgX12_185 fp_12_3 eX12_number_31 h (fun μ6 h => ?_)
    refine V_aload_n (i := 0) G eX12_number_34 rfl rfl ?_
    obtain ⟨x7, h1, h⟩ := bdS h
    refine V_callI (As := []) (st := []) G lkX12_188 (M_here_ok h1) (by decide) rfl rfl (Nat.le_of_ble_eq_true rfl) eX12_number_35 ?_
    obtain ⟨x8, h1, h⟩ := bdS h
    refine V_callIS (As := [.int x7]) (st := []) G lkX12_221 (M_isDigit_ok (μ := μ6) h1) (by decide) rfl rfl (Nat.le_of_ble_eq_true rfl) eX12_number_38 ?_
    obtain ⟨⟨x12, μ13⟩, hj, h⟩ := bdS h
    have J : Vj p l e R s m args below meth c w 3 0 0 (MQ below (QI w r μ') args s 0 0 w.2.2.2) 67 [some (.ref (wad w 12 0)), some (.int a1), some (.int x12)] [] μ13 := by
      clear hj
      refine V_aload_n (i := 0) G eX12_number_67 rfl rfl ?_
      obtain ⟨x14, h1, h⟩ := bdS h
      refine V_callI (As := []) (st := []) G lkX12_188 (M_here_ok h1) (by decide) rfl rfl (Nat.le_of_ble_eq_true rfl) eX12_number_68 ?_
      obtain ⟨x15, h1, h⟩ := bdS h
      refine V_callIS (As := [.int x14]) (st := []) G lkX12_221 (M_isDigit_ok (μ := μ13) h1) (by decide) rfl rfl (Nat.le_of_ble_eq_true rfl) eX12_number_71 ?_
      refine V_if_eq G eX12_number_74 h (fun h => ?_) (fun h => ?_)
      · refine V_iload_n (i := 2) G eX12_number_84 rfl rfl ?_
        refine V_iload_n (i := 1) G eX12_number_85 rfl rfl ?_
        refine V_icmp_ge G eX12_number_86 h (fun h => ?_) (fun h => ?_)
        · refine V_iload_n (i := 2) G eX12_number_103 rfl rfl ?_
          exact V_riM G hr eX12_number_104 h
        · refine V_aload_n (i := 0) G eX12_number_89 rfl rfl ?_
          refine V_dup G eX12_number_90 rfl ?_
          refine V_get (v := .int (mI μ13 1303 0 0)) G fgX12_185 rfl eX12_number_91 ?_
          refine V_iconst (n := 1) (v := (nI 1)) G eX12_number_94 rfl ?_
          refine V_isub G eX12_number_95 ?_
          refine V_put G fgX12_185 fp_12_3 eX12_number_96 h (fun μ16 h => ?_)
          refine V_aload_n (i := 0) G eX12_number_99 rfl rfl ?_
          obtain ⟨μ17, h1, h⟩ := bdS h
          refine V_callV (As := []) (st := []) G lkX12_224 (M_bad_ok h1) (by decide) rfl rfl (Nat.le_of_ble_eq_true rfl) eX12_number_100 ?_
          refine V_iload_n (i := 2) G eX12_number_103 rfl rfl ?_
          exact V_riM G hr eX12_number_104 h
      · refine V_aload_n (i := 0) G eX12_number_77 rfl rfl ?_
        obtain ⟨μ18, h1, h⟩ := bdS h
        refine V_callV (As := []) (st := []) G lkX12_224 (M_bad_ok h1) (by decide) rfl rfl (Nat.le_of_ble_eq_true rfl) eX12_number_78 ?_
        refine V_goto G eX12_number_81 ?_
        refine V_iload_n (i := 2) G eX12_number_103 rfl rfl ?_
        exact V_riM G hr eX12_number_104 h
    replace h := hj
    clear hj
    refine V_if_eq G eX12_number_41 h (fun h => ?_) (fun h => ?_)
    · cases h; exact J
    · refine V_bipush (n := 10) (v := (nI 10)) G eX12_number_44 rfl ?_
      refine V_iload_n (i := 2) G eX12_number_46 rfl rfl ?_
      refine V_imul G eX12_number_47 ?_
      refine V_aload_n (i := 0) G eX12_number_48 rfl rfl ?_
      obtain ⟨x9, h1, h⟩ := bdS h
      refine V_callI (As := []) (st := [.int ((nI 10) * x5)]) G lkX12_188 (M_here_ok h1) (by decide) rfl rfl (Nat.le_of_ble_eq_true rfl) eX12_number_49 ?_
      refine V_iadd G eX12_number_52 ?_
      refine V_bipush (n := 48) (v := (nI 48)) G eX12_number_53 rfl ?_
      refine V_isub G eX12_number_55 ?_
      refine V_istore_n (i := 2) (L' := (fun x10 => [some (.ref (wad w 12 0)), some (.int a1), some (.int x10)])) G rfl eX12_number_56 (by decide) rfl (fun _ => rfl) h (fun x10 h => ?_)
      refine V_aload_n (i := 0) G eX12_number_57 rfl rfl ?_
      refine V_dup G eX12_number_58 rfl ?_
      refine V_get (v := .int (mI μ6 1303 0 0)) G fgX12_185 rfl eX12_number_59 ?_
      refine V_iconst (n := 1) (v := (nI 1)) G eX12_number_62 rfl ?_
      refine V_iadd G eX12_number_63 ?_
      refine V_put G fgX12_185 fp_12_3 eX12_number_64 h (fun μ11 h => ?_)
      cases h; exact J
  · refine V_aload_n (i := 0) G eX12_number_10 rfl rfl ?_
    obtain ⟨μ19, h1, h⟩ := bdS h
    refine V_callV (As := []) (st := []) G lkX12_224 (M_bad_ok h1) (by decide) rfl rfl (Nat.le_of_ble_eq_true rfl) eX12_number_11 ?_
    refine V_iconst (n := 1) (v := (nI 1)) G eX12_number_14 rfl ?_
    exact V_riM G hr eX12_number_15 h
theorem M_number_ok {l : Launch} {w : Wld} {a1 : Int32} {μ : Mem} {r : Int32} {μ' : Mem} (h : M_number a1 μ = some (r, μ')) : CtI l w yX12_number cX12_number 3 .int 3 [.ref (wad w 12 0), .int a1] μ r μ' :=
  Ct_of (own := "PotBookModel") [some (.ref (wad w 12 0)), some (.int a1), none] (by decide +kernel) rfl rfl (Nat.le_of_ble_eq_true rfl) fun p e s m args below meth c G hr => M_number_run G hr h
set_option maxRecDepth 100000 in
set_option maxHeartbeats 4000000 in
theorem M_onPage_l1_ok {p : Program} {l : Launch} {e : Env} {R : Room} {s : State} {m : MethodId} {args : Array Value} {below : List Frame} {meth : Method} {c : Code} {w : Wld} (G : Cxt p R s m args meth c w cX12_onPage 4 "PotBookModel" 1 0 0) (hr : meth.sig.returnType = some .int) {v1 : Int32} {v2 : Int32} {μ : Mem} {r : Int32} : ∀ {n : Nat} {v3 : Int32}, M_onPage_l1 v1 v2 μ n v3 = some r → Vj p l e R s m args below meth c w 4 0 0 (MQ below (QI w r μ) args s 0 0 w.2.2.2) 2 [some (.ref (wad w 12 0)), some (.int v1), some (.int v2), some (.int v3)] [] μ := by
  intro n
  induction n with
  | zero => intro v3 h; exact noS h
  | succ n ih =>
    intro v3 h
    replace h : M_onPage_l1b v1 v2 μ (M_onPage_l1 v1 v2 μ n) v3 = some r := h
    unfold M_onPage_l1b at h
    refine V_iload_n (i := 3) G eX12_onPage_2 rfl rfl ?_
    refine V_aload_n (i := 0) G eX12_onPage_3 rfl rfl ?_
    refine V_get (v := .ref (wad w 1315 0)) G fgX12_38 rfl eX12_onPage_4 ?_
    refine V_iload_n (i := 1) G eX12_onPage_7 rfl rfl ?_
    refine V_iald G al_1315 (by decide) eX12_onPage_8 h (fun x1 h => ?_)
    refine V_icmp_ge G eX12_onPage_9 h (fun h => ?_) (fun h => ?_)
    · refine V_iconst (n := -1) (v := (-1)) G eX12_onPage_35 rfl ?_
      exact V_ri G hr eX12_onPage_36 h
    · refine V_aload_n (i := 0) G eX12_onPage_12 rfl rfl ?_
      refine V_get (v := .ref (wad w 1316 0)) G fgX12_41 rfl eX12_onPage_13 ?_
      refine V_bipush (n := 8) (v := (nI 8)) G eX12_onPage_16 rfl ?_
      refine V_iload_n (i := 1) G eX12_onPage_18 rfl rfl ?_
      refine V_imul G eX12_onPage_19 ?_
      refine V_iload_n (i := 3) G eX12_onPage_20 rfl rfl ?_
      refine V_iadd G eX12_onPage_21 ?_
      refine V_iald G al_1316 (by decide) eX12_onPage_22 h (fun x2 h => ?_)
      refine V_iload_n (i := 2) G eX12_onPage_23 rfl rfl ?_
      refine V_icmp_ne G eX12_onPage_24 h (fun h => ?_) (fun h => ?_)
      · refine V_iinc (z := (nI 1)) (L' := (fun x3 => [some (.ref (wad w 12 0)), some (.int v1), some (.int v2), some (.int x3)])) G eX12_onPage_29 rfl rfl (by decide) rfl (fun _ => rfl) h (fun x3 h => ?_)
        refine V_goto G eX12_onPage_32 ?_
        exact (ih h)
      · refine V_iload_n (i := 3) G eX12_onPage_27 rfl rfl ?_
        exact V_ri G hr eX12_onPage_28 h
set_option maxRecDepth 100000 in
set_option maxHeartbeats 4000000 in
theorem M_onPage_run {p : Program} {l : Launch} {e : Env} {R : Room} {s : State} {m : MethodId} {args : Array Value} {below : List Frame} {meth : Method} {c : Code} {w : Wld} (G : Cxt p R s m args meth c w cX12_onPage 4 "PotBookModel" 1 0 0) (hr : meth.sig.returnType = some .int) {a1 : Int32} {a2 : Int32} {μ : Mem} {r : Int32} (h : M_onPage a1 a2 μ = some r) : Vj p l e R s m args below meth c w 4 0 0 (MQ below (QI w r μ) args s 0 0 w.2.2.2) 0 [some (.ref (wad w 12 0)), some (.int a1), some (.int a2), none] [] μ := by
  unfold M_onPage at h
  refine V_iconst (n := 0) (v := (nI 0)) G eX12_onPage_0 rfl ?_
  refine V_istoreA_n (i := 3) (L' := [some (.ref (wad w 12 0)), some (.int a1), some (.int a2), some (.int (nI 0))]) G rfl eX12_onPage_1 (by decide) rfl rfl ?_
  exact M_onPage_l1_ok G hr h
theorem M_onPage_ok {l : Launch} {w : Wld} {a1 : Int32} {a2 : Int32} {μ : Mem} {r : Int32} (h : M_onPage a1 a2 μ = some r) : CtI l w yX12_onPage cX12_onPage 4 .int 1 [.ref (wad w 12 0), .int a1, .int a2] μ r μ :=
  Ct_of (own := "PotBookModel") [some (.ref (wad w 12 0)), some (.int a1), some (.int a2), none] (by decide +kernel) rfl rfl (Nat.le_of_ble_eq_true rfl) fun p e s m args below meth c G hr => M_onPage_run G hr h
set_option maxRecDepth 100000 in
set_option maxHeartbeats 4000000 in
theorem M_item_run {p : Program} {l : Launch} {e : Env} {R : Room} {s : State} {m : MethodId} {args : Array Value} {below : List Frame} {meth : Method} {c : Code} {w : Wld} (G : Cxt p R s m args meth c w cX12_item 4 "PotBookModel" 4 0 0) (hr : meth.sig.returnType = none) {a1 : Int32} {μ : Mem} {μ' : Mem} (h : M_item a1 μ = some μ') : Vj p l e R s m args below meth c w 4 0 0 (MQ below (QV w μ') args s 0 0 w.2.2.2) 0 [some (.ref (wad w 12 0)), some (.int a1), none, none] [] μ := by
  unfold M_item at h
  refine V_aload_n (i := 0) G eX12_item_0 rfl rfl ?_
  obtain ⟨⟨x1, μ2⟩, h1, h⟩ := bdS h
  refine V_callI (As := []) (st := []) G lkX12_218 (M_look_ok h1) (by decide) rfl rfl (Nat.le_of_ble_eq_true rfl) eX12_item_1 ?_
  refine V_bipush (n := 97) (v := (nI 97)) G eX12_item_4 rfl ?_
  refine V_isub G eX12_item_6 ?_
  refine V_istore_n (i := 2) (L' := (fun x3 => [some (.ref (wad w 12 0)), some (.int a1), some (.int x3), none])) G rfl eX12_item_7 (by decide) rfl (fun _ => rfl) h (fun x3 h => ?_)
  refine V_aload_n (i := 0) G eX12_item_8 rfl rfl ?_
  refine V_iload_n (i := 2) G eX12_item_9 rfl rfl ?_
  obtain ⟨x4, h1, h⟩ := bdS h
  refine V_callI (As := [.int x3]) (st := []) G lkX12_202 (M_isThing_ok h1) (by decide) rfl rfl (Nat.le_of_ble_eq_true rfl) eX12_item_10 ?_
  refine V_if_eq G eX12_item_13 h (fun h => ?_) (fun h => ?_)
  · refine V_aload_n (i := 0) G eX12_item_37 rfl rfl ?_
    obtain ⟨μ5, h1, h⟩ := bdS h
    refine V_callV (As := []) (st := []) G lkX12_224 (M_bad_ok h1) (by decide) rfl rfl (Nat.le_of_ble_eq_true rfl) eX12_item_38 ?_
    exact V_rvM G hr eX12_item_41 h
  · refine V_aload_n (i := 0) G eX12_item_16 rfl rfl ?_
    refine V_iload_n (i := 1) G eX12_item_17 rfl rfl ?_
    refine V_iload_n (i := 2) G eX12_item_18 rfl rfl ?_
    obtain ⟨x6, h1, h⟩ := bdS h
    refine V_callI (As := [.int a1, .int x3]) (st := []) G lkX12_227 (M_onPage_ok h1) (by decide) rfl rfl (Nat.le_of_ble_eq_true rfl) eX12_item_19 ?_
    refine V_iconst (n := -1) (v := (-1)) G eX12_item_22 rfl ?_
    refine V_icmp_ne G eX12_item_23 h (fun h => ?_) (fun h => ?_)
    · refine V_aload_n (i := 0) G eX12_item_37 rfl rfl ?_
      obtain ⟨μ7, h1, h⟩ := bdS h
      refine V_callV (As := []) (st := []) G lkX12_224 (M_bad_ok h1) (by decide) rfl rfl (Nat.le_of_ble_eq_true rfl) eX12_item_38 ?_
      exact V_rvM G hr eX12_item_41 h
    · refine V_aload_n (i := 0) G eX12_item_26 rfl rfl ?_
      refine V_get (v := .ref (wad w 1315 0)) G fgX12_38 rfl eX12_item_27 ?_
      refine V_iload_n (i := 1) G eX12_item_30 rfl rfl ?_
      refine V_iald G al_1315 (by decide) eX12_item_31 h (fun x8 h => ?_)
      refine V_bipush (n := 8) (v := (nI 8)) G eX12_item_32 rfl ?_
      refine V_icmp_ne G eX12_item_34 h (fun h => ?_) (fun h => ?_)
      · refine V_aload_n (i := 0) G eX12_item_42 rfl rfl ?_
        refine V_dup G eX12_item_43 rfl ?_
        refine V_get (v := .int (mI μ2 1303 0 0)) G fgX12_185 rfl eX12_item_44 ?_
        refine V_iconst (n := 1) (v := (nI 1)) G eX12_item_47 rfl ?_
        refine V_iadd G eX12_item_48 ?_
        refine V_put G fgX12_185 fp_12_3 eX12_item_49 h (fun μ9 h => ?_)
        refine V_bipush (n := 8) (v := (nI 8)) G eX12_item_52 rfl ?_
        refine V_iload_n (i := 1) G eX12_item_54 rfl rfl ?_
        refine V_imul G eX12_item_55 ?_
        refine V_aload_n (i := 0) G eX12_item_56 rfl rfl ?_
        refine V_get (v := .ref (wad w 1315 0)) G fgX12_38 rfl eX12_item_57 ?_
        refine V_iload_n (i := 1) G eX12_item_60 rfl rfl ?_
        refine V_iald G al_1315 (by decide) eX12_item_61 h (fun x10 h => ?_)
        refine V_iadd G eX12_item_62 ?_
        refine V_istore_n (i := 3) (L' := (fun x11 => [some (.ref (wad w 12 0)), some (.int a1), some (.int x3), some (.int x11)])) G rfl eX12_item_63 (by decide) rfl (fun _ => rfl) h (fun x11 h => ?_)
        refine V_aload_n (i := 0) G eX12_item_64 rfl rfl ?_
        refine V_get (v := .ref (wad w 1316 0)) G fgX12_41 rfl eX12_item_65 ?_
        refine V_iload_n (i := 3) G eX12_item_68 rfl rfl ?_
        refine V_iload_n (i := 2) G eX12_item_69 rfl rfl ?_
        refine V_iast G al_1316 (by decide) eX12_item_70 h (fun μ12 h => ?_)
        refine V_aload_n (i := 0) G eX12_item_71 rfl rfl ?_
        refine V_get (v := .ref (wad w 1317 0)) G fgX12_44 rfl eX12_item_72 ?_
        refine V_iload_n (i := 3) G eX12_item_75 rfl rfl ?_
        refine V_iconst (n := 0) (v := (nI 0)) G eX12_item_76 rfl ?_
        refine V_iast G al_1317 (by decide) eX12_item_77 h (fun μ13 h => ?_)
        refine V_aload_n (i := 0) G eX12_item_78 rfl rfl ?_
        refine V_get (v := .ref (wad w 1318 0)) G fgX12_47 rfl eX12_item_79 ?_
        refine V_iload_n (i := 3) G eX12_item_82 rfl rfl ?_
        refine V_iconst (n := 0) (v := (nI 0)) G eX12_item_83 rfl ?_
        refine V_iast G al_1318 (by decide) eX12_item_84 h (fun μ14 h => ?_)
        refine V_aload_n (i := 0) G eX12_item_85 rfl rfl ?_
        obtain ⟨⟨x15, μ16⟩, h1, h⟩ := bdS h
        refine V_callI (As := []) (st := []) G lkX12_218 (M_look_ok h1) (by decide) rfl rfl (Nat.le_of_ble_eq_true rfl) eX12_item_86 ?_
        obtain ⟨x17, h1, h⟩ := bdS h
        refine V_callIS (As := [.int x15]) (st := []) G lkX12_221 (M_isDigit_ok (μ := μ16) h1) (by decide) rfl rfl (Nat.le_of_ble_eq_true rfl) eX12_item_89 ?_
        obtain ⟨μ30, hj, h⟩ := bdS h
        have J : Vj p l e R s m args below meth c w 4 0 0 (MQ below (QV w μ') args s 0 0 w.2.2.2) 161 [some (.ref (wad w 12 0)), some (.int a1), none, none] [] μ30 := by
          clear hj
          refine V_aload_n (i := 0) G eX12_item_161 rfl rfl ?_
          refine V_get (v := .ref (wad w 1315 0)) G fgX12_38 rfl eX12_item_162 ?_
          refine V_iload_n (i := 1) G eX12_item_165 rfl rfl ?_
          refine V_dup2_11 G eX12_item_166 rfl rfl ?_
          refine V_iald G al_1315 (by decide) eX12_item_167 h (fun x31 h => ?_)
          refine V_iconst (n := 1) (v := (nI 1)) G eX12_item_168 rfl ?_
          refine V_iadd G eX12_item_169 ?_
          refine V_iast G al_1315 (by decide) eX12_item_170 h (fun μ32 h => ?_)
          exact V_rvM G hr eX12_item_171 h
        replace h := hj
        clear hj
        refine V_if_eq G eX12_item_92 h (fun h => ?_) (fun h => ?_)
        · cases h; exact V_sub (lS_s (lS_s (lS_n (lS_n lS_0)))) J
        · refine V_aload_n (i := 0) G eX12_item_95 rfl rfl ?_
          refine V_get (v := .ref (wad w 1317 0)) G fgX12_44 rfl eX12_item_96 ?_
          refine V_iload_n (i := 3) G eX12_item_99 rfl rfl ?_
          refine V_aload_n (i := 0) G eX12_item_100 rfl rfl ?_
          refine V_iconst (n := 1) (v := (nI 1)) G eX12_item_101 rfl ?_
          obtain ⟨⟨x18, μ19⟩, h1, h⟩ := bdS h
          refine V_callI (As := [.int (nI 1)]) (st := [.int x11, .ref (wad w 1317 0)]) G lkX12_230 (M_number_ok h1) (by decide) rfl rfl (Nat.le_of_ble_eq_true rfl) eX12_item_102 ?_
          refine V_iast G al_1317 (by decide) eX12_item_105 h (fun μ20 h => ?_)
          refine V_aload_n (i := 0) G eX12_item_106 rfl rfl ?_
          refine V_get (v := .ref (wad w 1318 0)) G fgX12_47 rfl eX12_item_107 ?_
          refine V_iload_n (i := 3) G eX12_item_110 rfl rfl ?_
          refine V_aload_n (i := 0) G eX12_item_111 rfl rfl ?_
          refine V_get (v := .ref (wad w 1317 0)) G fgX12_44 rfl eX12_item_112 ?_
          refine V_iload_n (i := 3) G eX12_item_115 rfl rfl ?_
          refine V_iald G al_1317 (by decide) eX12_item_116 h (fun x21 h => ?_)
          refine V_iast G al_1318 (by decide) eX12_item_117 h (fun μ22 h => ?_)
          refine V_aload_n (i := 0) G eX12_item_118 rfl rfl ?_
          refine V_get (v := .int (mI μ22 1304 0 0)) G fgX12_192 rfl eX12_item_119 ?_
          refine V_iconst (n := -1) (v := (-1)) G eX12_item_122 rfl ?_
          refine V_icmp_ne G eX12_item_123 h (fun h => ?_) (fun h => ?_)
          · cases h; exact V_sub (lS_s (lS_s (lS_n (lS_n lS_0)))) J
          · refine V_aload_n (i := 0) G eX12_item_126 rfl rfl ?_
            obtain ⟨⟨x23, μ24⟩, h1, h⟩ := bdS h
            refine V_callI (As := []) (st := []) G lkX12_218 (M_look_ok h1) (by decide) rfl rfl (Nat.le_of_ble_eq_true rfl) eX12_item_127 ?_
            refine V_bipush (n := 45) (v := (nI 45)) G eX12_item_130 rfl ?_
            refine V_icmp_ne G eX12_item_132 h (fun h => ?_) (fun h => ?_)
            · cases h; exact V_sub (lS_s (lS_s (lS_n (lS_n lS_0)))) J
            · refine V_aload_n (i := 0) G eX12_item_135 rfl rfl ?_
              refine V_dup G eX12_item_136 rfl ?_
              refine V_get (v := .int (mI μ24 1303 0 0)) G fgX12_185 rfl eX12_item_137 ?_
              refine V_iconst (n := 1) (v := (nI 1)) G eX12_item_140 rfl ?_
              refine V_iadd G eX12_item_141 ?_
              refine V_put G fgX12_185 fp_12_3 eX12_item_142 h (fun μ25 h => ?_)
              refine V_aload_n (i := 0) G eX12_item_145 rfl rfl ?_
              refine V_get (v := .ref (wad w 1318 0)) G fgX12_47 rfl eX12_item_146 ?_
              refine V_iload_n (i := 3) G eX12_item_149 rfl rfl ?_
              refine V_aload_n (i := 0) G eX12_item_150 rfl rfl ?_
              refine V_aload_n (i := 0) G eX12_item_151 rfl rfl ?_
              refine V_get (v := .ref (wad w 1317 0)) G fgX12_44 rfl eX12_item_152 ?_
              refine V_iload_n (i := 3) G eX12_item_155 rfl rfl ?_
              refine V_iald G al_1317 (by decide) eX12_item_156 h (fun x26 h => ?_)
              obtain ⟨⟨x27, μ28⟩, h1, h⟩ := bdS h
              refine V_callI (As := [.int x26]) (st := [.int x11, .ref (wad w 1318 0)]) G lkX12_230 (M_number_ok h1) (by decide) rfl rfl (Nat.le_of_ble_eq_true rfl) eX12_item_157 ?_
              refine V_iast G al_1318 (by decide) eX12_item_160 h (fun μ29 h => ?_)
              cases h; exact V_sub (lS_s (lS_s (lS_n (lS_n lS_0)))) J
      · refine V_aload_n (i := 0) G eX12_item_37 rfl rfl ?_
        obtain ⟨μ33, h1, h⟩ := bdS h
        refine V_callV (As := []) (st := []) G lkX12_224 (M_bad_ok h1) (by decide) rfl rfl (Nat.le_of_ble_eq_true rfl) eX12_item_38 ?_
        exact V_rvM G hr eX12_item_41 h
theorem M_item_ok {l : Launch} {w : Wld} {a1 : Int32} {μ : Mem} {μ' : Mem} (h : M_item a1 μ = some μ') : CtV l w yX12_item cX12_item 4 4 [.ref (wad w 12 0), .int a1] μ μ' :=
  Ct_of (own := "PotBookModel") [some (.ref (wad w 12 0)), some (.int a1), none, none] (by decide +kernel) rfl rfl (Nat.le_of_ble_eq_true rfl) fun p e s m args below meth c G hr => M_item_run G hr h
set_option maxRecDepth 100000 in
set_option maxHeartbeats 4000000 in
theorem M_isAct_run {p : Program} {l : Launch} {e : Env} {R : Room} {s : State} {m : MethodId} {args : Array Value} {below : List Frame} {meth : Method} {c : Code} {w : Wld} (G : Cxt p R s m args meth c w cX12_isAct 1 "PotBookModel" 1 0 0) (hr : meth.sig.returnType = some .boolean) {a1 : Int32} {μ : Mem} {r : Int32} (h : M_isAct a1 = some r) : Vj p l e R s m args below meth c w 1 0 0 (MQ below (QI w r μ) args s 0 0 w.2.2.2) 0 [some (.int a1)] [] μ := by
  unfold M_isAct at h
  refine V_iload_n (i := 0) G eX12_isAct_0 rfl rfl ?_
  refine V_bipush (n := 66) (v := (nI 66)) G eX12_isAct_1 rfl ?_
  refine V_icmp_eq G eX12_isAct_3 h (fun h => ?_) (fun h => ?_)
  · refine V_iconst (n := 1) (v := (nI 1)) G eX12_isAct_24 rfl ?_
    refine V_goto G eX12_isAct_25 ?_
    exact V_rz G hr eX12_isAct_29 h
  · refine V_iload_n (i := 0) G eX12_isAct_6 rfl rfl ?_
    refine V_bipush (n := 82) (v := (nI 82)) G eX12_isAct_7 rfl ?_
    refine V_icmp_eq G eX12_isAct_9 h (fun h => ?_) (fun h => ?_)
    · refine V_iconst (n := 1) (v := (nI 1)) G eX12_isAct_24 rfl ?_
      refine V_goto G eX12_isAct_25 ?_
      exact V_rz G hr eX12_isAct_29 h
    · refine V_iload_n (i := 0) G eX12_isAct_12 rfl rfl ?_
      refine V_bipush (n := 84) (v := (nI 84)) G eX12_isAct_13 rfl ?_
      refine V_icmp_eq G eX12_isAct_15 h (fun h => ?_) (fun h => ?_)
      · refine V_iconst (n := 1) (v := (nI 1)) G eX12_isAct_24 rfl ?_
        refine V_goto G eX12_isAct_25 ?_
        exact V_rz G hr eX12_isAct_29 h
      · refine V_iload_n (i := 0) G eX12_isAct_18 rfl rfl ?_
        refine V_bipush (n := 83) (v := (nI 83)) G eX12_isAct_19 rfl ?_
        refine V_icmp_ne G eX12_isAct_21 h (fun h => ?_) (fun h => ?_)
        · refine V_iconst (n := 0) (v := (nI 0)) G eX12_isAct_28 rfl ?_
          exact V_rz G hr eX12_isAct_29 h
        · refine V_iconst (n := 1) (v := (nI 1)) G eX12_isAct_24 rfl ?_
          refine V_goto G eX12_isAct_25 ?_
          exact V_rz G hr eX12_isAct_29 h
theorem M_isAct_ok {l : Launch} {w : Wld} {a1 : Int32} {μ : Mem} {r : Int32} (h : M_isAct a1 = some r) : CtI l w yX12_isAct cX12_isAct 1 .boolean 1 [.int a1] μ r μ :=
  Ct_of (own := "PotBookModel") [some (.int a1)] (by decide +kernel) rfl rfl (Nat.le_of_ble_eq_true rfl) fun p e s m args below meth c G hr => M_isAct_run G hr h
set_option maxRecDepth 100000 in
set_option maxHeartbeats 4000000 in
theorem M_acts_l2_ok {p : Program} {l : Launch} {e : Env} {R : Room} {s : State} {m : MethodId} {args : Array Value} {below : List Frame} {meth : Method} {c : Code} {w : Wld} {Q : State → Prop} (G : Cxt p R s m args meth c w cX12_acts 6 "PotBookModel" 3 0 0) {v1 : Int32} {v2 : Int32} {v3 : Int32} {v4 : Int32} {μo : Mem} : ∀ {n : Nat} {v5 : Int32} {μ : Mem}, M_acts_l2 v1 v2 v3 v4 n v5 μ = some μo → Vj p l e R s m args below meth c w 6 0 0 Q 134 [some (.ref (wad w 12 0)), some (.int v1), some (.int v2), none, none, none] [] μo → Vj p l e R s m args below meth c w 6 0 0 Q 94 [some (.ref (wad w 12 0)), some (.int v1), some (.int v2), some (.int v3), some (.int v4), some (.int v5)] [] μ := by
  intro n
  induction n with
  | zero => intro v5 μ h K; exact noS h
  | succ n ih =>
    intro v5 μ h K
    replace h : M_acts_l2b v1 v2 v3 v4 (M_acts_l2 v1 v2 v3 v4 n) v5 μ = some μo := h
    unfold M_acts_l2b at h
    refine V_iload G eX12_acts_94 rfl ?_
    refine V_iload G eX12_acts_96 rfl ?_
    refine V_icmp_ge G eX12_acts_98 h (fun h => ?_) (fun h => ?_)
    · cases h; exact V_sub (lS_s (lS_s (lS_s (lS_n (lS_n (lS_n lS_0)))))) K
    · refine V_aload_n (i := 0) G eX12_acts_101 rfl rfl ?_
      refine V_get (v := .ref (wad w 1320 0)) G fgX12_53 rfl eX12_acts_102 ?_
      refine V_bipush (n := 72) (v := (nI 72)) G eX12_acts_105 rfl ?_
      refine V_iload_n (i := 1) G eX12_acts_107 rfl rfl ?_
      refine V_imul G eX12_acts_108 ?_
      refine V_aload_n (i := 0) G eX12_acts_109 rfl rfl ?_
      refine V_get (v := .ref (wad w 1319 0)) G fgX12_50 rfl eX12_acts_110 ?_
      refine V_iload_n (i := 1) G eX12_acts_113 rfl rfl ?_
      refine V_iald G al_1319 (by decide) eX12_acts_114 h (fun x1 h => ?_)
      refine V_iadd G eX12_acts_115 ?_
      refine V_iload_n (i := 3) G eX12_acts_116 rfl rfl ?_
      refine V_iast G al_1320 (by decide) eX12_acts_117 h (fun μ2 h => ?_)
      refine V_aload_n (i := 0) G eX12_acts_118 rfl rfl ?_
      refine V_get (v := .ref (wad w 1319 0)) G fgX12_50 rfl eX12_acts_119 ?_
      refine V_iload_n (i := 1) G eX12_acts_122 rfl rfl ?_
      refine V_dup2_11 G eX12_acts_123 rfl rfl ?_
      refine V_iald G al_1319 (by decide) eX12_acts_124 h (fun x3 h => ?_)
      refine V_iconst (n := 1) (v := (nI 1)) G eX12_acts_125 rfl ?_
      refine V_iadd G eX12_acts_126 ?_
      refine V_iast G al_1319 (by decide) eX12_acts_127 h (fun μ4 h => ?_)
      refine V_iinc (z := (nI 1)) (L' := (fun x5 => [some (.ref (wad w 12 0)), some (.int v1), some (.int v2), some (.int v3), some (.int v4), some (.int x5)])) G eX12_acts_128 rfl rfl (by decide) rfl (fun _ => rfl) h (fun x5 h => ?_)
      refine V_goto G eX12_acts_131 ?_
      exact (ih h K)
set_option maxRecDepth 100000 in
set_option maxHeartbeats 4000000 in
theorem M_acts_l3_ok {p : Program} {l : Launch} {e : Env} {R : Room} {s : State} {m : MethodId} {args : Array Value} {below : List Frame} {meth : Method} {c : Code} {w : Wld} {Q : State → Prop} (G : Cxt p R s m args meth c w cX12_acts 6 "PotBookModel" 3 0 0) {v1 : Int32} {v2 : Int32} {v3 : Int32} {v4 : Int32} {μo : Mem} : ∀ {n : Nat} {v5 : Int32} {μ : Mem}, M_acts_l3 v1 v2 v3 v4 n v5 μ = some μo → Vj p l e R s m args below meth c w 6 0 0 Q 134 [some (.ref (wad w 12 0)), some (.int v1), some (.int v2), none, none, none] [] μo → Vj p l e R s m args below meth c w 6 0 0 Q 94 [some (.ref (wad w 12 0)), some (.int v1), some (.int v2), some (.int v3), some (.int v4), some (.int v5)] [] μ := by
  intro n
  induction n with
  | zero => intro v5 μ h K; exact noS h
  | succ n ih =>
    intro v5 μ h K
    replace h : M_acts_l3b v1 v2 v3 v4 (M_acts_l3 v1 v2 v3 v4 n) v5 μ = some μo := h
    unfold M_acts_l3b at h
    refine V_iload G eX12_acts_94 rfl ?_
    refine V_iload G eX12_acts_96 rfl ?_
    refine V_icmp_ge G eX12_acts_98 h (fun h => ?_) (fun h => ?_)
    · cases h; exact V_sub (lS_s (lS_s (lS_s (lS_n (lS_n (lS_n lS_0)))))) K
    · refine V_aload_n (i := 0) G eX12_acts_101 rfl rfl ?_
      refine V_get (v := .ref (wad w 1320 0)) G fgX12_53 rfl eX12_acts_102 ?_
      refine V_bipush (n := 72) (v := (nI 72)) G eX12_acts_105 rfl ?_
      refine V_iload_n (i := 1) G eX12_acts_107 rfl rfl ?_
      refine V_imul G eX12_acts_108 ?_
      refine V_aload_n (i := 0) G eX12_acts_109 rfl rfl ?_
      refine V_get (v := .ref (wad w 1319 0)) G fgX12_50 rfl eX12_acts_110 ?_
      refine V_iload_n (i := 1) G eX12_acts_113 rfl rfl ?_
      refine V_iald G al_1319 (by decide) eX12_acts_114 h (fun x1 h => ?_)
      refine V_iadd G eX12_acts_115 ?_
      refine V_iload_n (i := 3) G eX12_acts_116 rfl rfl ?_
      refine V_iast G al_1320 (by decide) eX12_acts_117 h (fun μ2 h => ?_)
      refine V_aload_n (i := 0) G eX12_acts_118 rfl rfl ?_
      refine V_get (v := .ref (wad w 1319 0)) G fgX12_50 rfl eX12_acts_119 ?_
      refine V_iload_n (i := 1) G eX12_acts_122 rfl rfl ?_
      refine V_dup2_11 G eX12_acts_123 rfl rfl ?_
      refine V_iald G al_1319 (by decide) eX12_acts_124 h (fun x3 h => ?_)
      refine V_iconst (n := 1) (v := (nI 1)) G eX12_acts_125 rfl ?_
      refine V_iadd G eX12_acts_126 ?_
      refine V_iast G al_1319 (by decide) eX12_acts_127 h (fun μ4 h => ?_)
      refine V_iinc (z := (nI 1)) (L' := (fun x5 => [some (.ref (wad w 12 0)), some (.int v1), some (.int v2), some (.int v3), some (.int v4), some (.int x5)])) G eX12_acts_128 rfl rfl (by decide) rfl (fun _ => rfl) h (fun x5 h => ?_)
      refine V_goto G eX12_acts_131 ?_
      exact (ih h K)
set_option maxRecDepth 100000 in
set_option maxHeartbeats 4000000 in
theorem M_acts_l1_ok {p : Program} {l : Launch} {e : Env} {R : Room} {s : State} {m : MethodId} {args : Array Value} {below : List Frame} {meth : Method} {c : Code} {w : Wld} (G : Cxt p R s m args meth c w cX12_acts 6 "PotBookModel" 3 0 0) (hr : meth.sig.returnType = none) {v1 : Int32} {μ' : Mem} : ∀ {n : Nat} {v2 : Int32} {μ : Mem}, M_acts_l1 v1 n v2 μ = some μ' → Vj p l e R s m args below meth c w 6 0 0 (MQ below (QV w μ') args s 0 0 w.2.2.2) 2 [some (.ref (wad w 12 0)), some (.int v1), some (.int v2), none, none, none] [] μ := by
  intro n
  induction n with
  | zero => intro v2 μ h; exact noS h
  | succ n ih =>
    intro v2 μ h
    replace h : M_acts_l1b v1 (M_acts_l1 v1 n) v2 μ = some μ' := h
    unfold M_acts_l1b at h
    refine V_aload_n (i := 0) G eX12_acts_2 rfl rfl ?_
    refine V_get (v := .int (mI μ 1304 0 0)) G fgX12_192 rfl eX12_acts_3 ?_
    refine V_iconst (n := -1) (v := (-1)) G eX12_acts_6 rfl ?_
    refine V_icmp_ne G eX12_acts_7 h (fun h => ?_) (fun h => ?_)
    · refine V_iload_n (i := 2) G eX12_acts_137 rfl rfl ?_
      refine V_if_ne G eX12_acts_138 h (fun h => ?_) (fun h => ?_)
      · exact V_rvM G hr eX12_acts_145 h
      · refine V_aload_n (i := 0) G eX12_acts_141 rfl rfl ?_
        obtain ⟨μ1, h1, h⟩ := bdS h
        refine V_callV (As := []) (st := []) G lkX12_224 (M_bad_ok h1) (by decide) rfl rfl (Nat.le_of_ble_eq_true rfl) eX12_acts_142 ?_
        exact V_rvM G hr eX12_acts_145 h
    · refine V_aload_n (i := 0) G eX12_acts_10 rfl rfl ?_
      obtain ⟨⟨x2, μ3⟩, h1, h⟩ := bdS h
      refine V_callI (As := []) (st := []) G lkX12_218 (M_look_ok h1) (by decide) rfl rfl (Nat.le_of_ble_eq_true rfl) eX12_acts_11 ?_
      obtain ⟨x4, h1, h⟩ := bdS h
      refine V_callIS (As := [.int x2]) (st := []) G lkX12_234 (M_isAct_ok (μ := μ3) h1) (by decide) rfl rfl (Nat.le_of_ble_eq_true rfl) eX12_acts_14 ?_
      refine V_if_eq G eX12_acts_17 h (fun h => ?_) (fun h => ?_)
      · refine V_iload_n (i := 2) G eX12_acts_137 rfl rfl ?_
        refine V_if_ne G eX12_acts_138 h (fun h => ?_) (fun h => ?_)
        · exact V_rvM G hr eX12_acts_145 h
        · refine V_aload_n (i := 0) G eX12_acts_141 rfl rfl ?_
          obtain ⟨μ5, h1, h⟩ := bdS h
          refine V_callV (As := []) (st := []) G lkX12_224 (M_bad_ok h1) (by decide) rfl rfl (Nat.le_of_ble_eq_true rfl) eX12_acts_142 ?_
          exact V_rvM G hr eX12_acts_145 h
      · refine V_iload_n (i := 2) G eX12_acts_20 rfl rfl ?_
        refine V_bipush (n := 8) (v := (nI 8)) G eX12_acts_21 rfl ?_
        refine V_icmp_ne G eX12_acts_23 h (fun h => ?_) (fun h => ?_)
        · refine V_iinc (z := (nI 1)) (L' := (fun x6 => [some (.ref (wad w 12 0)), some (.int v1), some (.int x6), none, none, none])) G eX12_acts_31 rfl rfl (by decide) rfl (fun _ => rfl) h (fun x6 h => ?_)
          refine V_aload_n (i := 0) G eX12_acts_34 rfl rfl ?_
          obtain ⟨x7, h1, h⟩ := bdS h
          refine V_callI (As := []) (st := []) G lkX12_188 (M_here_ok h1) (by decide) rfl rfl (Nat.le_of_ble_eq_true rfl) eX12_acts_35 ?_
          refine V_istoreA_n (i := 3) (L' := [some (.ref (wad w 12 0)), some (.int v1), some (.int x6), some (.int x7), none, none]) G rfl eX12_acts_38 (by decide) rfl rfl ?_
          refine V_aload_n (i := 0) G eX12_acts_39 rfl rfl ?_
          refine V_dup G eX12_acts_40 rfl ?_
          refine V_get (v := .int (mI μ3 1303 0 0)) G fgX12_185 rfl eX12_acts_41 ?_
          refine V_iconst (n := 1) (v := (nI 1)) G eX12_acts_44 rfl ?_
          refine V_iadd G eX12_acts_45 ?_
          refine V_put G fgX12_185 fp_12_3 eX12_acts_46 h (fun μ8 h => ?_)
          refine V_iconst (n := 1) (v := (nI 1)) G eX12_acts_49 rfl ?_
          refine V_istoreA (i := 4) (L' := [some (.ref (wad w 12 0)), some (.int v1), some (.int x6), some (.int x7), some (.int (nI 1)), none]) G eX12_acts_50 (by decide) rfl rfl ?_
          refine V_aload_n (i := 0) G eX12_acts_52 rfl rfl ?_
          obtain ⟨⟨x9, μ10⟩, h1, h⟩ := bdS h
          refine V_callI (As := []) (st := []) G lkX12_218 (M_look_ok h1) (by decide) rfl rfl (Nat.le_of_ble_eq_true rfl) eX12_acts_53 ?_
          obtain ⟨x11, h1, h⟩ := bdS h
          refine V_callIS (As := [.int x9]) (st := []) G lkX12_221 (M_isDigit_ok (μ := μ10) h1) (by decide) rfl rfl (Nat.le_of_ble_eq_true rfl) eX12_acts_56 ?_
          refine V_if_eq G eX12_acts_59 h (fun h => ?_) (fun h => ?_)
          · refine V_iconst (n := 0) (v := (nI 0)) G eX12_acts_91 rfl ?_
            refine V_istoreA (i := 5) (L' := [some (.ref (wad w 12 0)), some (.int v1), some (.int x6), some (.int x7), some (.int (nI 1)), some (.int (nI 0))]) G eX12_acts_92 (by decide) rfl rfl ?_
            obtain ⟨μ12, h1, h⟩ := bdS h
            refine M_acts_l2_ok G h1 ?_
            refine V_goto G eX12_acts_134 ?_
            exact (ih h)
          · refine V_aload_n (i := 0) G eX12_acts_62 rfl rfl ?_
            obtain ⟨x13, h1, h⟩ := bdS h
            refine V_callI (As := []) (st := []) G lkX12_188 (M_here_ok h1) (by decide) rfl rfl (Nat.le_of_ble_eq_true rfl) eX12_acts_63 ?_
            refine V_bipush (n := 48) (v := (nI 48)) G eX12_acts_66 rfl ?_
            refine V_isub G eX12_acts_68 ?_
            refine V_istore (i := 4) (L' := (fun x14 => [some (.ref (wad w 12 0)), some (.int v1), some (.int x6), some (.int x7), some (.int x14), none])) G eX12_acts_69 (by decide) rfl (fun _ => rfl) h (fun x14 h => ?_)
            refine V_iload G eX12_acts_71 rfl ?_
            refine V_if_ne G eX12_acts_73 h (fun h => ?_) (fun h => ?_)
            · refine V_aload_n (i := 0) G eX12_acts_81 rfl rfl ?_
              refine V_dup G eX12_acts_82 rfl ?_
              refine V_get (v := .int (mI μ10 1303 0 0)) G fgX12_185 rfl eX12_acts_83 ?_
              refine V_iconst (n := 1) (v := (nI 1)) G eX12_acts_86 rfl ?_
              refine V_iadd G eX12_acts_87 ?_
              refine V_put G fgX12_185 fp_12_3 eX12_acts_88 h (fun μ15 h => ?_)
              refine V_iconst (n := 0) (v := (nI 0)) G eX12_acts_91 rfl ?_
              refine V_istoreA (i := 5) (L' := [some (.ref (wad w 12 0)), some (.int v1), some (.int x6), some (.int x7), some (.int x14), some (.int (nI 0))]) G eX12_acts_92 (by decide) rfl rfl ?_
              obtain ⟨μ16, h1, h⟩ := bdS h
              refine M_acts_l3_ok G h1 ?_
              refine V_goto G eX12_acts_134 ?_
              exact (ih h)
            · refine V_aload_n (i := 0) G eX12_acts_76 rfl rfl ?_
              obtain ⟨μ17, h1, h⟩ := bdS h
              refine V_callV (As := []) (st := []) G lkX12_224 (M_bad_ok h1) (by decide) rfl rfl (Nat.le_of_ble_eq_true rfl) eX12_acts_77 ?_
              exact V_rvM G hr eX12_acts_80 h
        · refine V_aload_n (i := 0) G eX12_acts_26 rfl rfl ?_
          obtain ⟨μ18, h1, h⟩ := bdS h
          refine V_callV (As := []) (st := []) G lkX12_224 (M_bad_ok h1) (by decide) rfl rfl (Nat.le_of_ble_eq_true rfl) eX12_acts_27 ?_
          exact V_rvM G hr eX12_acts_30 h
set_option maxRecDepth 100000 in
set_option maxHeartbeats 4000000 in
theorem M_acts_run {p : Program} {l : Launch} {e : Env} {R : Room} {s : State} {m : MethodId} {args : Array Value} {below : List Frame} {meth : Method} {c : Code} {w : Wld} (G : Cxt p R s m args meth c w cX12_acts 6 "PotBookModel" 3 0 0) (hr : meth.sig.returnType = none) {a1 : Int32} {μ : Mem} {μ' : Mem} (h : M_acts a1 μ = some μ') : Vj p l e R s m args below meth c w 6 0 0 (MQ below (QV w μ') args s 0 0 w.2.2.2) 0 [some (.ref (wad w 12 0)), some (.int a1), none, none, none, none] [] μ := by
  unfold M_acts at h
  refine V_iconst (n := 0) (v := (nI 0)) G eX12_acts_0 rfl ?_
  refine V_istoreA_n (i := 2) (L' := [some (.ref (wad w 12 0)), some (.int a1), some (.int (nI 0)), none, none, none]) G rfl eX12_acts_1 (by decide) rfl rfl ?_
  exact M_acts_l1_ok G hr h
theorem M_acts_ok {l : Launch} {w : Wld} {a1 : Int32} {μ : Mem} {μ' : Mem} (h : M_acts a1 μ = some μ') : CtV l w yX12_acts cX12_acts 6 3 [.ref (wad w 12 0), .int a1] μ μ' :=
  Ct_of (own := "PotBookModel") [some (.ref (wad w 12 0)), some (.int a1), none, none, none, none] (by decide +kernel) rfl rfl (Nat.le_of_ble_eq_true rfl) fun p e s m args below meth c G hr => M_acts_run G hr h
set_option maxRecDepth 100000 in
set_option maxHeartbeats 4000000 in
theorem M_readPage_l1_ok {p : Program} {l : Launch} {e : Env} {R : Room} {s : State} {m : MethodId} {args : Array Value} {below : List Frame} {meth : Method} {c : Code} {w : Wld} {Q : State → Prop} (G : Cxt p R s m args meth c w cX12_readPage 2 "PotBookModel" 5 0 0) {v1 : Int32} {μo : Mem} : ∀ {n : Nat} {μ : Mem}, M_readPage_l1 v1 n μ = some μo → Vj p l e R s m args below meth c w 2 0 0 Q 64 [some (.ref (wad w 12 0)), some (.int v1)] [] μo → Vj p l e R s m args below meth c w 2 0 0 Q 29 [some (.ref (wad w 12 0)), some (.int v1)] [] μ := by
  intro n
  induction n with
  | zero => intro μ h K; exact noS h
  | succ n ih =>
    intro μ h K
    replace h : M_readPage_l1b v1 (M_readPage_l1 v1 n) μ = some μo := h
    unfold M_readPage_l1b at h
    refine V_aload_n (i := 0) G eX12_readPage_29 rfl rfl ?_
    refine V_get (v := .int (mI μ 1304 0 0)) G fgX12_192 rfl eX12_readPage_30 ?_
    refine V_iconst (n := -1) (v := (-1)) G eX12_readPage_33 rfl ?_
    refine V_icmp_ne G eX12_readPage_34 h (fun h => ?_) (fun h => ?_)
    · cases h; exact K
    · refine V_aload_n (i := 0) G eX12_readPage_37 rfl rfl ?_
      obtain ⟨⟨x1, μ2⟩, h1, h⟩ := bdS h
      refine V_callI (As := []) (st := []) G lkX12_218 (M_look_ok h1) (by decide) rfl rfl (Nat.le_of_ble_eq_true rfl) eX12_readPage_38 ?_
      refine V_bipush (n := 44) (v := (nI 44)) G eX12_readPage_41 rfl ?_
      refine V_icmp_ne G eX12_readPage_43 h (fun h => ?_) (fun h => ?_)
      · cases h; exact K
      · refine V_aload_n (i := 0) G eX12_readPage_46 rfl rfl ?_
        refine V_dup G eX12_readPage_47 rfl ?_
        refine V_get (v := .int (mI μ2 1303 0 0)) G fgX12_185 rfl eX12_readPage_48 ?_
        refine V_iconst (n := 1) (v := (nI 1)) G eX12_readPage_51 rfl ?_
        refine V_iadd G eX12_readPage_52 ?_
        refine V_put G fgX12_185 fp_12_3 eX12_readPage_53 h (fun μ3 h => ?_)
        refine V_aload_n (i := 0) G eX12_readPage_56 rfl rfl ?_
        refine V_iload_n (i := 1) G eX12_readPage_57 rfl rfl ?_
        obtain ⟨μ4, h1, h⟩ := bdS h
        refine V_callV (As := [.int v1]) (st := []) G lkX12_237 (M_item_ok h1) (by decide) rfl rfl (Nat.le_of_ble_eq_true rfl) eX12_readPage_58 ?_
        refine V_goto G eX12_readPage_61 ?_
        exact (ih h K)
set_option maxRecDepth 100000 in
set_option maxHeartbeats 4000000 in
theorem M_readPage_run {p : Program} {l : Launch} {e : Env} {R : Room} {s : State} {m : MethodId} {args : Array Value} {below : List Frame} {meth : Method} {c : Code} {w : Wld} (G : Cxt p R s m args meth c w cX12_readPage 2 "PotBookModel" 5 0 0) (hr : meth.sig.returnType = some .int) {a1 : Int32} {μ : Mem} {r : Int32} {μ' : Mem} (h : M_readPage a1 μ = some (r, μ')) : Vj p l e R s m args below meth c w 2 0 0 (MQ below (QI w r μ') args s 0 0 w.2.2.2) 0 [some (.ref (wad w 12 0)), some (.int a1)] [] μ := by
  unfold M_readPage at h
  refine V_aload_n (i := 0) G eX12_readPage_0 rfl rfl ?_
  refine V_iconst (n := 0) (v := (nI 0)) G eX12_readPage_1 rfl ?_
  refine V_put G fgX12_185 fp_12_3 eX12_readPage_2 h (fun μ1 h => ?_)
  refine V_aload_n (i := 0) G eX12_readPage_5 rfl rfl ?_
  refine V_iconst (n := -1) (v := (-1)) G eX12_readPage_6 rfl ?_
  refine V_put G fgX12_192 fp_12_4 eX12_readPage_7 h (fun μ2 h => ?_)
  refine V_aload_n (i := 0) G eX12_readPage_10 rfl rfl ?_
  refine V_get (v := .ref (wad w 1315 0)) G fgX12_38 rfl eX12_readPage_11 ?_
  refine V_iload_n (i := 1) G eX12_readPage_14 rfl rfl ?_
  refine V_iconst (n := 0) (v := (nI 0)) G eX12_readPage_15 rfl ?_
  refine V_iast G al_1315 (by decide) eX12_readPage_16 h (fun μ3 h => ?_)
  refine V_aload_n (i := 0) G eX12_readPage_17 rfl rfl ?_
  refine V_get (v := .ref (wad w 1319 0)) G fgX12_50 rfl eX12_readPage_18 ?_
  refine V_iload_n (i := 1) G eX12_readPage_21 rfl rfl ?_
  refine V_iconst (n := 0) (v := (nI 0)) G eX12_readPage_22 rfl ?_
  refine V_iast G al_1319 (by decide) eX12_readPage_23 h (fun μ4 h => ?_)
  refine V_aload_n (i := 0) G eX12_readPage_24 rfl rfl ?_
  refine V_iload_n (i := 1) G eX12_readPage_25 rfl rfl ?_
  obtain ⟨μ5, h1, h⟩ := bdS h
  refine V_callV (As := [.int a1]) (st := []) G lkX12_237 (M_item_ok h1) (by decide) rfl rfl (Nat.le_of_ble_eq_true rfl) eX12_readPage_26 ?_
  obtain ⟨μ6, h1, h⟩ := bdS h
  refine M_readPage_l1_ok G h1 ?_
  refine V_aload_n (i := 0) G eX12_readPage_64 rfl rfl ?_
  refine V_get (v := .int (mI μ6 1304 0 0)) G fgX12_192 rfl eX12_readPage_65 ?_
  refine V_iconst (n := -1) (v := (-1)) G eX12_readPage_68 rfl ?_
  obtain ⟨μ11, hj, h⟩ := bdS h
  have J : Vj p l e R s m args below meth c w 2 0 0 (MQ below (QI w r μ') args s 0 0 w.2.2.2) 96 [some (.ref (wad w 12 0)), none] [] μ11 := by
    clear hj
    refine V_aload_n (i := 0) G eX12_readPage_96 rfl rfl ?_
    refine V_get (v := .int (mI μ11 1304 0 0)) G fgX12_192 rfl eX12_readPage_97 ?_
    refine V_iconst (n := -1) (v := (-1)) G eX12_readPage_100 rfl ?_
    refine V_icmp_ne G eX12_readPage_101 h (fun h => ?_) (fun h => ?_)
    · refine V_aload_n (i := 0) G eX12_readPage_116 rfl rfl ?_
      refine V_get (v := .int (mI μ11 1304 0 0)) G fgX12_192 rfl eX12_readPage_117 ?_
      exact V_riM G hr eX12_readPage_120 h
    · refine V_aload_n (i := 0) G eX12_readPage_104 rfl rfl ?_
      obtain ⟨⟨x12, μ13⟩, h1, h⟩ := bdS h
      refine V_callI (As := []) (st := []) G lkX12_218 (M_look_ok h1) (by decide) rfl rfl (Nat.le_of_ble_eq_true rfl) eX12_readPage_105 ?_
      refine V_iconst (n := -1) (v := (-1)) G eX12_readPage_108 rfl ?_
      refine V_icmp_eq G eX12_readPage_109 h (fun h => ?_) (fun h => ?_)
      · refine V_aload_n (i := 0) G eX12_readPage_116 rfl rfl ?_
        refine V_get (v := .int (mI μ13 1304 0 0)) G fgX12_192 rfl eX12_readPage_117 ?_
        exact V_riM G hr eX12_readPage_120 h
      · refine V_aload_n (i := 0) G eX12_readPage_112 rfl rfl ?_
        obtain ⟨μ14, h1, h⟩ := bdS h
        refine V_callV (As := []) (st := []) G lkX12_224 (M_bad_ok h1) (by decide) rfl rfl (Nat.le_of_ble_eq_true rfl) eX12_readPage_113 ?_
        refine V_aload_n (i := 0) G eX12_readPage_116 rfl rfl ?_
        refine V_get (v := .int (mI μ14 1304 0 0)) G fgX12_192 rfl eX12_readPage_117 ?_
        exact V_riM G hr eX12_readPage_120 h
  replace h := hj
  clear hj
  refine V_icmp_ne G eX12_readPage_69 h (fun h => ?_) (fun h => ?_)
  · cases h; exact V_sub (lS_s (lS_n lS_0)) J
  · refine V_aload_n (i := 0) G eX12_readPage_72 rfl rfl ?_
    obtain ⟨⟨x7, μ8⟩, h1, h⟩ := bdS h
    refine V_callI (As := []) (st := []) G lkX12_218 (M_look_ok h1) (by decide) rfl rfl (Nat.le_of_ble_eq_true rfl) eX12_readPage_73 ?_
    refine V_bipush (n := 59) (v := (nI 59)) G eX12_readPage_76 rfl ?_
    refine V_icmp_ne G eX12_readPage_78 h (fun h => ?_) (fun h => ?_)
    · cases h; exact V_sub (lS_s (lS_n lS_0)) J
    · refine V_aload_n (i := 0) G eX12_readPage_81 rfl rfl ?_
      refine V_dup G eX12_readPage_82 rfl ?_
      refine V_get (v := .int (mI μ8 1303 0 0)) G fgX12_185 rfl eX12_readPage_83 ?_
      refine V_iconst (n := 1) (v := (nI 1)) G eX12_readPage_86 rfl ?_
      refine V_iadd G eX12_readPage_87 ?_
      refine V_put G fgX12_185 fp_12_3 eX12_readPage_88 h (fun μ9 h => ?_)
      refine V_aload_n (i := 0) G eX12_readPage_91 rfl rfl ?_
      refine V_iload_n (i := 1) G eX12_readPage_92 rfl rfl ?_
      obtain ⟨μ10, h1, h⟩ := bdS h
      refine V_callV (As := [.int a1]) (st := []) G lkX12_241 (M_acts_ok h1) (by decide) rfl rfl (Nat.le_of_ble_eq_true rfl) eX12_readPage_93 ?_
      cases h; exact V_sub (lS_s (lS_n lS_0)) J
theorem M_readPage_ok {l : Launch} {w : Wld} {a1 : Int32} {μ : Mem} {r : Int32} {μ' : Mem} (h : M_readPage a1 μ = some (r, μ')) : CtI l w yX12_readPage cX12_readPage 2 .int 5 [.ref (wad w 12 0), .int a1] μ r μ' :=
  Ct_of (own := "PotBookModel") [some (.ref (wad w 12 0)), some (.int a1)] (by decide +kernel) rfl rfl (Nat.le_of_ble_eq_true rfl) fun p e s m args below meth c G hr => M_readPage_run G hr h
set_option maxRecDepth 100000 in
set_option maxHeartbeats 4000000 in
theorem M_put_run {p : Program} {l : Launch} {e : Env} {R : Room} {s : State} {m : MethodId} {args : Array Value} {below : List Frame} {meth : Method} {c : Code} {w : Wld} (G : Cxt p R s m args meth c w cX12_put 3 "PotBookModel" 1 0 0) (hr : meth.sig.returnType = none) {a1 : Int32} {a2 : Int32} {μ : Mem} {μ' : Mem} (h : M_put a1 a2 μ = some μ') : Vj p l e R s m args below meth c w 3 0 0 (MQ below (QV w μ') args s 0 0 w.2.2.2) 0 [some (.ref (wad w 12 0)), some (.int a1), some (.int a2)] [] μ := by
  unfold M_put at h
  refine V_aload_n (i := 0) G eX12_put_0 rfl rfl ?_
  refine V_get (v := .ref (wad w 1325 0)) G fgX12_65 rfl eX12_put_1 ?_
  refine V_aload_n (i := 0) G eX12_put_4 rfl rfl ?_
  refine V_get (v := .int (mI μ 1331 0 0)) G fgX12_244 rfl eX12_put_5 ?_
  refine V_iald G al_1325 (by decide) eX12_put_8 h (fun x1 h => ?_)
  refine V_sipush (n := 260) (v := (nI 260)) G eX12_put_9 rfl ?_
  refine V_icmp_ge G eX12_put_12 h (fun h => ?_) (fun h => ?_)
  · exact V_rvM G hr eX12_put_76 h
  · refine V_aload_n (i := 0) G eX12_put_15 rfl rfl ?_
    refine V_get (v := .ref (wad w 1323 0)) G fgX12_59 rfl eX12_put_16 ?_
    refine V_sipush (n := 260) (v := (nI 260)) G eX12_put_19 rfl ?_
    refine V_aload_n (i := 0) G eX12_put_22 rfl rfl ?_
    refine V_get (v := .int (mI μ 1331 0 0)) G fgX12_244 rfl eX12_put_23 ?_
    refine V_imul G eX12_put_26 ?_
    refine V_aload_n (i := 0) G eX12_put_27 rfl rfl ?_
    refine V_get (v := .ref (wad w 1325 0)) G fgX12_65 rfl eX12_put_28 ?_
    refine V_aload_n (i := 0) G eX12_put_31 rfl rfl ?_
    refine V_get (v := .int (mI μ 1331 0 0)) G fgX12_244 rfl eX12_put_32 ?_
    refine V_iald G al_1325 (by decide) eX12_put_35 h (fun x2 h => ?_)
    refine V_iadd G eX12_put_36 ?_
    refine V_iload_n (i := 1) G eX12_put_37 rfl rfl ?_
    refine V_iast G al_1323 (by decide) eX12_put_38 h (fun μ3 h => ?_)
    refine V_aload_n (i := 0) G eX12_put_39 rfl rfl ?_
    refine V_get (v := .ref (wad w 1324 0)) G fgX12_62 rfl eX12_put_40 ?_
    refine V_sipush (n := 260) (v := (nI 260)) G eX12_put_43 rfl ?_
    refine V_aload_n (i := 0) G eX12_put_46 rfl rfl ?_
    refine V_get (v := .int (mI μ3 1331 0 0)) G fgX12_244 rfl eX12_put_47 ?_
    refine V_imul G eX12_put_50 ?_
    refine V_aload_n (i := 0) G eX12_put_51 rfl rfl ?_
    refine V_get (v := .ref (wad w 1325 0)) G fgX12_65 rfl eX12_put_52 ?_
    refine V_aload_n (i := 0) G eX12_put_55 rfl rfl ?_
    refine V_get (v := .int (mI μ3 1331 0 0)) G fgX12_244 rfl eX12_put_56 ?_
    refine V_iald G al_1325 (by decide) eX12_put_59 h (fun x4 h => ?_)
    refine V_iadd G eX12_put_60 ?_
    refine V_iload_n (i := 2) G eX12_put_61 rfl rfl ?_
    refine V_iast G al_1324 (by decide) eX12_put_62 h (fun μ5 h => ?_)
    refine V_aload_n (i := 0) G eX12_put_63 rfl rfl ?_
    refine V_get (v := .ref (wad w 1325 0)) G fgX12_65 rfl eX12_put_64 ?_
    refine V_aload_n (i := 0) G eX12_put_67 rfl rfl ?_
    refine V_get (v := .int (mI μ5 1331 0 0)) G fgX12_244 rfl eX12_put_68 ?_
    refine V_dup2_11 G eX12_put_71 rfl rfl ?_
    refine V_iald G al_1325 (by decide) eX12_put_72 h (fun x6 h => ?_)
    refine V_iconst (n := 1) (v := (nI 1)) G eX12_put_73 rfl ?_
    refine V_iadd G eX12_put_74 ?_
    refine V_iast G al_1325 (by decide) eX12_put_75 h (fun μ7 h => ?_)
    exact V_rvM G hr eX12_put_76 h
theorem M_put_ok {l : Launch} {w : Wld} {a1 : Int32} {a2 : Int32} {μ : Mem} {μ' : Mem} (h : M_put a1 a2 μ = some μ') : CtV l w yX12_put cX12_put 3 1 [.ref (wad w 12 0), .int a1, .int a2] μ μ' :=
  Ct_of (own := "PotBookModel") [some (.ref (wad w 12 0)), some (.int a1), some (.int a2)] (by decide +kernel) rfl rfl (Nat.le_of_ble_eq_true rfl) fun p e s m args below meth c G hr => M_put_run G hr h
set_option maxRecDepth 100000 in
set_option maxHeartbeats 4000000 in
theorem M_letterOf_run {p : Program} {l : Launch} {e : Env} {R : Room} {s : State} {m : MethodId} {args : Array Value} {below : List Frame} {meth : Method} {c : Code} {w : Wld} (G : Cxt p R s m args meth c w cX12_letterOf 1 "PotBookModel" 1 0 0) (hr : meth.sig.returnType = some .int) {a1 : Int32} {μ : Mem} {r : Int32} (h : M_letterOf a1 = some r) : Vj p l e R s m args below meth c w 1 0 0 (MQ below (QI w r μ) args s 0 0 w.2.2.2) 0 [some (.int a1)] [] μ := by
  unfold M_letterOf at h
  refine V_iload_n (i := 0) G eX12_letterOf_0 rfl rfl ?_
  refine V_bipush (n := 119) (v := (nI 119)) G eX12_letterOf_1 rfl ?_
  refine V_icmp_ne G eX12_letterOf_3 h (fun h => ?_) (fun h => ?_)
  · refine V_iload_n (i := 0) G eX12_letterOf_10 rfl rfl ?_
    refine V_bipush (n := 115) (v := (nI 115)) G eX12_letterOf_11 rfl ?_
    refine V_icmp_ne G eX12_letterOf_13 h (fun h => ?_) (fun h => ?_)
    · refine V_iload_n (i := 0) G eX12_letterOf_20 rfl rfl ?_
      refine V_bipush (n := 102) (v := (nI 102)) G eX12_letterOf_21 rfl ?_
      refine V_icmp_ne G eX12_letterOf_23 h (fun h => ?_) (fun h => ?_)
      · refine V_iload_n (i := 0) G eX12_letterOf_30 rfl rfl ?_
        refine V_bipush (n := 110) (v := (nI 110)) G eX12_letterOf_31 rfl ?_
        refine V_icmp_ne G eX12_letterOf_33 h (fun h => ?_) (fun h => ?_)
        · refine V_iload_n (i := 0) G eX12_letterOf_40 rfl rfl ?_
          refine V_bipush (n := 98) (v := (nI 98)) G eX12_letterOf_41 rfl ?_
          refine V_icmp_ne G eX12_letterOf_43 h (fun h => ?_) (fun h => ?_)
          · refine V_iload_n (i := 0) G eX12_letterOf_50 rfl rfl ?_
            refine V_bipush (n := 114) (v := (nI 114)) G eX12_letterOf_51 rfl ?_
            refine V_icmp_ne G eX12_letterOf_53 h (fun h => ?_) (fun h => ?_)
            · refine V_iload_n (i := 0) G eX12_letterOf_60 rfl rfl ?_
              refine V_bipush (n := 116) (v := (nI 116)) G eX12_letterOf_61 rfl ?_
              refine V_icmp_ne G eX12_letterOf_63 h (fun h => ?_) (fun h => ?_)
              · refine V_iload_n (i := 0) G eX12_letterOf_71 rfl rfl ?_
                refine V_bipush (n := 117) (v := (nI 117)) G eX12_letterOf_72 rfl ?_
                refine V_icmp_ne G eX12_letterOf_74 h (fun h => ?_) (fun h => ?_)
                · refine V_iload_n (i := 0) G eX12_letterOf_82 rfl rfl ?_
                  refine V_bipush (n := 107) (v := (nI 107)) G eX12_letterOf_83 rfl ?_
                  refine V_icmp_ne G eX12_letterOf_85 h (fun h => ?_) (fun h => ?_)
                  · refine V_iconst (n := -1) (v := (-1)) G eX12_letterOf_93 rfl ?_
                    exact V_ri G hr eX12_letterOf_94 h
                  · refine V_bipush (n := 8) (v := (nI 8)) G eX12_letterOf_88 rfl ?_
                    refine V_goto G eX12_letterOf_90 ?_
                    exact V_ri G hr eX12_letterOf_94 h
                · refine V_bipush (n := 7) (v := (nI 7)) G eX12_letterOf_77 rfl ?_
                  refine V_goto G eX12_letterOf_79 ?_
                  exact V_ri G hr eX12_letterOf_94 h
              · refine V_bipush (n := 6) (v := (nI 6)) G eX12_letterOf_66 rfl ?_
                refine V_goto G eX12_letterOf_68 ?_
                exact V_ri G hr eX12_letterOf_94 h
            · refine V_iconst (n := 5) (v := (nI 5)) G eX12_letterOf_56 rfl ?_
              refine V_goto G eX12_letterOf_57 ?_
              exact V_ri G hr eX12_letterOf_94 h
          · refine V_iconst (n := 4) (v := (nI 4)) G eX12_letterOf_46 rfl ?_
            refine V_goto G eX12_letterOf_47 ?_
            exact V_ri G hr eX12_letterOf_94 h
        · refine V_iconst (n := 3) (v := (nI 3)) G eX12_letterOf_36 rfl ?_
          refine V_goto G eX12_letterOf_37 ?_
          exact V_ri G hr eX12_letterOf_94 h
      · refine V_iconst (n := 2) (v := (nI 2)) G eX12_letterOf_26 rfl ?_
        refine V_goto G eX12_letterOf_27 ?_
        exact V_ri G hr eX12_letterOf_94 h
    · refine V_iconst (n := 1) (v := (nI 1)) G eX12_letterOf_16 rfl ?_
      refine V_goto G eX12_letterOf_17 ?_
      exact V_ri G hr eX12_letterOf_94 h
  · refine V_iconst (n := 0) (v := (nI 0)) G eX12_letterOf_6 rfl ?_
    refine V_goto G eX12_letterOf_7 ?_
    exact V_ri G hr eX12_letterOf_94 h
theorem M_letterOf_ok {l : Launch} {w : Wld} {a1 : Int32} {μ : Mem} {r : Int32} (h : M_letterOf a1 = some r) : CtI l w yX12_letterOf cX12_letterOf 1 .int 1 [.int a1] μ r μ :=
  Ct_of (own := "PotBookModel") [some (.int a1)] (by decide +kernel) rfl rfl (Nat.le_of_ble_eq_true rfl) fun p e s m args below meth c G hr => M_letterOf_run G hr h
set_option maxRecDepth 100000 in
set_option maxHeartbeats 4000000 in
theorem M_opens_run {p : Program} {l : Launch} {e : Env} {R : Room} {s : State} {m : MethodId} {args : Array Value} {below : List Frame} {meth : Method} {c : Code} {w : Wld} (G : Cxt p R s m args meth c w cX12_opens 1 "PotBookModel" 2 0 0) (hr : meth.sig.returnType = none) {μ : Mem} {μ' : Mem} (h : M_opens μ = some μ') : Vj p l e R s m args below meth c w 1 0 0 (MQ below (QV w μ') args s 0 0 w.2.2.2) 0 [some (.ref (wad w 12 0))] [] μ := by
  unfold M_opens at h
  refine V_aload_n (i := 0) G eX12_opens_0 rfl rfl ?_
  refine V_get (v := .int (mI μ 1305 0 0)) G fgX12_247 rfl eX12_opens_1 ?_
  refine V_bipush (n := 6) (v := (nI 6)) G eX12_opens_4 rfl ?_
  obtain ⟨μ2, hj, h⟩ := bdS h
  have J : Vj p l e R s m args below meth c w 1 0 0 (MQ below (QV w μ') args s 0 0 w.2.2.2) 13 [some (.ref (wad w 12 0))] [] μ2 := by
    clear hj
    refine V_aload_n (i := 0) G eX12_opens_13 rfl rfl ?_
    refine V_dup G eX12_opens_14 rfl ?_
    refine V_get (v := .int (mI μ2 1305 0 0)) G fgX12_247 rfl eX12_opens_15 ?_
    refine V_iconst (n := 1) (v := (nI 1)) G eX12_opens_18 rfl ?_
    refine V_iadd G eX12_opens_19 ?_
    refine V_put G fgX12_247 fp_12_5 eX12_opens_20 h (fun μ3 h => ?_)
    refine V_aload_n (i := 0) G eX12_opens_23 rfl rfl ?_
    refine V_dup G eX12_opens_24 rfl ?_
    refine V_get (v := .int (mI μ3 1303 0 0)) G fgX12_185 rfl eX12_opens_25 ?_
    refine V_iconst (n := 1) (v := (nI 1)) G eX12_opens_28 rfl ?_
    refine V_iadd G eX12_opens_29 ?_
    refine V_put G fgX12_185 fp_12_3 eX12_opens_30 h (fun μ4 h => ?_)
    exact V_rvM G hr eX12_opens_33 h
  replace h := hj
  clear hj
  refine V_icmp_ne G eX12_opens_6 h (fun h => ?_) (fun h => ?_)
  · cases h; exact J
  · refine V_aload_n (i := 0) G eX12_opens_9 rfl rfl ?_
    obtain ⟨μ1, h1, h⟩ := bdS h
    refine V_callV (As := []) (st := []) G lkX12_224 (M_bad_ok h1) (by decide) rfl rfl (Nat.le_of_ble_eq_true rfl) eX12_opens_10 ?_
    cases h; exact J
theorem M_opens_ok {l : Launch} {w : Wld} {μ : Mem} {μ' : Mem} (h : M_opens μ = some μ') : CtV l w yX12_opens cX12_opens 1 2 [.ref (wad w 12 0)] μ μ' :=
  Ct_of (own := "PotBookModel") [some (.ref (wad w 12 0))] (by decide +kernel) rfl rfl (Nat.le_of_ble_eq_true rfl) fun p e s m args below meth c G hr => M_opens_run G hr h
set_option maxRecDepth 100000 in
set_option maxHeartbeats 4000000 in
theorem M_closes_run {p : Program} {l : Launch} {e : Env} {R : Room} {s : State} {m : MethodId} {args : Array Value} {below : List Frame} {meth : Method} {c : Code} {w : Wld} (G : Cxt p R s m args meth c w cX12_closes 2 "PotBookModel" 3 0 0) (hr : meth.sig.returnType = none) {a1 : Int32} {μ : Mem} {μ' : Mem} (h : M_closes a1 μ = some μ') : Vj p l e R s m args below meth c w 2 0 0 (MQ below (QV w μ') args s 0 0 w.2.2.2) 0 [some (.ref (wad w 12 0)), some (.int a1)] [] μ := by
  unfold M_closes at h
  refine V_aload_n (i := 0) G eX12_closes_0 rfl rfl ?_
  refine V_get (v := .int (mI μ 1304 0 0)) G fgX12_192 rfl eX12_closes_1 ?_
  refine V_iconst (n := -1) (v := (-1)) G eX12_closes_4 rfl ?_
  obtain ⟨μ4, hj, h⟩ := bdS h
  have J : Vj p l e R s m args below meth c w 2 0 0 (MQ below (QV w μ') args s 0 0 w.2.2.2) 20 [some (.ref (wad w 12 0)), none] [] μ4 := by
    clear hj
    refine V_aload_n (i := 0) G eX12_closes_20 rfl rfl ?_
    refine V_dup G eX12_closes_21 rfl ?_
    refine V_get (v := .int (mI μ4 1303 0 0)) G fgX12_185 rfl eX12_closes_22 ?_
    refine V_iconst (n := 1) (v := (nI 1)) G eX12_closes_25 rfl ?_
    refine V_iadd G eX12_closes_26 ?_
    refine V_put G fgX12_185 fp_12_3 eX12_closes_27 h (fun μ5 h => ?_)
    refine V_aload_n (i := 0) G eX12_closes_30 rfl rfl ?_
    refine V_dup G eX12_closes_31 rfl ?_
    refine V_get (v := .int (mI μ5 1305 0 0)) G fgX12_247 rfl eX12_closes_32 ?_
    refine V_iconst (n := 1) (v := (nI 1)) G eX12_closes_35 rfl ?_
    refine V_isub G eX12_closes_36 ?_
    refine V_put G fgX12_247 fp_12_5 eX12_closes_37 h (fun μ6 h => ?_)
    exact V_rvM G hr eX12_closes_40 h
  replace h := hj
  clear hj
  refine V_icmp_ne G eX12_closes_5 h (fun h => ?_) (fun h => ?_)
  · cases h; exact V_sub (lS_s (lS_n lS_0)) J
  · refine V_aload_n (i := 0) G eX12_closes_8 rfl rfl ?_
    obtain ⟨⟨x1, μ2⟩, h1, h⟩ := bdS h
    refine V_callI (As := []) (st := []) G lkX12_218 (M_look_ok h1) (by decide) rfl rfl (Nat.le_of_ble_eq_true rfl) eX12_closes_9 ?_
    refine V_iload_n (i := 1) G eX12_closes_12 rfl rfl ?_
    refine V_icmp_eq G eX12_closes_13 h (fun h => ?_) (fun h => ?_)
    · cases h; exact V_sub (lS_s (lS_n lS_0)) J
    · refine V_aload_n (i := 0) G eX12_closes_16 rfl rfl ?_
      obtain ⟨μ3, h1, h⟩ := bdS h
      refine V_callV (As := []) (st := []) G lkX12_224 (M_bad_ok h1) (by decide) rfl rfl (Nat.le_of_ble_eq_true rfl) eX12_closes_17 ?_
      cases h; exact V_sub (lS_s (lS_n lS_0)) J
theorem M_closes_ok {l : Launch} {w : Wld} {a1 : Int32} {μ : Mem} {μ' : Mem} (h : M_closes a1 μ = some μ') : CtV l w yX12_closes cX12_closes 2 3 [.ref (wad w 12 0), .int a1] μ μ' :=
  Ct_of (own := "PotBookModel") [some (.ref (wad w 12 0)), some (.int a1)] (by decide +kernel) rfl rfl (Nat.le_of_ble_eq_true rfl) fun p e s m args below meth c G hr => M_closes_run G hr h
set_option maxRecDepth 100000 in
set_option maxHeartbeats 4000000 in
theorem M_atom_l1_ok {p : Program} {l : Launch} {e : Env} {R : Room} {s : State} {m : MethodId} {args : Array Value} {below : List Frame} {meth : Method} {c : Code} {w : Wld} {Q : State → Prop} {lv : Nat} (hlv : 3 ≤ lv) (G : Cxt p R s m args meth c w cX12_atom 4 "PotBookModel" (lv + 1) 0 0) {r_M_sum : Mem → Option Mem} (ih_M_sum : ∀ {μ : Mem} {μ' : Mem}, r_M_sum μ = some μ' → CtV l w yX12_sum cX12_sum 2 lv [.ref (wad w 12 0)] μ μ') {o1 : Int32} {μo : Mem} : ∀ {n : Nat} {v2 : Int32} {v3 : Int32} {μ : Mem}, M_atom_l1 r_M_sum n v2 v3 μ = some (o1, μo) → Vj p l e R s m args below meth c w 4 0 0 Q 60 [some (.ref (wad w 12 0)), none, some (.int o1), none] [] μo → Vj p l e R s m args below meth c w 4 0 0 Q 16 [some (.ref (wad w 12 0)), none, some (.int v2), some (.int v3)] [] μ := by
  intro n
  induction n with
  | zero => intro v2 v3 μ h K; exact noS h
  | succ n ih =>
    intro v2 v3 μ h K
    replace h : M_atom_l1b r_M_sum (M_atom_l1 r_M_sum n) v2 v3 μ = some (o1, μo) := h
    unfold M_atom_l1b at h
    refine V_iload_n (i := 3) G eX12_atom_16 rfl rfl ?_
    refine V_iconst (n := 4) (v := (nI 4)) G eX12_atom_17 rfl ?_
    refine V_icmp_ge G eX12_atom_18 h (fun h => ?_) (fun h => ?_)
    · cases h; exact V_sub (lS_s (lS_n (lS_s (lS_n lS_0)))) K
    · refine V_aload_n (i := 0) G eX12_atom_21 rfl rfl ?_
      obtain ⟨x1, h1, h⟩ := bdS h
      refine V_callI (As := []) (st := []) G lkX12_188 (M_here_ok h1) (by omega) rfl rfl (Nat.le_of_ble_eq_true rfl) eX12_atom_22 ?_
      obtain ⟨x2, h1, h⟩ := bdS h
      refine V_callIS (As := [.int x1]) (st := []) G lkX12_221 (M_isDigit_ok (μ := μ) h1) (by omega) rfl rfl (Nat.le_of_ble_eq_true rfl) eX12_atom_25 ?_
      refine V_if_eq G eX12_atom_28 h (fun h => ?_) (fun h => ?_)
      · cases h; exact V_sub (lS_s (lS_n (lS_s (lS_n lS_0)))) K
      · refine V_bipush (n := 10) (v := (nI 10)) G eX12_atom_31 rfl ?_
        refine V_iload_n (i := 2) G eX12_atom_33 rfl rfl ?_
        refine V_imul G eX12_atom_34 ?_
        refine V_aload_n (i := 0) G eX12_atom_35 rfl rfl ?_
        obtain ⟨x3, h1, h⟩ := bdS h
        refine V_callI (As := []) (st := [.int ((nI 10) * v2)]) G lkX12_188 (M_here_ok h1) (by omega) rfl rfl (Nat.le_of_ble_eq_true rfl) eX12_atom_36 ?_
        refine V_iadd G eX12_atom_39 ?_
        refine V_bipush (n := 48) (v := (nI 48)) G eX12_atom_40 rfl ?_
        refine V_isub G eX12_atom_42 ?_
        refine V_istore_n (i := 2) (L' := (fun x4 => [some (.ref (wad w 12 0)), none, some (.int x4), some (.int v3)])) G rfl eX12_atom_43 (by decide) rfl (fun _ => rfl) h (fun x4 h => ?_)
        refine V_aload_n (i := 0) G eX12_atom_44 rfl rfl ?_
        refine V_dup G eX12_atom_45 rfl ?_
        refine V_get (v := .int (mI μ 1303 0 0)) G fgX12_185 rfl eX12_atom_46 ?_
        refine V_iconst (n := 1) (v := (nI 1)) G eX12_atom_49 rfl ?_
        refine V_iadd G eX12_atom_50 ?_
        refine V_put G fgX12_185 fp_12_3 eX12_atom_51 h (fun μ5 h => ?_)
        refine V_iinc (z := (nI 1)) (L' := (fun x6 => [some (.ref (wad w 12 0)), none, some (.int x4), some (.int x6)])) G eX12_atom_54 rfl rfl (by decide) rfl (fun _ => rfl) h (fun x6 h => ?_)
        refine V_goto G eX12_atom_57 ?_
        exact (ih h K)
set_option maxRecDepth 100000 in
set_option maxHeartbeats 4000000 in
theorem M_atom_B_run {p : Program} {l : Launch} {e : Env} {R : Room} {s : State} {m : MethodId} {args : Array Value} {below : List Frame} {meth : Method} {c : Code} {w : Wld} {lv : Nat} (hlv : 3 ≤ lv) (G : Cxt p R s m args meth c w cX12_atom 4 "PotBookModel" (lv + 1) 0 0) (hr : meth.sig.returnType = none) {r_M_sum : Mem → Option Mem} (ih_M_sum : ∀ {μ : Mem} {μ' : Mem}, r_M_sum μ = some μ' → CtV l w yX12_sum cX12_sum 2 lv [.ref (wad w 12 0)] μ μ') {μ : Mem} {μ' : Mem} (h : M_atom_B r_M_sum μ = some μ') : Vj p l e R s m args below meth c w 4 0 0 (MQ below (QV w μ') args s 0 0 w.2.2.2) 0 [some (.ref (wad w 12 0)), none, none, none] [] μ := by
  unfold M_atom_B at h
  refine V_aload_n (i := 0) G eX12_atom_0 rfl rfl ?_
  obtain ⟨⟨x1, μ2⟩, h1, h⟩ := bdS h
  refine V_callI (As := []) (st := []) G lkX12_218 (M_look_ok h1) (by omega) rfl rfl (Nat.le_of_ble_eq_true rfl) eX12_atom_1 ?_
  refine V_istoreA_n (i := 1) (L' := [some (.ref (wad w 12 0)), some (.int x1), none, none]) G rfl eX12_atom_4 (by decide) rfl rfl ?_
  refine V_iload_n (i := 1) G eX12_atom_5 rfl rfl ?_
  obtain ⟨x3, h1, h⟩ := bdS h
  refine V_callIS (As := [.int x1]) (st := []) G lkX12_221 (M_isDigit_ok (μ := μ2) h1) (by omega) rfl rfl (Nat.le_of_ble_eq_true rfl) eX12_atom_6 ?_
  refine V_if_eq G eX12_atom_9 h (fun h => ?_) (fun h => ?_)
  · refine V_iload_n (i := 1) G eX12_atom_83 rfl rfl ?_
    obtain ⟨x4, h1, h⟩ := bdS h
    refine V_callIS (As := [.int x1]) (st := []) G lkX12_254 (M_letterOf_ok (μ := μ2) h1) (by omega) rfl rfl (Nat.le_of_ble_eq_true rfl) eX12_atom_84 ?_
    refine V_iconst (n := -1) (v := (-1)) G eX12_atom_87 rfl ?_
    refine V_icmp_eq G eX12_atom_88 h (fun h => ?_) (fun h => ?_)
    · refine V_iload_n (i := 1) G eX12_atom_113 rfl rfl ?_
      refine V_bipush (n := 91) (v := (nI 91)) G eX12_atom_114 rfl ?_
      refine V_icmp_ne G eX12_atom_116 h (fun h => ?_) (fun h => ?_)
      · refine V_aload_n (i := 0) G eX12_atom_144 rfl rfl ?_
        obtain ⟨μ5, h1, h⟩ := bdS h
        refine V_callV (As := []) (st := []) G lkX12_224 (M_bad_ok h1) (by omega) rfl rfl (Nat.le_of_ble_eq_true rfl) eX12_atom_145 ?_
        exact V_rvM G hr eX12_atom_148 h
      · refine V_aload_n (i := 0) G eX12_atom_119 rfl rfl ?_
        obtain ⟨μ6, h1, h⟩ := bdS h
        refine V_callV (As := []) (st := []) G lkX12_257 (M_opens_ok h1) (by omega) rfl rfl (Nat.le_of_ble_eq_true rfl) eX12_atom_120 ?_
        refine V_aload_n (i := 0) G eX12_atom_123 rfl rfl ?_
        refine V_get (v := .int (mI μ6 1304 0 0)) G fgX12_192 rfl eX12_atom_124 ?_
        refine V_iconst (n := -1) (v := (-1)) G eX12_atom_127 rfl ?_
        refine V_icmp_ne G eX12_atom_128 h (fun h => ?_) (fun h => ?_)
        · exact V_rvM G hr eX12_atom_148 h
        · refine V_aload_n (i := 0) G eX12_atom_131 rfl rfl ?_
          obtain ⟨μ7, h1, h⟩ := bdS h
          refine V_callV (As := []) (st := []) G lkX12_260 (ih_M_sum h1) (by omega) rfl rfl (Nat.le_of_ble_eq_true rfl) eX12_atom_132 ?_
          refine V_aload_n (i := 0) G eX12_atom_135 rfl rfl ?_
          refine V_bipush (n := 93) (v := (nI 93)) G eX12_atom_136 rfl ?_
          obtain ⟨μ8, h1, h⟩ := bdS h
          refine V_callV (As := [.int (nI 93)]) (st := []) G lkX12_263 (M_closes_ok h1) (by omega) rfl rfl (Nat.le_of_ble_eq_true rfl) eX12_atom_138 ?_
          refine V_goto G eX12_atom_141 ?_
          exact V_rvM G hr eX12_atom_148 h
    · refine V_aload_n (i := 0) G eX12_atom_91 rfl rfl ?_
      refine V_dup G eX12_atom_92 rfl ?_
      refine V_get (v := .int (mI μ2 1303 0 0)) G fgX12_185 rfl eX12_atom_93 ?_
      refine V_iconst (n := 1) (v := (nI 1)) G eX12_atom_96 rfl ?_
      refine V_iadd G eX12_atom_97 ?_
      refine V_put G fgX12_185 fp_12_3 eX12_atom_98 h (fun μ9 h => ?_)
      refine V_aload_n (i := 0) G eX12_atom_101 rfl rfl ?_
      refine V_iconst (n := 1) (v := (nI 1)) G eX12_atom_102 rfl ?_
      refine V_iload_n (i := 1) G eX12_atom_103 rfl rfl ?_
      obtain ⟨x10, h1, h⟩ := bdS h
      refine V_callIS (As := [.int x1]) (st := [.int (nI 1), .ref (wad w 12 0)]) G lkX12_254 (M_letterOf_ok (μ := μ9) h1) (by omega) rfl rfl (Nat.le_of_ble_eq_true rfl) eX12_atom_104 ?_
      obtain ⟨μ11, h1, h⟩ := bdS h
      refine V_callV (As := [.int (nI 1), .int x10]) (st := []) G lkX12_250 (M_put_ok h1) (by omega) rfl rfl (Nat.le_of_ble_eq_true rfl) eX12_atom_107 ?_
      refine V_goto G eX12_atom_110 ?_
      exact V_rvM G hr eX12_atom_148 h
  · refine V_iconst (n := 0) (v := (nI 0)) G eX12_atom_12 rfl ?_
    refine V_istoreA_n (i := 2) (L' := [some (.ref (wad w 12 0)), some (.int x1), some (.int (nI 0)), none]) G rfl eX12_atom_13 (by decide) rfl rfl ?_
    refine V_iconst (n := 0) (v := (nI 0)) G eX12_atom_14 rfl ?_
    refine V_istoreA_n (i := 3) (L' := [some (.ref (wad w 12 0)), some (.int x1), some (.int (nI 0)), some (.int (nI 0))]) G rfl eX12_atom_15 (by decide) rfl rfl ?_
    obtain ⟨⟨x12, μ13⟩, h1, h⟩ := bdS h
    refine V_sub (lS_s (lS_n (lS_s (lS_s lS_0)))) ?_
    refine M_atom_l1_ok hlv G ih_M_sum h1 ?_
    refine V_aload_n (i := 0) G eX12_atom_60 rfl rfl ?_
    obtain ⟨x14, h1, h⟩ := bdS h
    refine V_callI (As := []) (st := []) G lkX12_188 (M_here_ok h1) (by omega) rfl rfl (Nat.le_of_ble_eq_true rfl) eX12_atom_61 ?_
    obtain ⟨x15, h1, h⟩ := bdS h
    refine V_callIS (As := [.int x14]) (st := []) G lkX12_221 (M_isDigit_ok (μ := μ13) h1) (by omega) rfl rfl (Nat.le_of_ble_eq_true rfl) eX12_atom_64 ?_
    obtain ⟨μ17, hj, h⟩ := bdS h
    have J : Vj p l e R s m args below meth c w 4 0 0 (MQ below (QV w μ') args s 0 0 w.2.2.2) 74 [some (.ref (wad w 12 0)), none, some (.int x12), none] [] μ17 := by
      clear hj
      refine V_aload_n (i := 0) G eX12_atom_74 rfl rfl ?_
      refine V_iconst (n := 0) (v := (nI 0)) G eX12_atom_75 rfl ?_
      refine V_iload_n (i := 2) G eX12_atom_76 rfl rfl ?_
      obtain ⟨μ18, h1, h⟩ := bdS h
      refine V_callV (As := [.int (nI 0), .int x12]) (st := []) G lkX12_250 (M_put_ok h1) (by omega) rfl rfl (Nat.le_of_ble_eq_true rfl) eX12_atom_77 ?_
      refine V_goto G eX12_atom_80 ?_
      exact V_rvM G hr eX12_atom_148 h
    replace h := hj
    clear hj
    refine V_if_eq G eX12_atom_67 h (fun h => ?_) (fun h => ?_)
    · cases h; exact J
    · refine V_aload_n (i := 0) G eX12_atom_70 rfl rfl ?_
      obtain ⟨μ16, h1, h⟩ := bdS h
      refine V_callV (As := []) (st := []) G lkX12_224 (M_bad_ok h1) (by omega) rfl rfl (Nat.le_of_ble_eq_true rfl) eX12_atom_71 ?_
      cases h; exact J
set_option maxRecDepth 100000 in
set_option maxHeartbeats 4000000 in
theorem M_term_l1_ok {p : Program} {l : Launch} {e : Env} {R : Room} {s : State} {m : MethodId} {args : Array Value} {below : List Frame} {meth : Method} {c : Code} {w : Wld} {Q : State → Prop} {lv : Nat} (hlv : 3 ≤ lv) (G : Cxt p R s m args meth c w cX12_term 2 "PotBookModel" (lv + 1) 0 0) {r_M_atom : Mem → Option Mem} (ih_M_atom : ∀ {μ : Mem} {μ' : Mem}, r_M_atom μ = some μ' → CtV l w yX12_atom cX12_atom 4 lv [.ref (wad w 12 0)] μ μ') {μo : Mem} : ∀ {n : Nat} {v1 : Int32} {μ : Mem}, M_term_l1 r_M_atom n v1 μ = some μo → Vj p l e R s m args below meth c w 2 0 0 Q 83 [none, none] [] μo → Vj p l e R s m args below meth c w 2 0 0 Q 21 [some (.ref (wad w 12 0)), some (.int v1)] [] μ := by
  intro n
  induction n with
  | zero => intro v1 μ h K; exact noS h
  | succ n ih =>
    intro v1 μ h K
    replace h : M_term_l1b r_M_atom (M_term_l1 r_M_atom n) v1 μ = some μo := h
    unfold M_term_l1b at h
    refine V_iload_n (i := 1) G eX12_term_21 rfl rfl ?_
    refine V_bipush (n := 42) (v := (nI 42)) G eX12_term_22 rfl ?_
    obtain ⟨k1, hkk1, h⟩ := kE h
    have Jk1 :  k1 () = some μo → Vj p l e R s m args below meth c w 2 0 0 Q 33 [some (.ref (wad w 12 0)), some (.int v1)] [] μ := by
      clear h
      intro h
      rw [hkk1] at h
      clear hkk1
      refine V_aload_n (i := 0) G eX12_term_33 rfl rfl ?_
      refine V_dup G eX12_term_34 rfl ?_
      refine V_get (v := .int (mI μ 1303 0 0)) G fgX12_185 rfl eX12_term_35 ?_
      refine V_iconst (n := 1) (v := (nI 1)) G eX12_term_38 rfl ?_
      refine V_iadd G eX12_term_39 ?_
      refine V_put G fgX12_185 fp_12_3 eX12_term_40 h (fun μ2 h => ?_)
      refine V_aload_n (i := 0) G eX12_term_43 rfl rfl ?_
      obtain ⟨μ3, h1, h⟩ := bdS h
      refine V_callV (As := []) (st := []) G lkX12_266 (ih_M_atom h1) (by omega) rfl rfl (Nat.le_of_ble_eq_true rfl) eX12_term_44 ?_
      refine V_aload_n (i := 0) G eX12_term_47 rfl rfl ?_
      refine V_iload_n (i := 1) G eX12_term_48 rfl rfl ?_
      refine V_bipush (n := 42) (v := (nI 42)) G eX12_term_49 rfl ?_
      obtain ⟨x4, hj, h⟩ := bdS h
      have J : Vj p l e R s m args below meth c w 2 0 0 Q 59 [some (.ref (wad w 12 0)), none] [.int x4, .ref (wad w 12 0)] μ3 := by
        clear hj
        refine V_iconst (n := 0) (v := (nI 0)) G eX12_term_59 rfl ?_
        obtain ⟨μ5, h1, h⟩ := bdS h
        refine V_callV (As := [.int x4, .int (nI 0)]) (st := []) G lkX12_250 (M_put_ok h1) (by omega) rfl rfl (Nat.le_of_ble_eq_true rfl) eX12_term_60 ?_
        refine V_aload_n (i := 0) G eX12_term_63 rfl rfl ?_
        refine V_get (v := .int (mI μ5 1304 0 0)) G fgX12_192 rfl eX12_term_64 ?_
        refine V_iconst (n := -1) (v := (-1)) G eX12_term_67 rfl ?_
        obtain ⟨⟨x8, μ9⟩, hj, h⟩ := bdS h
        have J : Vj p l e R s m args below meth c w 2 0 0 Q 79 [some (.ref (wad w 12 0)), none] [.int x8] μ9 := by
          clear hj
          refine V_istoreA_n (i := 1) (L' := [some (.ref (wad w 12 0)), some (.int x8)]) G rfl eX12_term_79 (by decide) rfl rfl ?_
          refine V_goto G eX12_term_80 ?_
          exact (ih h K)
        replace h := hj
        clear hj
        refine V_icmp_ne G eX12_term_68 h (fun h => ?_) (fun h => ?_)
        · refine V_iconst (n := -1) (v := (-1)) G eX12_term_78 rfl ?_
          cases h; exact J
        · refine V_aload_n (i := 0) G eX12_term_71 rfl rfl ?_
          obtain ⟨⟨x6, μ7⟩, h1, h⟩ := bdS h
          refine V_callI (As := []) (st := []) G lkX12_218 (M_look_ok h1) (by omega) rfl rfl (Nat.le_of_ble_eq_true rfl) eX12_term_72 ?_
          refine V_goto G eX12_term_75 ?_
          cases h; exact J
      replace h := hj
      clear hj
      refine V_icmp_ne G eX12_term_51 h (fun h => ?_) (fun h => ?_)
      · refine V_iconst (n := 5) (v := (nI 5)) G eX12_term_58 rfl ?_
        cases h; exact V_sub (lS_s (lS_n lS_0)) J
      · refine V_iconst (n := 4) (v := (nI 4)) G eX12_term_54 rfl ?_
        refine V_goto G eX12_term_55 ?_
        cases h; exact V_sub (lS_s (lS_n lS_0)) J
    refine V_icmp_eq G eX12_term_24 h (fun h => ?_) (fun h => ?_)
    · exact (Jk1 h)
    · refine V_iload_n (i := 1) G eX12_term_27 rfl rfl ?_
      refine V_bipush (n := 47) (v := (nI 47)) G eX12_term_28 rfl ?_
      refine V_icmp_ne G eX12_term_30 h (fun h => ?_) (fun h => ?_)
      · cases h; exact V_sub (lS_n (lS_n lS_0)) K
      · exact (Jk1 h)
set_option maxRecDepth 100000 in
set_option maxHeartbeats 4000000 in
theorem M_term_l2_ok {p : Program} {l : Launch} {e : Env} {R : Room} {s : State} {m : MethodId} {args : Array Value} {below : List Frame} {meth : Method} {c : Code} {w : Wld} {Q : State → Prop} {lv : Nat} (hlv : 3 ≤ lv) (G : Cxt p R s m args meth c w cX12_term 2 "PotBookModel" (lv + 1) 0 0) {r_M_atom : Mem → Option Mem} (ih_M_atom : ∀ {μ : Mem} {μ' : Mem}, r_M_atom μ = some μ' → CtV l w yX12_atom cX12_atom 4 lv [.ref (wad w 12 0)] μ μ') {μo : Mem} : ∀ {n : Nat} {v1 : Int32} {μ : Mem}, M_term_l2 r_M_atom n v1 μ = some μo → Vj p l e R s m args below meth c w 2 0 0 Q 83 [none, none] [] μo → Vj p l e R s m args below meth c w 2 0 0 Q 21 [some (.ref (wad w 12 0)), some (.int v1)] [] μ := by
  intro n
  induction n with
  | zero => intro v1 μ h K; exact noS h
  | succ n ih =>
    intro v1 μ h K
    replace h : M_term_l2b r_M_atom (M_term_l2 r_M_atom n) v1 μ = some μo := h
    unfold M_term_l2b at h
    refine V_iload_n (i := 1) G eX12_term_21 rfl rfl ?_
    refine V_bipush (n := 42) (v := (nI 42)) G eX12_term_22 rfl ?_
    obtain ⟨k1, hkk1, h⟩ := kE h
    have Jk1 :  k1 () = some μo → Vj p l e R s m args below meth c w 2 0 0 Q 33 [some (.ref (wad w 12 0)), some (.int v1)] [] μ := by
      clear h
      intro h
      rw [hkk1] at h
      clear hkk1
      refine V_aload_n (i := 0) G eX12_term_33 rfl rfl ?_
      refine V_dup G eX12_term_34 rfl ?_
      refine V_get (v := .int (mI μ 1303 0 0)) G fgX12_185 rfl eX12_term_35 ?_
      refine V_iconst (n := 1) (v := (nI 1)) G eX12_term_38 rfl ?_
      refine V_iadd G eX12_term_39 ?_
      refine V_put G fgX12_185 fp_12_3 eX12_term_40 h (fun μ2 h => ?_)
      refine V_aload_n (i := 0) G eX12_term_43 rfl rfl ?_
      obtain ⟨μ3, h1, h⟩ := bdS h
      refine V_callV (As := []) (st := []) G lkX12_266 (ih_M_atom h1) (by omega) rfl rfl (Nat.le_of_ble_eq_true rfl) eX12_term_44 ?_
      refine V_aload_n (i := 0) G eX12_term_47 rfl rfl ?_
      refine V_iload_n (i := 1) G eX12_term_48 rfl rfl ?_
      refine V_bipush (n := 42) (v := (nI 42)) G eX12_term_49 rfl ?_
      obtain ⟨x4, hj, h⟩ := bdS h
      have J : Vj p l e R s m args below meth c w 2 0 0 Q 59 [some (.ref (wad w 12 0)), none] [.int x4, .ref (wad w 12 0)] μ3 := by
        clear hj
        refine V_iconst (n := 0) (v := (nI 0)) G eX12_term_59 rfl ?_
        obtain ⟨μ5, h1, h⟩ := bdS h
        refine V_callV (As := [.int x4, .int (nI 0)]) (st := []) G lkX12_250 (M_put_ok h1) (by omega) rfl rfl (Nat.le_of_ble_eq_true rfl) eX12_term_60 ?_
        refine V_aload_n (i := 0) G eX12_term_63 rfl rfl ?_
        refine V_get (v := .int (mI μ5 1304 0 0)) G fgX12_192 rfl eX12_term_64 ?_
        refine V_iconst (n := -1) (v := (-1)) G eX12_term_67 rfl ?_
        obtain ⟨⟨x8, μ9⟩, hj, h⟩ := bdS h
        have J : Vj p l e R s m args below meth c w 2 0 0 Q 79 [some (.ref (wad w 12 0)), none] [.int x8] μ9 := by
          clear hj
          refine V_istoreA_n (i := 1) (L' := [some (.ref (wad w 12 0)), some (.int x8)]) G rfl eX12_term_79 (by decide) rfl rfl ?_
          refine V_goto G eX12_term_80 ?_
          exact (ih h K)
        replace h := hj
        clear hj
        refine V_icmp_ne G eX12_term_68 h (fun h => ?_) (fun h => ?_)
        · refine V_iconst (n := -1) (v := (-1)) G eX12_term_78 rfl ?_
          cases h; exact J
        · refine V_aload_n (i := 0) G eX12_term_71 rfl rfl ?_
          obtain ⟨⟨x6, μ7⟩, h1, h⟩ := bdS h
          refine V_callI (As := []) (st := []) G lkX12_218 (M_look_ok h1) (by omega) rfl rfl (Nat.le_of_ble_eq_true rfl) eX12_term_72 ?_
          refine V_goto G eX12_term_75 ?_
          cases h; exact J
      replace h := hj
      clear hj
      refine V_icmp_ne G eX12_term_51 h (fun h => ?_) (fun h => ?_)
      · refine V_iconst (n := 5) (v := (nI 5)) G eX12_term_58 rfl ?_
        cases h; exact V_sub (lS_s (lS_n lS_0)) J
      · refine V_iconst (n := 4) (v := (nI 4)) G eX12_term_54 rfl ?_
        refine V_goto G eX12_term_55 ?_
        cases h; exact V_sub (lS_s (lS_n lS_0)) J
    refine V_icmp_eq G eX12_term_24 h (fun h => ?_) (fun h => ?_)
    · exact (Jk1 h)
    · refine V_iload_n (i := 1) G eX12_term_27 rfl rfl ?_
      refine V_bipush (n := 47) (v := (nI 47)) G eX12_term_28 rfl ?_
      refine V_icmp_ne G eX12_term_30 h (fun h => ?_) (fun h => ?_)
      · cases h; exact V_sub (lS_n (lS_n lS_0)) K
      · exact (Jk1 h)
set_option maxRecDepth 100000 in
set_option maxHeartbeats 4000000 in
theorem M_term_B_run {p : Program} {l : Launch} {e : Env} {R : Room} {s : State} {m : MethodId} {args : Array Value} {below : List Frame} {meth : Method} {c : Code} {w : Wld} {lv : Nat} (hlv : 3 ≤ lv) (G : Cxt p R s m args meth c w cX12_term 2 "PotBookModel" (lv + 1) 0 0) (hr : meth.sig.returnType = none) {r_M_atom : Mem → Option Mem} (ih_M_atom : ∀ {μ : Mem} {μ' : Mem}, r_M_atom μ = some μ' → CtV l w yX12_atom cX12_atom 4 lv [.ref (wad w 12 0)] μ μ') {μ : Mem} {μ' : Mem} (h : M_term_B r_M_atom μ = some μ') : Vj p l e R s m args below meth c w 2 0 0 (MQ below (QV w μ') args s 0 0 w.2.2.2) 0 [some (.ref (wad w 12 0)), none] [] μ := by
  unfold M_term_B at h
  refine V_aload_n (i := 0) G eX12_term_0 rfl rfl ?_
  obtain ⟨μ1, h1, h⟩ := bdS h
  refine V_callV (As := []) (st := []) G lkX12_266 (ih_M_atom h1) (by omega) rfl rfl (Nat.le_of_ble_eq_true rfl) eX12_term_1 ?_
  refine V_aload_n (i := 0) G eX12_term_4 rfl rfl ?_
  refine V_get (v := .int (mI μ1 1304 0 0)) G fgX12_192 rfl eX12_term_5 ?_
  refine V_iconst (n := -1) (v := (-1)) G eX12_term_8 rfl ?_
  refine V_icmp_ne G eX12_term_9 h (fun h => ?_) (fun h => ?_)
  · refine V_iconst (n := -1) (v := (-1)) G eX12_term_19 rfl ?_
    refine V_istoreA_n (i := 1) (L' := [some (.ref (wad w 12 0)), some (.int (-1))]) G rfl eX12_term_20 (by decide) rfl rfl ?_
    obtain ⟨μ2, h1, h⟩ := bdS h
    refine M_term_l1_ok hlv G ih_M_atom h1 ?_
    exact V_rvM G hr eX12_term_83 h
  · refine V_aload_n (i := 0) G eX12_term_12 rfl rfl ?_
    obtain ⟨⟨x3, μ4⟩, h1, h⟩ := bdS h
    refine V_callI (As := []) (st := []) G lkX12_218 (M_look_ok h1) (by omega) rfl rfl (Nat.le_of_ble_eq_true rfl) eX12_term_13 ?_
    refine V_goto G eX12_term_16 ?_
    refine V_istoreA_n (i := 1) (L' := [some (.ref (wad w 12 0)), some (.int x3)]) G rfl eX12_term_20 (by decide) rfl rfl ?_
    obtain ⟨μ5, h1, h⟩ := bdS h
    refine M_term_l2_ok hlv G ih_M_atom h1 ?_
    exact V_rvM G hr eX12_term_83 h
set_option maxRecDepth 100000 in
set_option maxHeartbeats 4000000 in
theorem M_sum_l1_ok {p : Program} {l : Launch} {e : Env} {R : Room} {s : State} {m : MethodId} {args : Array Value} {below : List Frame} {meth : Method} {c : Code} {w : Wld} {Q : State → Prop} {lv : Nat} (hlv : 3 ≤ lv) (G : Cxt p R s m args meth c w cX12_sum 2 "PotBookModel" (lv + 1) 0 0) {r_M_term : Mem → Option Mem} (ih_M_term : ∀ {μ : Mem} {μ' : Mem}, r_M_term μ = some μ' → CtV l w yX12_term cX12_term 2 lv [.ref (wad w 12 0)] μ μ') {μo : Mem} : ∀ {n : Nat} {v1 : Int32} {μ : Mem}, M_sum_l1 r_M_term n v1 μ = some μo → Vj p l e R s m args below meth c w 2 0 0 Q 83 [none, none] [] μo → Vj p l e R s m args below meth c w 2 0 0 Q 21 [some (.ref (wad w 12 0)), some (.int v1)] [] μ := by
  intro n
  induction n with
  | zero => intro v1 μ h K; exact noS h
  | succ n ih =>
    intro v1 μ h K
    replace h : M_sum_l1b r_M_term (M_sum_l1 r_M_term n) v1 μ = some μo := h
    unfold M_sum_l1b at h
    refine V_iload_n (i := 1) G eX12_sum_21 rfl rfl ?_
    refine V_bipush (n := 43) (v := (nI 43)) G eX12_sum_22 rfl ?_
    obtain ⟨k1, hkk1, h⟩ := kE h
    have Jk1 :  k1 () = some μo → Vj p l e R s m args below meth c w 2 0 0 Q 33 [some (.ref (wad w 12 0)), some (.int v1)] [] μ := by
      clear h
      intro h
      rw [hkk1] at h
      clear hkk1
      refine V_aload_n (i := 0) G eX12_sum_33 rfl rfl ?_
      refine V_dup G eX12_sum_34 rfl ?_
      refine V_get (v := .int (mI μ 1303 0 0)) G fgX12_185 rfl eX12_sum_35 ?_
      refine V_iconst (n := 1) (v := (nI 1)) G eX12_sum_38 rfl ?_
      refine V_iadd G eX12_sum_39 ?_
      refine V_put G fgX12_185 fp_12_3 eX12_sum_40 h (fun μ2 h => ?_)
      refine V_aload_n (i := 0) G eX12_sum_43 rfl rfl ?_
      obtain ⟨μ3, h1, h⟩ := bdS h
      refine V_callV (As := []) (st := []) G lkX12_269 (ih_M_term h1) (by omega) rfl rfl (Nat.le_of_ble_eq_true rfl) eX12_sum_44 ?_
      refine V_aload_n (i := 0) G eX12_sum_47 rfl rfl ?_
      refine V_iload_n (i := 1) G eX12_sum_48 rfl rfl ?_
      refine V_bipush (n := 43) (v := (nI 43)) G eX12_sum_49 rfl ?_
      obtain ⟨x4, hj, h⟩ := bdS h
      have J : Vj p l e R s m args below meth c w 2 0 0 Q 59 [some (.ref (wad w 12 0)), none] [.int x4, .ref (wad w 12 0)] μ3 := by
        clear hj
        refine V_iconst (n := 0) (v := (nI 0)) G eX12_sum_59 rfl ?_
        obtain ⟨μ5, h1, h⟩ := bdS h
        refine V_callV (As := [.int x4, .int (nI 0)]) (st := []) G lkX12_250 (M_put_ok h1) (by omega) rfl rfl (Nat.le_of_ble_eq_true rfl) eX12_sum_60 ?_
        refine V_aload_n (i := 0) G eX12_sum_63 rfl rfl ?_
        refine V_get (v := .int (mI μ5 1304 0 0)) G fgX12_192 rfl eX12_sum_64 ?_
        refine V_iconst (n := -1) (v := (-1)) G eX12_sum_67 rfl ?_
        obtain ⟨⟨x8, μ9⟩, hj, h⟩ := bdS h
        have J : Vj p l e R s m args below meth c w 2 0 0 Q 79 [some (.ref (wad w 12 0)), none] [.int x8] μ9 := by
          clear hj
          refine V_istoreA_n (i := 1) (L' := [some (.ref (wad w 12 0)), some (.int x8)]) G rfl eX12_sum_79 (by decide) rfl rfl ?_
          refine V_goto G eX12_sum_80 ?_
          exact (ih h K)
        replace h := hj
        clear hj
        refine V_icmp_ne G eX12_sum_68 h (fun h => ?_) (fun h => ?_)
        · refine V_iconst (n := -1) (v := (-1)) G eX12_sum_78 rfl ?_
          cases h; exact J
        · refine V_aload_n (i := 0) G eX12_sum_71 rfl rfl ?_
          obtain ⟨⟨x6, μ7⟩, h1, h⟩ := bdS h
          refine V_callI (As := []) (st := []) G lkX12_218 (M_look_ok h1) (by omega) rfl rfl (Nat.le_of_ble_eq_true rfl) eX12_sum_72 ?_
          refine V_goto G eX12_sum_75 ?_
          cases h; exact J
      replace h := hj
      clear hj
      refine V_icmp_ne G eX12_sum_51 h (fun h => ?_) (fun h => ?_)
      · refine V_iconst (n := 3) (v := (nI 3)) G eX12_sum_58 rfl ?_
        cases h; exact V_sub (lS_s (lS_n lS_0)) J
      · refine V_iconst (n := 2) (v := (nI 2)) G eX12_sum_54 rfl ?_
        refine V_goto G eX12_sum_55 ?_
        cases h; exact V_sub (lS_s (lS_n lS_0)) J
    refine V_icmp_eq G eX12_sum_24 h (fun h => ?_) (fun h => ?_)
    · exact (Jk1 h)
    · refine V_iload_n (i := 1) G eX12_sum_27 rfl rfl ?_
      refine V_bipush (n := 45) (v := (nI 45)) G eX12_sum_28 rfl ?_
      refine V_icmp_ne G eX12_sum_30 h (fun h => ?_) (fun h => ?_)
      · cases h; exact V_sub (lS_n (lS_n lS_0)) K
      · exact (Jk1 h)
set_option maxRecDepth 100000 in
set_option maxHeartbeats 4000000 in
theorem M_sum_l2_ok {p : Program} {l : Launch} {e : Env} {R : Room} {s : State} {m : MethodId} {args : Array Value} {below : List Frame} {meth : Method} {c : Code} {w : Wld} {Q : State → Prop} {lv : Nat} (hlv : 3 ≤ lv) (G : Cxt p R s m args meth c w cX12_sum 2 "PotBookModel" (lv + 1) 0 0) {r_M_term : Mem → Option Mem} (ih_M_term : ∀ {μ : Mem} {μ' : Mem}, r_M_term μ = some μ' → CtV l w yX12_term cX12_term 2 lv [.ref (wad w 12 0)] μ μ') {μo : Mem} : ∀ {n : Nat} {v1 : Int32} {μ : Mem}, M_sum_l2 r_M_term n v1 μ = some μo → Vj p l e R s m args below meth c w 2 0 0 Q 83 [none, none] [] μo → Vj p l e R s m args below meth c w 2 0 0 Q 21 [some (.ref (wad w 12 0)), some (.int v1)] [] μ := by
  intro n
  induction n with
  | zero => intro v1 μ h K; exact noS h
  | succ n ih =>
    intro v1 μ h K
    replace h : M_sum_l2b r_M_term (M_sum_l2 r_M_term n) v1 μ = some μo := h
    unfold M_sum_l2b at h
    refine V_iload_n (i := 1) G eX12_sum_21 rfl rfl ?_
    refine V_bipush (n := 43) (v := (nI 43)) G eX12_sum_22 rfl ?_
    obtain ⟨k1, hkk1, h⟩ := kE h
    have Jk1 :  k1 () = some μo → Vj p l e R s m args below meth c w 2 0 0 Q 33 [some (.ref (wad w 12 0)), some (.int v1)] [] μ := by
      clear h
      intro h
      rw [hkk1] at h
      clear hkk1
      refine V_aload_n (i := 0) G eX12_sum_33 rfl rfl ?_
      refine V_dup G eX12_sum_34 rfl ?_
      refine V_get (v := .int (mI μ 1303 0 0)) G fgX12_185 rfl eX12_sum_35 ?_
      refine V_iconst (n := 1) (v := (nI 1)) G eX12_sum_38 rfl ?_
      refine V_iadd G eX12_sum_39 ?_
      refine V_put G fgX12_185 fp_12_3 eX12_sum_40 h (fun μ2 h => ?_)
      refine V_aload_n (i := 0) G eX12_sum_43 rfl rfl ?_
      obtain ⟨μ3, h1, h⟩ := bdS h
      refine V_callV (As := []) (st := []) G lkX12_269 (ih_M_term h1) (by omega) rfl rfl (Nat.le_of_ble_eq_true rfl) eX12_sum_44 ?_
      refine V_aload_n (i := 0) G eX12_sum_47 rfl rfl ?_
      refine V_iload_n (i := 1) G eX12_sum_48 rfl rfl ?_
      refine V_bipush (n := 43) (v := (nI 43)) G eX12_sum_49 rfl ?_
      obtain ⟨x4, hj, h⟩ := bdS h
      have J : Vj p l e R s m args below meth c w 2 0 0 Q 59 [some (.ref (wad w 12 0)), none] [.int x4, .ref (wad w 12 0)] μ3 := by
        clear hj
        refine V_iconst (n := 0) (v := (nI 0)) G eX12_sum_59 rfl ?_
        obtain ⟨μ5, h1, h⟩ := bdS h
        refine V_callV (As := [.int x4, .int (nI 0)]) (st := []) G lkX12_250 (M_put_ok h1) (by omega) rfl rfl (Nat.le_of_ble_eq_true rfl) eX12_sum_60 ?_
        refine V_aload_n (i := 0) G eX12_sum_63 rfl rfl ?_
        refine V_get (v := .int (mI μ5 1304 0 0)) G fgX12_192 rfl eX12_sum_64 ?_
        refine V_iconst (n := -1) (v := (-1)) G eX12_sum_67 rfl ?_
        obtain ⟨⟨x8, μ9⟩, hj, h⟩ := bdS h
        have J : Vj p l e R s m args below meth c w 2 0 0 Q 79 [some (.ref (wad w 12 0)), none] [.int x8] μ9 := by
          clear hj
          refine V_istoreA_n (i := 1) (L' := [some (.ref (wad w 12 0)), some (.int x8)]) G rfl eX12_sum_79 (by decide) rfl rfl ?_
          refine V_goto G eX12_sum_80 ?_
          exact (ih h K)
        replace h := hj
        clear hj
        refine V_icmp_ne G eX12_sum_68 h (fun h => ?_) (fun h => ?_)
        · refine V_iconst (n := -1) (v := (-1)) G eX12_sum_78 rfl ?_
          cases h; exact J
        · refine V_aload_n (i := 0) G eX12_sum_71 rfl rfl ?_
          obtain ⟨⟨x6, μ7⟩, h1, h⟩ := bdS h
          refine V_callI (As := []) (st := []) G lkX12_218 (M_look_ok h1) (by omega) rfl rfl (Nat.le_of_ble_eq_true rfl) eX12_sum_72 ?_
          refine V_goto G eX12_sum_75 ?_
          cases h; exact J
      replace h := hj
      clear hj
      refine V_icmp_ne G eX12_sum_51 h (fun h => ?_) (fun h => ?_)
      · refine V_iconst (n := 3) (v := (nI 3)) G eX12_sum_58 rfl ?_
        cases h; exact V_sub (lS_s (lS_n lS_0)) J
      · refine V_iconst (n := 2) (v := (nI 2)) G eX12_sum_54 rfl ?_
        refine V_goto G eX12_sum_55 ?_
        cases h; exact V_sub (lS_s (lS_n lS_0)) J
    refine V_icmp_eq G eX12_sum_24 h (fun h => ?_) (fun h => ?_)
    · exact (Jk1 h)
    · refine V_iload_n (i := 1) G eX12_sum_27 rfl rfl ?_
      refine V_bipush (n := 45) (v := (nI 45)) G eX12_sum_28 rfl ?_
      refine V_icmp_ne G eX12_sum_30 h (fun h => ?_) (fun h => ?_)
      · cases h; exact V_sub (lS_n (lS_n lS_0)) K
      · exact (Jk1 h)
set_option maxRecDepth 100000 in
set_option maxHeartbeats 4000000 in
theorem M_sum_B_run {p : Program} {l : Launch} {e : Env} {R : Room} {s : State} {m : MethodId} {args : Array Value} {below : List Frame} {meth : Method} {c : Code} {w : Wld} {lv : Nat} (hlv : 3 ≤ lv) (G : Cxt p R s m args meth c w cX12_sum 2 "PotBookModel" (lv + 1) 0 0) (hr : meth.sig.returnType = none) {r_M_term : Mem → Option Mem} (ih_M_term : ∀ {μ : Mem} {μ' : Mem}, r_M_term μ = some μ' → CtV l w yX12_term cX12_term 2 lv [.ref (wad w 12 0)] μ μ') {μ : Mem} {μ' : Mem} (h : M_sum_B r_M_term μ = some μ') : Vj p l e R s m args below meth c w 2 0 0 (MQ below (QV w μ') args s 0 0 w.2.2.2) 0 [some (.ref (wad w 12 0)), none] [] μ := by
  unfold M_sum_B at h
  refine V_aload_n (i := 0) G eX12_sum_0 rfl rfl ?_
  obtain ⟨μ1, h1, h⟩ := bdS h
  refine V_callV (As := []) (st := []) G lkX12_269 (ih_M_term h1) (by omega) rfl rfl (Nat.le_of_ble_eq_true rfl) eX12_sum_1 ?_
  refine V_aload_n (i := 0) G eX12_sum_4 rfl rfl ?_
  refine V_get (v := .int (mI μ1 1304 0 0)) G fgX12_192 rfl eX12_sum_5 ?_
  refine V_iconst (n := -1) (v := (-1)) G eX12_sum_8 rfl ?_
  refine V_icmp_ne G eX12_sum_9 h (fun h => ?_) (fun h => ?_)
  · refine V_iconst (n := -1) (v := (-1)) G eX12_sum_19 rfl ?_
    refine V_istoreA_n (i := 1) (L' := [some (.ref (wad w 12 0)), some (.int (-1))]) G rfl eX12_sum_20 (by decide) rfl rfl ?_
    obtain ⟨μ2, h1, h⟩ := bdS h
    refine M_sum_l1_ok hlv G ih_M_term h1 ?_
    exact V_rvM G hr eX12_sum_83 h
  · refine V_aload_n (i := 0) G eX12_sum_12 rfl rfl ?_
    obtain ⟨⟨x3, μ4⟩, h1, h⟩ := bdS h
    refine V_callI (As := []) (st := []) G lkX12_218 (M_look_ok h1) (by omega) rfl rfl (Nat.le_of_ble_eq_true rfl) eX12_sum_13 ?_
    refine V_goto G eX12_sum_16 ?_
    refine V_istoreA_n (i := 1) (L' := [some (.ref (wad w 12 0)), some (.int x3)]) G rfl eX12_sum_20 (by decide) rfl rfl ?_
    obtain ⟨μ5, h1, h⟩ := bdS h
    refine M_sum_l2_ok hlv G ih_M_term h1 ?_
    exact V_rvM G hr eX12_sum_83 h
set_option maxRecDepth 100000 in
set_option maxHeartbeats 4000000 in
theorem G_M_atom_ok {l : Launch} {w : Wld} : ∀ n : Nat, (∀ {μ : Mem} {μ' : Mem}, M_atom n μ = some μ' → CtV l w yX12_atom cX12_atom 4 (3 + n) [.ref (wad w 12 0)] μ μ') ∧ (∀ {μ : Mem} {μ' : Mem}, M_term n μ = some μ' → CtV l w yX12_term cX12_term 2 (3 + n) [.ref (wad w 12 0)] μ μ') ∧ (∀ {μ : Mem} {μ' : Mem}, M_sum n μ = some μ' → CtV l w yX12_sum cX12_sum 2 (3 + n) [.ref (wad w 12 0)] μ μ') := by
  intro n
  induction n with
  | zero => exact ⟨fun h => noS h, fun h => noS h, fun h => noS h⟩
  | succ n ih =>
    obtain ⟨ih_M_atom, ih_M_term, ih_M_sum⟩ := ih
    refine ⟨?_, ?_, ?_⟩
    · intro μ μ' h
      rw [M_atom_s] at h
      exact Ct_of (own := "PotBookModel") [some (.ref (wad w 12 0)), none, none, none] (by decide +kernel) rfl rfl (Nat.le_of_ble_eq_true rfl) fun p e s m args below meth c G hr => M_atom_B_run (lv := 3 + n) (by omega) G hr ih_M_sum h
    · intro μ μ' h
      rw [M_term_s] at h
      exact Ct_of (own := "PotBookModel") [some (.ref (wad w 12 0)), none] (by decide +kernel) rfl rfl (Nat.le_of_ble_eq_true rfl) fun p e s m args below meth c G hr => M_term_B_run (lv := 3 + n) (by omega) G hr ih_M_atom h
    · intro μ μ' h
      rw [M_sum_s] at h
      exact Ct_of (own := "PotBookModel") [some (.ref (wad w 12 0)), none] (by decide +kernel) rfl rfl (Nat.le_of_ble_eq_true rfl) fun p e s m args below meth c G hr => M_sum_B_run (lv := 3 + n) (by omega) G hr ih_M_term h

theorem M_atom_ok {l : Launch} {w : Wld} {μ : Mem} {μ' : Mem} (h : M_atom RF μ = some μ') : CtV l w yX12_atom cX12_atom 4 (3 + RF) [.ref (wad w 12 0)] μ μ' := (G_M_atom_ok RF).1 h
theorem M_term_ok {l : Launch} {w : Wld} {μ : Mem} {μ' : Mem} (h : M_term RF μ = some μ') : CtV l w yX12_term cX12_term 2 (3 + RF) [.ref (wad w 12 0)] μ μ' := (G_M_atom_ok RF).2.1 h
theorem M_sum_ok {l : Launch} {w : Wld} {μ : Mem} {μ' : Mem} (h : M_sum RF μ = some μ') : CtV l w yX12_sum cX12_sum 2 (3 + RF) [.ref (wad w 12 0)] μ μ' := (G_M_atom_ok RF).2.2 h
set_option maxRecDepth 100000 in
set_option maxHeartbeats 4000000 in
theorem M_isSign_run {p : Program} {l : Launch} {e : Env} {R : Room} {s : State} {m : MethodId} {args : Array Value} {below : List Frame} {meth : Method} {c : Code} {w : Wld} (G : Cxt p R s m args meth c w cX12_isSign 1 "PotBookModel" 1 0 0) (hr : meth.sig.returnType = some .boolean) {a1 : Int32} {μ : Mem} {r : Int32} (h : M_isSign a1 = some r) : Vj p l e R s m args below meth c w 1 0 0 (MQ below (QI w r μ) args s 0 0 w.2.2.2) 0 [some (.int a1)] [] μ := by
  unfold M_isSign at h
  refine V_iload_n (i := 0) G eX12_isSign_0 rfl rfl ?_
  refine V_bipush (n := 61) (v := (nI 61)) G eX12_isSign_1 rfl ?_
  refine V_icmp_eq G eX12_isSign_3 h (fun h => ?_) (fun h => ?_)
  · refine V_iconst (n := 1) (v := (nI 1)) G eX12_isSign_18 rfl ?_
    refine V_goto G eX12_isSign_19 ?_
    exact V_rz G hr eX12_isSign_23 h
  · refine V_iload_n (i := 0) G eX12_isSign_6 rfl rfl ?_
    refine V_bipush (n := 60) (v := (nI 60)) G eX12_isSign_7 rfl ?_
    refine V_icmp_eq G eX12_isSign_9 h (fun h => ?_) (fun h => ?_)
    · refine V_iconst (n := 1) (v := (nI 1)) G eX12_isSign_18 rfl ?_
      refine V_goto G eX12_isSign_19 ?_
      exact V_rz G hr eX12_isSign_23 h
    · refine V_iload_n (i := 0) G eX12_isSign_12 rfl rfl ?_
      refine V_bipush (n := 62) (v := (nI 62)) G eX12_isSign_13 rfl ?_
      refine V_icmp_ne G eX12_isSign_15 h (fun h => ?_) (fun h => ?_)
      · refine V_iconst (n := 0) (v := (nI 0)) G eX12_isSign_22 rfl ?_
        exact V_rz G hr eX12_isSign_23 h
      · refine V_iconst (n := 1) (v := (nI 1)) G eX12_isSign_18 rfl ?_
        refine V_goto G eX12_isSign_19 ?_
        exact V_rz G hr eX12_isSign_23 h
theorem M_isSign_ok {l : Launch} {w : Wld} {a1 : Int32} {μ : Mem} {r : Int32} (h : M_isSign a1 = some r) : CtI l w yX12_isSign cX12_isSign 1 .boolean 1 [.int a1] μ r μ :=
  Ct_of (own := "PotBookModel") [some (.int a1)] (by decide +kernel) rfl rfl (Nat.le_of_ble_eq_true rfl) fun p e s m args below meth c G hr => M_isSign_run G hr h
set_option maxRecDepth 100000 in
set_option maxHeartbeats 4000000 in
theorem M_compare_run {p : Program} {l : Launch} {e : Env} {R : Room} {s : State} {m : MethodId} {args : Array Value} {below : List Frame} {meth : Method} {c : Code} {w : Wld} (G : Cxt p R s m args meth c w cX12_compare 2 "PotBookModel" 65 0 0) (hr : meth.sig.returnType = none) {μ : Mem} {μ' : Mem} (h : M_compare μ = some μ') : Vj p l e R s m args below meth c w 2 0 0 (MQ below (QV w μ') args s 0 0 w.2.2.2) 0 [some (.ref (wad w 12 0)), none] [] μ := by
  unfold M_compare at h
  refine V_aload_n (i := 0) G eX12_compare_0 rfl rfl ?_
  refine V_get (v := .int (mI μ 1304 0 0)) G fgX12_192 rfl eX12_compare_1 ?_
  refine V_iconst (n := -1) (v := (-1)) G eX12_compare_4 rfl ?_
  obtain ⟨⟨x3, μ4⟩, hj, h⟩ := bdS h
  have J : Vj p l e R s m args below meth c w 2 0 0 (MQ below (QV w μ') args s 0 0 w.2.2.2) 16 [some (.ref (wad w 12 0)), none] [.int x3] μ4 := by
    clear hj
    refine V_istoreA_n (i := 1) (L' := [some (.ref (wad w 12 0)), some (.int x3)]) G rfl eX12_compare_16 (by decide) rfl rfl ?_
    refine V_iload_n (i := 1) G eX12_compare_17 rfl rfl ?_
    obtain ⟨x5, h1, h⟩ := bdS h
    refine V_callIS (As := [.int x3]) (st := []) G lkX12_272 (M_isSign_ok (μ := μ4) h1) (by decide) rfl rfl (Nat.le_of_ble_eq_true rfl) eX12_compare_18 ?_
    refine V_if_ne G eX12_compare_21 h (fun h => ?_) (fun h => ?_)
    · refine V_aload_n (i := 0) G eX12_compare_29 rfl rfl ?_
      refine V_dup G eX12_compare_30 rfl ?_
      refine V_get (v := .int (mI μ4 1303 0 0)) G fgX12_185 rfl eX12_compare_31 ?_
      refine V_iconst (n := 1) (v := (nI 1)) G eX12_compare_34 rfl ?_
      refine V_iadd G eX12_compare_35 ?_
      refine V_put G fgX12_185 fp_12_3 eX12_compare_36 h (fun μ6 h => ?_)
      refine V_aload_n (i := 0) G eX12_compare_39 rfl rfl ?_
      obtain ⟨μ7, h1, h⟩ := bdS h
      refine V_callV (As := []) (st := []) G lkX12_260 (M_sum_ok h1) (by decide) rfl rfl (Nat.le_of_ble_eq_true rfl) eX12_compare_40 ?_
      refine V_aload_n (i := 0) G eX12_compare_43 rfl rfl ?_
      refine V_iload_n (i := 1) G eX12_compare_44 rfl rfl ?_
      refine V_bipush (n := 61) (v := (nI 61)) G eX12_compare_45 rfl ?_
      refine V_icmp_ne G eX12_compare_47 h (fun h => ?_) (fun h => ?_)
      · refine V_iload_n (i := 1) G eX12_compare_55 rfl rfl ?_
        refine V_bipush (n := 60) (v := (nI 60)) G eX12_compare_56 rfl ?_
        refine V_icmp_ne G eX12_compare_58 h (fun h => ?_) (fun h => ?_)
        · refine V_bipush (n := 8) (v := (nI 8)) G eX12_compare_66 rfl ?_
          refine V_iconst (n := 0) (v := (nI 0)) G eX12_compare_68 rfl ?_
          obtain ⟨μ8, h1, h⟩ := bdS h
          refine V_callV (As := [.int (nI 8), .int (nI 0)]) (st := []) G lkX12_250 (M_put_ok h1) (by decide) rfl rfl (Nat.le_of_ble_eq_true rfl) eX12_compare_69 ?_
          exact V_rvM G hr eX12_compare_72 h
        · refine V_bipush (n := 7) (v := (nI 7)) G eX12_compare_61 rfl ?_
          refine V_goto G eX12_compare_63 ?_
          refine V_iconst (n := 0) (v := (nI 0)) G eX12_compare_68 rfl ?_
          obtain ⟨μ9, h1, h⟩ := bdS h
          refine V_callV (As := [.int (nI 7), .int (nI 0)]) (st := []) G lkX12_250 (M_put_ok h1) (by decide) rfl rfl (Nat.le_of_ble_eq_true rfl) eX12_compare_69 ?_
          exact V_rvM G hr eX12_compare_72 h
      · refine V_bipush (n := 6) (v := (nI 6)) G eX12_compare_50 rfl ?_
        refine V_goto G eX12_compare_52 ?_
        refine V_iconst (n := 0) (v := (nI 0)) G eX12_compare_68 rfl ?_
        obtain ⟨μ10, h1, h⟩ := bdS h
        refine V_callV (As := [.int (nI 6), .int (nI 0)]) (st := []) G lkX12_250 (M_put_ok h1) (by decide) rfl rfl (Nat.le_of_ble_eq_true rfl) eX12_compare_69 ?_
        exact V_rvM G hr eX12_compare_72 h
    · refine V_aload_n (i := 0) G eX12_compare_24 rfl rfl ?_
      obtain ⟨μ11, h1, h⟩ := bdS h
      refine V_callV (As := []) (st := []) G lkX12_224 (M_bad_ok h1) (by decide) rfl rfl (Nat.le_of_ble_eq_true rfl) eX12_compare_25 ?_
      exact V_rvM G hr eX12_compare_28 h
  replace h := hj
  clear hj
  refine V_icmp_ne G eX12_compare_5 h (fun h => ?_) (fun h => ?_)
  · refine V_iconst (n := -1) (v := (-1)) G eX12_compare_15 rfl ?_
    cases h; exact J
  · refine V_aload_n (i := 0) G eX12_compare_8 rfl rfl ?_
    obtain ⟨⟨x1, μ2⟩, h1, h⟩ := bdS h
    refine V_callI (As := []) (st := []) G lkX12_218 (M_look_ok h1) (by decide) rfl rfl (Nat.le_of_ble_eq_true rfl) eX12_compare_9 ?_
    refine V_goto G eX12_compare_12 ?_
    cases h; exact J
theorem M_compare_ok {l : Launch} {w : Wld} {μ : Mem} {μ' : Mem} (h : M_compare μ = some μ') : CtV l w yX12_compare cX12_compare 2 65 [.ref (wad w 12 0)] μ μ' :=
  Ct_of (own := "PotBookModel") [some (.ref (wad w 12 0)), none] (by decide +kernel) rfl rfl (Nat.le_of_ble_eq_true rfl) fun p e s m args below meth c G hr => M_compare_run G hr h
set_option maxRecDepth 100000 in
set_option maxHeartbeats 4000000 in
theorem M_unit_B_run {p : Program} {l : Launch} {e : Env} {R : Room} {s : State} {m : MethodId} {args : Array Value} {below : List Frame} {meth : Method} {c : Code} {w : Wld} {lv : Nat} (hlv : 65 ≤ lv) (G : Cxt p R s m args meth c w cX12_unit 2 "PotBookModel" (lv + 1) 0 0) (hr : meth.sig.returnType = none) {r_M_unit : Mem → Option Mem} {r_M_condition : Mem → Option Mem} (ih_M_unit : ∀ {μ : Mem} {μ' : Mem}, r_M_unit μ = some μ' → CtV l w yX12_unit cX12_unit 2 lv [.ref (wad w 12 0)] μ μ') (ih_M_condition : ∀ {μ : Mem} {μ' : Mem}, r_M_condition μ = some μ' → CtV l w yX12_condition cX12_condition 1 lv [.ref (wad w 12 0)] μ μ') {μ : Mem} {μ' : Mem} (h : M_unit_B r_M_unit r_M_condition μ = some μ') : Vj p l e R s m args below meth c w 2 0 0 (MQ below (QV w μ') args s 0 0 w.2.2.2) 0 [some (.ref (wad w 12 0)), none] [] μ := by
  unfold M_unit_B at h
  refine V_aload_n (i := 0) G eX12_unit_0 rfl rfl ?_
  obtain ⟨⟨x1, μ2⟩, h1, h⟩ := bdS h
  refine V_callI (As := []) (st := []) G lkX12_218 (M_look_ok h1) (by omega) rfl rfl (Nat.le_of_ble_eq_true rfl) eX12_unit_1 ?_
  refine V_istoreA_n (i := 1) (L' := [some (.ref (wad w 12 0)), some (.int x1)]) G rfl eX12_unit_4 (by decide) rfl rfl ?_
  refine V_iload_n (i := 1) G eX12_unit_5 rfl rfl ?_
  refine V_bipush (n := 33) (v := (nI 33)) G eX12_unit_6 rfl ?_
  refine V_icmp_ne G eX12_unit_8 h (fun h => ?_) (fun h => ?_)
  · refine V_iload_n (i := 1) G eX12_unit_47 rfl rfl ?_
    refine V_bipush (n := 40) (v := (nI 40)) G eX12_unit_48 rfl ?_
    refine V_icmp_ne G eX12_unit_50 h (fun h => ?_) (fun h => ?_)
    · refine V_aload_n (i := 0) G eX12_unit_78 rfl rfl ?_
      obtain ⟨μ3, h1, h⟩ := bdS h
      refine V_callV (As := []) (st := []) G lkX12_260 (M_sum_ok h1) (by unfold RF; omega) rfl rfl (Nat.le_of_ble_eq_true rfl) eX12_unit_79 ?_
      refine V_aload_n (i := 0) G eX12_unit_82 rfl rfl ?_
      refine V_get (v := .int (mI μ3 1304 0 0)) G fgX12_192 rfl eX12_unit_83 ?_
      refine V_iconst (n := -1) (v := (-1)) G eX12_unit_86 rfl ?_
      refine V_icmp_ne G eX12_unit_87 h (fun h => ?_) (fun h => ?_)
      · exact V_rvM G hr eX12_unit_94 h
      · refine V_aload_n (i := 0) G eX12_unit_90 rfl rfl ?_
        obtain ⟨μ4, h1, h⟩ := bdS h
        refine V_callV (As := []) (st := []) G lkX12_281 (M_compare_ok h1) (by omega) rfl rfl (Nat.le_of_ble_eq_true rfl) eX12_unit_91 ?_
        exact V_rvM G hr eX12_unit_94 h
    · refine V_aload_n (i := 0) G eX12_unit_53 rfl rfl ?_
      obtain ⟨μ5, h1, h⟩ := bdS h
      refine V_callV (As := []) (st := []) G lkX12_257 (M_opens_ok h1) (by omega) rfl rfl (Nat.le_of_ble_eq_true rfl) eX12_unit_54 ?_
      refine V_aload_n (i := 0) G eX12_unit_57 rfl rfl ?_
      refine V_get (v := .int (mI μ5 1304 0 0)) G fgX12_192 rfl eX12_unit_58 ?_
      refine V_iconst (n := -1) (v := (-1)) G eX12_unit_61 rfl ?_
      refine V_icmp_ne G eX12_unit_62 h (fun h => ?_) (fun h => ?_)
      · exact V_rvM G hr eX12_unit_94 h
      · refine V_aload_n (i := 0) G eX12_unit_65 rfl rfl ?_
        obtain ⟨μ6, h1, h⟩ := bdS h
        refine V_callV (As := []) (st := []) G lkX12_278 (ih_M_condition h1) (by omega) rfl rfl (Nat.le_of_ble_eq_true rfl) eX12_unit_66 ?_
        refine V_aload_n (i := 0) G eX12_unit_69 rfl rfl ?_
        refine V_bipush (n := 41) (v := (nI 41)) G eX12_unit_70 rfl ?_
        obtain ⟨μ7, h1, h⟩ := bdS h
        refine V_callV (As := [.int (nI 41)]) (st := []) G lkX12_263 (M_closes_ok h1) (by omega) rfl rfl (Nat.le_of_ble_eq_true rfl) eX12_unit_72 ?_
        refine V_goto G eX12_unit_75 ?_
        exact V_rvM G hr eX12_unit_94 h
  · refine V_aload_n (i := 0) G eX12_unit_11 rfl rfl ?_
    obtain ⟨μ8, h1, h⟩ := bdS h
    refine V_callV (As := []) (st := []) G lkX12_257 (M_opens_ok h1) (by omega) rfl rfl (Nat.le_of_ble_eq_true rfl) eX12_unit_12 ?_
    refine V_aload_n (i := 0) G eX12_unit_15 rfl rfl ?_
    refine V_get (v := .int (mI μ8 1304 0 0)) G fgX12_192 rfl eX12_unit_16 ?_
    refine V_iconst (n := -1) (v := (-1)) G eX12_unit_19 rfl ?_
    refine V_icmp_ne G eX12_unit_20 h (fun h => ?_) (fun h => ?_)
    · exact V_rvM G hr eX12_unit_94 h
    · refine V_aload_n (i := 0) G eX12_unit_23 rfl rfl ?_
      obtain ⟨μ9, h1, h⟩ := bdS h
      refine V_callV (As := []) (st := []) G lkX12_275 (ih_M_unit h1) (by omega) rfl rfl (Nat.le_of_ble_eq_true rfl) eX12_unit_24 ?_
      refine V_aload_n (i := 0) G eX12_unit_27 rfl rfl ?_
      refine V_bipush (n := 9) (v := (nI 9)) G eX12_unit_28 rfl ?_
      refine V_iconst (n := 0) (v := (nI 0)) G eX12_unit_30 rfl ?_
      obtain ⟨μ10, h1, h⟩ := bdS h
      refine V_callV (As := [.int (nI 9), .int (nI 0)]) (st := []) G lkX12_250 (M_put_ok h1) (by omega) rfl rfl (Nat.le_of_ble_eq_true rfl) eX12_unit_31 ?_
      refine V_aload_n (i := 0) G eX12_unit_34 rfl rfl ?_
      refine V_dup G eX12_unit_35 rfl ?_
      refine V_get (v := .int (mI μ10 1305 0 0)) G fgX12_247 rfl eX12_unit_36 ?_
      refine V_iconst (n := 1) (v := (nI 1)) G eX12_unit_39 rfl ?_
      refine V_isub G eX12_unit_40 ?_
      refine V_put G fgX12_247 fp_12_5 eX12_unit_41 h (fun μ11 h => ?_)
      refine V_goto G eX12_unit_44 ?_
      exact V_rvM G hr eX12_unit_94 h
set_option maxRecDepth 100000 in
set_option maxHeartbeats 4000000 in
theorem M_truth_l1_ok {p : Program} {l : Launch} {e : Env} {R : Room} {s : State} {m : MethodId} {args : Array Value} {below : List Frame} {meth : Method} {c : Code} {w : Wld} {Q : State → Prop} {lv : Nat} (hlv : 65 ≤ lv) (G : Cxt p R s m args meth c w cX12_truth 1 "PotBookModel" (lv + 1) 0 0) {r_M_unit : Mem → Option Mem} (ih_M_unit : ∀ {μ : Mem} {μ' : Mem}, r_M_unit μ = some μ' → CtV l w yX12_unit cX12_unit 2 lv [.ref (wad w 12 0)] μ μ') {μo : Mem} : ∀ {n : Nat} {μ : Mem}, M_truth_l1 r_M_unit n μ = some μo → Vj p l e R s m args below meth c w 1 0 0 Q 45 [none] [] μo → Vj p l e R s m args below meth c w 1 0 0 Q 4 [some (.ref (wad w 12 0))] [] μ := by
  intro n
  induction n with
  | zero => intro μ h K; exact noS h
  | succ n ih =>
    intro μ h K
    replace h : M_truth_l1b r_M_unit (M_truth_l1 r_M_unit n) μ = some μo := h
    unfold M_truth_l1b at h
    refine V_aload_n (i := 0) G eX12_truth_4 rfl rfl ?_
    refine V_get (v := .int (mI μ 1304 0 0)) G fgX12_192 rfl eX12_truth_5 ?_
    refine V_iconst (n := -1) (v := (-1)) G eX12_truth_8 rfl ?_
    refine V_icmp_ne G eX12_truth_9 h (fun h => ?_) (fun h => ?_)
    · cases h; exact V_sub (lS_n lS_0) K
    · refine V_aload_n (i := 0) G eX12_truth_12 rfl rfl ?_
      obtain ⟨⟨x1, μ2⟩, h1, h⟩ := bdS h
      refine V_callI (As := []) (st := []) G lkX12_218 (M_look_ok h1) (by omega) rfl rfl (Nat.le_of_ble_eq_true rfl) eX12_truth_13 ?_
      refine V_bipush (n := 38) (v := (nI 38)) G eX12_truth_16 rfl ?_
      refine V_icmp_ne G eX12_truth_18 h (fun h => ?_) (fun h => ?_)
      · cases h; exact V_sub (lS_n lS_0) K
      · refine V_aload_n (i := 0) G eX12_truth_21 rfl rfl ?_
        refine V_dup G eX12_truth_22 rfl ?_
        refine V_get (v := .int (mI μ2 1303 0 0)) G fgX12_185 rfl eX12_truth_23 ?_
        refine V_iconst (n := 1) (v := (nI 1)) G eX12_truth_26 rfl ?_
        refine V_iadd G eX12_truth_27 ?_
        refine V_put G fgX12_185 fp_12_3 eX12_truth_28 h (fun μ3 h => ?_)
        refine V_aload_n (i := 0) G eX12_truth_31 rfl rfl ?_
        obtain ⟨μ4, h1, h⟩ := bdS h
        refine V_callV (As := []) (st := []) G lkX12_275 (ih_M_unit h1) (by omega) rfl rfl (Nat.le_of_ble_eq_true rfl) eX12_truth_32 ?_
        refine V_aload_n (i := 0) G eX12_truth_35 rfl rfl ?_
        refine V_bipush (n := 10) (v := (nI 10)) G eX12_truth_36 rfl ?_
        refine V_iconst (n := 0) (v := (nI 0)) G eX12_truth_38 rfl ?_
        obtain ⟨μ5, h1, h⟩ := bdS h
        refine V_callV (As := [.int (nI 10), .int (nI 0)]) (st := []) G lkX12_250 (M_put_ok h1) (by omega) rfl rfl (Nat.le_of_ble_eq_true rfl) eX12_truth_39 ?_
        refine V_goto G eX12_truth_42 ?_
        exact (ih h K)
set_option maxRecDepth 100000 in
set_option maxHeartbeats 4000000 in
theorem M_truth_B_run {p : Program} {l : Launch} {e : Env} {R : Room} {s : State} {m : MethodId} {args : Array Value} {below : List Frame} {meth : Method} {c : Code} {w : Wld} {lv : Nat} (hlv : 65 ≤ lv) (G : Cxt p R s m args meth c w cX12_truth 1 "PotBookModel" (lv + 1) 0 0) (hr : meth.sig.returnType = none) {r_M_unit : Mem → Option Mem} (ih_M_unit : ∀ {μ : Mem} {μ' : Mem}, r_M_unit μ = some μ' → CtV l w yX12_unit cX12_unit 2 lv [.ref (wad w 12 0)] μ μ') {μ : Mem} {μ' : Mem} (h : M_truth_B r_M_unit μ = some μ') : Vj p l e R s m args below meth c w 1 0 0 (MQ below (QV w μ') args s 0 0 w.2.2.2) 0 [some (.ref (wad w 12 0))] [] μ := by
  unfold M_truth_B at h
  refine V_aload_n (i := 0) G eX12_truth_0 rfl rfl ?_
  obtain ⟨μ1, h1, h⟩ := bdS h
  refine V_callV (As := []) (st := []) G lkX12_275 (ih_M_unit h1) (by omega) rfl rfl (Nat.le_of_ble_eq_true rfl) eX12_truth_1 ?_
  obtain ⟨μ2, h1, h⟩ := bdS h
  refine M_truth_l1_ok hlv G ih_M_unit h1 ?_
  exact V_rvM G hr eX12_truth_45 h
set_option maxRecDepth 100000 in
set_option maxHeartbeats 4000000 in
theorem M_condition_l1_ok {p : Program} {l : Launch} {e : Env} {R : Room} {s : State} {m : MethodId} {args : Array Value} {below : List Frame} {meth : Method} {c : Code} {w : Wld} {Q : State → Prop} {lv : Nat} (hlv : 65 ≤ lv) (G : Cxt p R s m args meth c w cX12_condition 1 "PotBookModel" (lv + 1) 0 0) {r_M_truth : Mem → Option Mem} (ih_M_truth : ∀ {μ : Mem} {μ' : Mem}, r_M_truth μ = some μ' → CtV l w yX12_truth cX12_truth 1 lv [.ref (wad w 12 0)] μ μ') {μo : Mem} : ∀ {n : Nat} {μ : Mem}, M_condition_l1 r_M_truth n μ = some μo → Vj p l e R s m args below meth c w 1 0 0 Q 45 [none] [] μo → Vj p l e R s m args below meth c w 1 0 0 Q 4 [some (.ref (wad w 12 0))] [] μ := by
  intro n
  induction n with
  | zero => intro μ h K; exact noS h
  | succ n ih =>
    intro μ h K
    replace h : M_condition_l1b r_M_truth (M_condition_l1 r_M_truth n) μ = some μo := h
    unfold M_condition_l1b at h
    refine V_aload_n (i := 0) G eX12_condition_4 rfl rfl ?_
    refine V_get (v := .int (mI μ 1304 0 0)) G fgX12_192 rfl eX12_condition_5 ?_
    refine V_iconst (n := -1) (v := (-1)) G eX12_condition_8 rfl ?_
    refine V_icmp_ne G eX12_condition_9 h (fun h => ?_) (fun h => ?_)
    · cases h; exact V_sub (lS_n lS_0) K
    · refine V_aload_n (i := 0) G eX12_condition_12 rfl rfl ?_
      obtain ⟨⟨x1, μ2⟩, h1, h⟩ := bdS h
      refine V_callI (As := []) (st := []) G lkX12_218 (M_look_ok h1) (by omega) rfl rfl (Nat.le_of_ble_eq_true rfl) eX12_condition_13 ?_
      refine V_bipush (n := 124) (v := (nI 124)) G eX12_condition_16 rfl ?_
      refine V_icmp_ne G eX12_condition_18 h (fun h => ?_) (fun h => ?_)
      · cases h; exact V_sub (lS_n lS_0) K
      · refine V_aload_n (i := 0) G eX12_condition_21 rfl rfl ?_
        refine V_dup G eX12_condition_22 rfl ?_
        refine V_get (v := .int (mI μ2 1303 0 0)) G fgX12_185 rfl eX12_condition_23 ?_
        refine V_iconst (n := 1) (v := (nI 1)) G eX12_condition_26 rfl ?_
        refine V_iadd G eX12_condition_27 ?_
        refine V_put G fgX12_185 fp_12_3 eX12_condition_28 h (fun μ3 h => ?_)
        refine V_aload_n (i := 0) G eX12_condition_31 rfl rfl ?_
        obtain ⟨μ4, h1, h⟩ := bdS h
        refine V_callV (As := []) (st := []) G lkX12_284 (ih_M_truth h1) (by omega) rfl rfl (Nat.le_of_ble_eq_true rfl) eX12_condition_32 ?_
        refine V_aload_n (i := 0) G eX12_condition_35 rfl rfl ?_
        refine V_bipush (n := 11) (v := (nI 11)) G eX12_condition_36 rfl ?_
        refine V_iconst (n := 0) (v := (nI 0)) G eX12_condition_38 rfl ?_
        obtain ⟨μ5, h1, h⟩ := bdS h
        refine V_callV (As := [.int (nI 11), .int (nI 0)]) (st := []) G lkX12_250 (M_put_ok h1) (by omega) rfl rfl (Nat.le_of_ble_eq_true rfl) eX12_condition_39 ?_
        refine V_goto G eX12_condition_42 ?_
        exact (ih h K)
set_option maxRecDepth 100000 in
set_option maxHeartbeats 4000000 in
theorem M_condition_B_run {p : Program} {l : Launch} {e : Env} {R : Room} {s : State} {m : MethodId} {args : Array Value} {below : List Frame} {meth : Method} {c : Code} {w : Wld} {lv : Nat} (hlv : 65 ≤ lv) (G : Cxt p R s m args meth c w cX12_condition 1 "PotBookModel" (lv + 1) 0 0) (hr : meth.sig.returnType = none) {r_M_truth : Mem → Option Mem} (ih_M_truth : ∀ {μ : Mem} {μ' : Mem}, r_M_truth μ = some μ' → CtV l w yX12_truth cX12_truth 1 lv [.ref (wad w 12 0)] μ μ') {μ : Mem} {μ' : Mem} (h : M_condition_B r_M_truth μ = some μ') : Vj p l e R s m args below meth c w 1 0 0 (MQ below (QV w μ') args s 0 0 w.2.2.2) 0 [some (.ref (wad w 12 0))] [] μ := by
  unfold M_condition_B at h
  refine V_aload_n (i := 0) G eX12_condition_0 rfl rfl ?_
  obtain ⟨μ1, h1, h⟩ := bdS h
  refine V_callV (As := []) (st := []) G lkX12_284 (ih_M_truth h1) (by omega) rfl rfl (Nat.le_of_ble_eq_true rfl) eX12_condition_1 ?_
  obtain ⟨μ2, h1, h⟩ := bdS h
  refine M_condition_l1_ok hlv G ih_M_truth h1 ?_
  exact V_rvM G hr eX12_condition_45 h
set_option maxRecDepth 100000 in
set_option maxHeartbeats 4000000 in
theorem G_M_unit_ok {l : Launch} {w : Wld} : ∀ n : Nat, (∀ {μ : Mem} {μ' : Mem}, M_unit n μ = some μ' → CtV l w yX12_unit cX12_unit 2 (65 + n) [.ref (wad w 12 0)] μ μ') ∧ (∀ {μ : Mem} {μ' : Mem}, M_truth n μ = some μ' → CtV l w yX12_truth cX12_truth 1 (65 + n) [.ref (wad w 12 0)] μ μ') ∧ (∀ {μ : Mem} {μ' : Mem}, M_condition n μ = some μ' → CtV l w yX12_condition cX12_condition 1 (65 + n) [.ref (wad w 12 0)] μ μ') := by
  intro n
  induction n with
  | zero => exact ⟨fun h => noS h, fun h => noS h, fun h => noS h⟩
  | succ n ih =>
    obtain ⟨ih_M_unit, ih_M_truth, ih_M_condition⟩ := ih
    refine ⟨?_, ?_, ?_⟩
    · intro μ μ' h
      rw [M_unit_s] at h
      exact Ct_of (own := "PotBookModel") [some (.ref (wad w 12 0)), none] (by decide +kernel) rfl rfl (Nat.le_of_ble_eq_true rfl) fun p e s m args below meth c G hr => M_unit_B_run (lv := 65 + n) (by omega) G hr ih_M_unit ih_M_condition h
    · intro μ μ' h
      rw [M_truth_s] at h
      exact Ct_of (own := "PotBookModel") [some (.ref (wad w 12 0))] (by decide +kernel) rfl rfl (Nat.le_of_ble_eq_true rfl) fun p e s m args below meth c G hr => M_truth_B_run (lv := 65 + n) (by omega) G hr ih_M_unit h
    · intro μ μ' h
      rw [M_condition_s] at h
      exact Ct_of (own := "PotBookModel") [some (.ref (wad w 12 0))] (by decide +kernel) rfl rfl (Nat.le_of_ble_eq_true rfl) fun p e s m args below meth c G hr => M_condition_B_run (lv := 65 + n) (by omega) G hr ih_M_truth h

theorem M_unit_ok {l : Launch} {w : Wld} {μ : Mem} {μ' : Mem} (h : M_unit RF μ = some μ') : CtV l w yX12_unit cX12_unit 2 (65 + RF) [.ref (wad w 12 0)] μ μ' := (G_M_unit_ok RF).1 h
theorem M_truth_ok {l : Launch} {w : Wld} {μ : Mem} {μ' : Mem} (h : M_truth RF μ = some μ') : CtV l w yX12_truth cX12_truth 1 (65 + RF) [.ref (wad w 12 0)] μ μ' := (G_M_unit_ok RF).2.1 h
theorem M_condition_ok {l : Launch} {w : Wld} {μ : Mem} {μ' : Mem} (h : M_condition RF μ = some μ') : CtV l w yX12_condition cX12_condition 1 (65 + RF) [.ref (wad w 12 0)] μ μ' := (G_M_unit_ok RF).2.2 h
set_option maxRecDepth 100000 in
set_option maxHeartbeats 4000000 in
theorem M_goOn_l1_ok {p : Program} {l : Launch} {e : Env} {R : Room} {s : State} {m : MethodId} {args : Array Value} {below : List Frame} {meth : Method} {c : Code} {w : Wld} {Q : State → Prop} (G : Cxt p R s m args meth c w cX12_goOn 1 "PotBookModel" 127 0 0) {μo : Mem} : ∀ {n : Nat} {μ : Mem}, M_goOn_l1 n μ = some μo → Vj p l e R s m args below meth c w 1 0 0 Q 45 [some (.ref (wad w 12 0))] [] μo → Vj p l e R s m args below meth c w 1 0 0 Q 4 [some (.ref (wad w 12 0))] [] μ := by
  intro n
  induction n with
  | zero => intro μ h K; exact noS h
  | succ n ih =>
    intro μ h K
    replace h : M_goOn_l1b (M_goOn_l1 n) μ = some μo := h
    unfold M_goOn_l1b at h
    refine V_aload_n (i := 0) G eX12_goOn_4 rfl rfl ?_
    refine V_get (v := .int (mI μ 1304 0 0)) G fgX12_192 rfl eX12_goOn_5 ?_
    refine V_iconst (n := -1) (v := (-1)) G eX12_goOn_8 rfl ?_
    refine V_icmp_ne G eX12_goOn_9 h (fun h => ?_) (fun h => ?_)
    · cases h; exact K
    · refine V_aload_n (i := 0) G eX12_goOn_12 rfl rfl ?_
      obtain ⟨⟨x1, μ2⟩, h1, h⟩ := bdS h
      refine V_callI (As := []) (st := []) G lkX12_218 (M_look_ok h1) (by decide) rfl rfl (Nat.le_of_ble_eq_true rfl) eX12_goOn_13 ?_
      refine V_bipush (n := 38) (v := (nI 38)) G eX12_goOn_16 rfl ?_
      refine V_icmp_ne G eX12_goOn_18 h (fun h => ?_) (fun h => ?_)
      · cases h; exact K
      · refine V_aload_n (i := 0) G eX12_goOn_21 rfl rfl ?_
        refine V_dup G eX12_goOn_22 rfl ?_
        refine V_get (v := .int (mI μ2 1303 0 0)) G fgX12_185 rfl eX12_goOn_23 ?_
        refine V_iconst (n := 1) (v := (nI 1)) G eX12_goOn_26 rfl ?_
        refine V_iadd G eX12_goOn_27 ?_
        refine V_put G fgX12_185 fp_12_3 eX12_goOn_28 h (fun μ3 h => ?_)
        refine V_aload_n (i := 0) G eX12_goOn_31 rfl rfl ?_
        obtain ⟨μ4, h1, h⟩ := bdS h
        refine V_callV (As := []) (st := []) G lkX12_275 (M_unit_ok h1) (by decide) rfl rfl (Nat.le_of_ble_eq_true rfl) eX12_goOn_32 ?_
        refine V_aload_n (i := 0) G eX12_goOn_35 rfl rfl ?_
        refine V_bipush (n := 10) (v := (nI 10)) G eX12_goOn_36 rfl ?_
        refine V_iconst (n := 0) (v := (nI 0)) G eX12_goOn_38 rfl ?_
        obtain ⟨μ5, h1, h⟩ := bdS h
        refine V_callV (As := [.int (nI 10), .int (nI 0)]) (st := []) G lkX12_250 (M_put_ok h1) (by decide) rfl rfl (Nat.le_of_ble_eq_true rfl) eX12_goOn_39 ?_
        refine V_goto G eX12_goOn_42 ?_
        exact (ih h K)
set_option maxRecDepth 100000 in
set_option maxHeartbeats 4000000 in
theorem M_goOn_l2_ok {p : Program} {l : Launch} {e : Env} {R : Room} {s : State} {m : MethodId} {args : Array Value} {below : List Frame} {meth : Method} {c : Code} {w : Wld} {Q : State → Prop} (G : Cxt p R s m args meth c w cX12_goOn 1 "PotBookModel" 127 0 0) {μo : Mem} : ∀ {n : Nat} {μ : Mem}, M_goOn_l2 n μ = some μo → Vj p l e R s m args below meth c w 1 0 0 Q 86 [none] [] μo → Vj p l e R s m args below meth c w 1 0 0 Q 45 [some (.ref (wad w 12 0))] [] μ := by
  intro n
  induction n with
  | zero => intro μ h K; exact noS h
  | succ n ih =>
    intro μ h K
    replace h : M_goOn_l2b (M_goOn_l2 n) μ = some μo := h
    unfold M_goOn_l2b at h
    refine V_aload_n (i := 0) G eX12_goOn_45 rfl rfl ?_
    refine V_get (v := .int (mI μ 1304 0 0)) G fgX12_192 rfl eX12_goOn_46 ?_
    refine V_iconst (n := -1) (v := (-1)) G eX12_goOn_49 rfl ?_
    refine V_icmp_ne G eX12_goOn_50 h (fun h => ?_) (fun h => ?_)
    · cases h; exact V_sub (lS_n lS_0) K
    · refine V_aload_n (i := 0) G eX12_goOn_53 rfl rfl ?_
      obtain ⟨⟨x1, μ2⟩, h1, h⟩ := bdS h
      refine V_callI (As := []) (st := []) G lkX12_218 (M_look_ok h1) (by decide) rfl rfl (Nat.le_of_ble_eq_true rfl) eX12_goOn_54 ?_
      refine V_bipush (n := 124) (v := (nI 124)) G eX12_goOn_57 rfl ?_
      refine V_icmp_ne G eX12_goOn_59 h (fun h => ?_) (fun h => ?_)
      · cases h; exact V_sub (lS_n lS_0) K
      · refine V_aload_n (i := 0) G eX12_goOn_62 rfl rfl ?_
        refine V_dup G eX12_goOn_63 rfl ?_
        refine V_get (v := .int (mI μ2 1303 0 0)) G fgX12_185 rfl eX12_goOn_64 ?_
        refine V_iconst (n := 1) (v := (nI 1)) G eX12_goOn_67 rfl ?_
        refine V_iadd G eX12_goOn_68 ?_
        refine V_put G fgX12_185 fp_12_3 eX12_goOn_69 h (fun μ3 h => ?_)
        refine V_aload_n (i := 0) G eX12_goOn_72 rfl rfl ?_
        obtain ⟨μ4, h1, h⟩ := bdS h
        refine V_callV (As := []) (st := []) G lkX12_284 (M_truth_ok h1) (by decide) rfl rfl (Nat.le_of_ble_eq_true rfl) eX12_goOn_73 ?_
        refine V_aload_n (i := 0) G eX12_goOn_76 rfl rfl ?_
        refine V_bipush (n := 11) (v := (nI 11)) G eX12_goOn_77 rfl ?_
        refine V_iconst (n := 0) (v := (nI 0)) G eX12_goOn_79 rfl ?_
        obtain ⟨μ5, h1, h⟩ := bdS h
        refine V_callV (As := [.int (nI 11), .int (nI 0)]) (st := []) G lkX12_250 (M_put_ok h1) (by decide) rfl rfl (Nat.le_of_ble_eq_true rfl) eX12_goOn_80 ?_
        refine V_goto G eX12_goOn_83 ?_
        exact (ih h K)
set_option maxRecDepth 100000 in
set_option maxHeartbeats 4000000 in
theorem M_goOn_run {p : Program} {l : Launch} {e : Env} {R : Room} {s : State} {m : MethodId} {args : Array Value} {below : List Frame} {meth : Method} {c : Code} {w : Wld} (G : Cxt p R s m args meth c w cX12_goOn 1 "PotBookModel" 127 0 0) (hr : meth.sig.returnType = none) {μ : Mem} {μ' : Mem} (h : M_goOn μ = some μ') : Vj p l e R s m args below meth c w 1 0 0 (MQ below (QV w μ') args s 0 0 w.2.2.2) 0 [some (.ref (wad w 12 0))] [] μ := by
  unfold M_goOn at h
  refine V_aload_n (i := 0) G eX12_goOn_0 rfl rfl ?_
  obtain ⟨μ1, h1, h⟩ := bdS h
  refine V_callV (As := []) (st := []) G lkX12_281 (M_compare_ok h1) (by decide) rfl rfl (Nat.le_of_ble_eq_true rfl) eX12_goOn_1 ?_
  obtain ⟨μ2, h1, h⟩ := bdS h
  refine M_goOn_l1_ok G h1 ?_
  obtain ⟨μ3, h1, h⟩ := bdS h
  refine M_goOn_l2_ok G h1 ?_
  exact V_rvM G hr eX12_goOn_86 h
theorem M_goOn_ok {l : Launch} {w : Wld} {μ : Mem} {μ' : Mem} (h : M_goOn μ = some μ') : CtV l w yX12_goOn cX12_goOn 1 127 [.ref (wad w 12 0)] μ μ' :=
  Ct_of (own := "PotBookModel") [some (.ref (wad w 12 0))] (by decide +kernel) rfl rfl (Nat.le_of_ble_eq_true rfl) fun p e s m args below meth c G hr => M_goOn_run G hr h
set_option maxRecDepth 100000 in
set_option maxHeartbeats 4000000 in
theorem M_clause_run {p : Program} {l : Launch} {e : Env} {R : Room} {s : State} {m : MethodId} {args : Array Value} {below : List Frame} {meth : Method} {c : Code} {w : Wld} (G : Cxt p R s m args meth c w cX12_clause 3 "PotBookModel" 128 0 0) (hr : meth.sig.returnType = none) {μ : Mem} {μ' : Mem} (h : M_clause μ = some μ') : Vj p l e R s m args below meth c w 3 0 0 (MQ below (QV w μ') args s 0 0 w.2.2.2) 0 [some (.ref (wad w 12 0)), none, none] [] μ := by
  unfold M_clause at h
  refine V_bipush (n := 60) (v := (nI 60)) G eX12_clause_0 rfl ?_
  refine V_aload_n (i := 0) G eX12_clause_2 rfl rfl ?_
  refine V_get (v := .int (mI μ 1331 0 0)) G fgX12_244 rfl eX12_clause_3 ?_
  refine V_imul G eX12_clause_6 ?_
  refine V_aload_n (i := 0) G eX12_clause_7 rfl rfl ?_
  refine V_get (v := .ref (wad w 1326 0)) G fgX12_68 rfl eX12_clause_8 ?_
  refine V_aload_n (i := 0) G eX12_clause_11 rfl rfl ?_
  refine V_get (v := .int (mI μ 1331 0 0)) G fgX12_244 rfl eX12_clause_12 ?_
  refine V_iald G al_1326 (by decide) eX12_clause_15 h (fun x1 h => ?_)
  refine V_iadd G eX12_clause_16 ?_
  refine V_istore_n (i := 1) (L' := (fun x2 => [some (.ref (wad w 12 0)), some (.int x2), none])) G rfl eX12_clause_17 (by decide) rfl (fun _ => rfl) h (fun x2 h => ?_)
  refine V_aload_n (i := 0) G eX12_clause_18 rfl rfl ?_
  refine V_get (v := .int (mI μ 1304 0 0)) G fgX12_192 rfl eX12_clause_19 ?_
  refine V_iconst (n := -1) (v := (-1)) G eX12_clause_22 rfl ?_
  obtain ⟨μ6, hj, h⟩ := bdS h
  have J : Vj p l e R s m args below meth c w 3 0 0 (MQ below (QV w μ') args s 0 0 w.2.2.2) 39 [some (.ref (wad w 12 0)), some (.int x2), none] [] μ6 := by
    clear hj
    refine V_aload_n (i := 0) G eX12_clause_39 rfl rfl ?_
    refine V_dup G eX12_clause_40 rfl ?_
    refine V_get (v := .int (mI μ6 1303 0 0)) G fgX12_185 rfl eX12_clause_41 ?_
    refine V_iconst (n := 1) (v := (nI 1)) G eX12_clause_44 rfl ?_
    refine V_iadd G eX12_clause_45 ?_
    refine V_put G fgX12_185 fp_12_3 eX12_clause_46 h (fun μ7 h => ?_)
    refine V_aload_n (i := 0) G eX12_clause_49 rfl rfl ?_
    refine V_get (v := .int (mI μ7 1304 0 0)) G fgX12_192 rfl eX12_clause_50 ?_
    refine V_iconst (n := -1) (v := (-1)) G eX12_clause_53 rfl ?_
    obtain ⟨μ11, hj, h⟩ := bdS h
    have J : Vj p l e R s m args below meth c w 3 0 0 (MQ below (QV w μ') args s 0 0 w.2.2.2) 70 [some (.ref (wad w 12 0)), some (.int x2), none] [] μ11 := by
      clear hj
      refine V_aload_n (i := 0) G eX12_clause_70 rfl rfl ?_
      refine V_dup G eX12_clause_71 rfl ?_
      refine V_get (v := .int (mI μ11 1303 0 0)) G fgX12_185 rfl eX12_clause_72 ?_
      refine V_iconst (n := 1) (v := (nI 1)) G eX12_clause_75 rfl ?_
      refine V_iadd G eX12_clause_76 ?_
      refine V_put G fgX12_185 fp_12_3 eX12_clause_77 h (fun μ12 h => ?_)
      refine V_aload_n (i := 0) G eX12_clause_80 rfl rfl ?_
      refine V_get (v := .int (mI μ12 1304 0 0)) G fgX12_192 rfl eX12_clause_81 ?_
      refine V_iconst (n := -1) (v := (-1)) G eX12_clause_84 rfl ?_
      refine V_icmp_eq G eX12_clause_85 h (fun h => ?_) (fun h => ?_)
      · refine V_aload_n (i := 0) G eX12_clause_89 rfl rfl ?_
        refine V_get (v := .ref (wad w 1327 0)) G fgX12_71 rfl eX12_clause_90 ?_
        refine V_iload_n (i := 1) G eX12_clause_93 rfl rfl ?_
        refine V_aload_n (i := 0) G eX12_clause_94 rfl rfl ?_
        refine V_get (v := .ref (wad w 1325 0)) G fgX12_65 rfl eX12_clause_95 ?_
        refine V_aload_n (i := 0) G eX12_clause_98 rfl rfl ?_
        refine V_get (v := .int (mI μ12 1331 0 0)) G fgX12_244 rfl eX12_clause_99 ?_
        refine V_iald G al_1325 (by decide) eX12_clause_102 h (fun x13 h => ?_)
        refine V_iast G al_1327 (by decide) eX12_clause_103 h (fun μ14 h => ?_)
        refine V_aload_n (i := 0) G eX12_clause_104 rfl rfl ?_
        obtain ⟨⟨x15, μ16⟩, h1, h⟩ := bdS h
        refine V_callI (As := []) (st := []) G lkX12_218 (M_look_ok h1) (by decide) rfl rfl (Nat.le_of_ble_eq_true rfl) eX12_clause_105 ?_
        refine V_bipush (n := 33) (v := (nI 33)) G eX12_clause_108 rfl ?_
        obtain ⟨⟨x19, μ20⟩, hj, h⟩ := bdS h
        have J : Vj p l e R s m args below meth c w 3 0 0 (MQ below (QV w μ') args s 0 0 w.2.2.2) 127 [some (.ref (wad w 12 0)), some (.int x2), none] [.int x19] μ20 := by
          clear hj
          refine V_istoreA_n (i := 2) (L' := [some (.ref (wad w 12 0)), some (.int x2), some (.int x19)]) G rfl eX12_clause_127 (by decide) rfl rfl ?_
          refine V_iload_n (i := 2) G eX12_clause_128 rfl rfl ?_
          obtain ⟨⟨x29, μ30⟩, hj, h⟩ := bdS h
          have J : Vj p l e R s m args below meth c w 3 0 0 (MQ below (QV w μ') args s 0 0 w.2.2.2) 175 [some (.ref (wad w 12 0)), some (.int x2), some (.int x29)] [] μ30 := by
            clear hj
            refine V_aload_n (i := 0) G eX12_clause_175 rfl rfl ?_
            refine V_get (v := .ref (wad w 1328 0)) G fgX12_74 rfl eX12_clause_176 ?_
            refine V_iload_n (i := 1) G eX12_clause_179 rfl rfl ?_
            refine V_aload_n (i := 0) G eX12_clause_180 rfl rfl ?_
            refine V_get (v := .ref (wad w 1327 0)) G fgX12_71 rfl eX12_clause_181 ?_
            refine V_iload_n (i := 1) G eX12_clause_184 rfl rfl ?_
            refine V_iald G al_1327 (by decide) eX12_clause_185 h (fun x31 h => ?_)
            refine V_iast G al_1328 (by decide) eX12_clause_186 h (fun μ32 h => ?_)
            refine V_iload_n (i := 2) G eX12_clause_187 rfl rfl ?_
            obtain ⟨k41, hkk41, h⟩ := kE h
            have Jk41 : ∀ (μ40 : Mem), k41 μ40 = some μ' → Vj p l e R s m args below meth c w 3 0 0 (MQ below (QV w μ') args s 0 0 w.2.2.2) 242 [some (.ref (wad w 12 0)), some (.int x2), none] [] μ40 := by
              clear h
              intro μ40 h
              rw [hkk41] at h
              clear hkk41
              refine V_aload_n (i := 0) G eX12_clause_242 rfl rfl ?_
              refine V_get (v := .ref (wad w 1329 0)) G fgX12_77 rfl eX12_clause_243 ?_
              refine V_iload_n (i := 1) G eX12_clause_246 rfl rfl ?_
              refine V_aload_n (i := 0) G eX12_clause_247 rfl rfl ?_
              refine V_get (v := .ref (wad w 1325 0)) G fgX12_65 rfl eX12_clause_248 ?_
              refine V_aload_n (i := 0) G eX12_clause_251 rfl rfl ?_
              refine V_get (v := .int (mI μ40 1331 0 0)) G fgX12_244 rfl eX12_clause_252 ?_
              refine V_iald G al_1325 (by decide) eX12_clause_255 h (fun x42 h => ?_)
              refine V_iast G al_1329 (by decide) eX12_clause_256 h (fun μ43 h => ?_)
              refine V_aload_n (i := 0) G eX12_clause_257 rfl rfl ?_
              refine V_get (v := .ref (wad w 1326 0)) G fgX12_68 rfl eX12_clause_258 ?_
              refine V_aload_n (i := 0) G eX12_clause_261 rfl rfl ?_
              refine V_get (v := .int (mI μ43 1331 0 0)) G fgX12_244 rfl eX12_clause_262 ?_
              refine V_dup2_11 G eX12_clause_265 rfl rfl ?_
              refine V_iald G al_1326 (by decide) eX12_clause_266 h (fun x44 h => ?_)
              refine V_iconst (n := 1) (v := (nI 1)) G eX12_clause_267 rfl ?_
              refine V_iadd G eX12_clause_268 ?_
              refine V_iast G al_1326 (by decide) eX12_clause_269 h (fun μ45 h => ?_)
              exact V_rvM G hr eX12_clause_270 h
            refine V_if_eq G eX12_clause_188 h (fun h => ?_) (fun h => ?_)
            · exact V_sub (lS_s (lS_s (lS_n lS_0))) (Jk41 _ h)
            · refine V_aload_n (i := 0) G eX12_clause_191 rfl rfl ?_
              refine V_get (v := .int (mI μ32 1304 0 0)) G fgX12_192 rfl eX12_clause_192 ?_
              refine V_iconst (n := -1) (v := (-1)) G eX12_clause_195 rfl ?_
              refine V_icmp_ne G eX12_clause_196 h (fun h => ?_) (fun h => ?_)
              · exact V_sub (lS_s (lS_s (lS_n lS_0))) (Jk41 _ h)
              · refine V_aload_n (i := 0) G eX12_clause_199 rfl rfl ?_
                obtain ⟨⟨x33, μ34⟩, h1, h⟩ := bdS h
                refine V_callI (As := []) (st := []) G lkX12_218 (M_look_ok h1) (by decide) rfl rfl (Nat.le_of_ble_eq_true rfl) eX12_clause_200 ?_
                refine V_bipush (n := 63) (v := (nI 63)) G eX12_clause_203 rfl ?_
                refine V_icmp_eq G eX12_clause_205 h (fun h => ?_) (fun h => ?_)
                · refine V_aload_n (i := 0) G eX12_clause_213 rfl rfl ?_
                  refine V_dup G eX12_clause_214 rfl ?_
                  refine V_get (v := .int (mI μ34 1303 0 0)) G fgX12_185 rfl eX12_clause_215 ?_
                  refine V_iconst (n := 1) (v := (nI 1)) G eX12_clause_218 rfl ?_
                  refine V_iadd G eX12_clause_219 ?_
                  refine V_put G fgX12_185 fp_12_3 eX12_clause_220 h (fun μ35 h => ?_)
                  refine V_aload_n (i := 0) G eX12_clause_223 rfl rfl ?_
                  refine V_get (v := .ref (wad w 1328 0)) G fgX12_74 rfl eX12_clause_224 ?_
                  refine V_iload_n (i := 1) G eX12_clause_227 rfl rfl ?_
                  refine V_aload_n (i := 0) G eX12_clause_228 rfl rfl ?_
                  refine V_get (v := .ref (wad w 1325 0)) G fgX12_65 rfl eX12_clause_229 ?_
                  refine V_aload_n (i := 0) G eX12_clause_232 rfl rfl ?_
                  refine V_get (v := .int (mI μ35 1331 0 0)) G fgX12_244 rfl eX12_clause_233 ?_
                  refine V_iald G al_1325 (by decide) eX12_clause_236 h (fun x36 h => ?_)
                  refine V_iast G al_1328 (by decide) eX12_clause_237 h (fun μ37 h => ?_)
                  refine V_aload_n (i := 0) G eX12_clause_238 rfl rfl ?_
                  obtain ⟨μ38, h1, h⟩ := bdS h
                  refine V_callV (As := []) (st := []) G lkX12_260 (M_sum_ok h1) (by decide) rfl rfl (Nat.le_of_ble_eq_true rfl) eX12_clause_239 ?_
                  exact V_sub (lS_s (lS_s (lS_n lS_0))) (Jk41 _ h)
                · refine V_aload_n (i := 0) G eX12_clause_208 rfl rfl ?_
                  obtain ⟨μ39, h1, h⟩ := bdS h
                  refine V_callV (As := []) (st := []) G lkX12_224 (M_bad_ok h1) (by decide) rfl rfl (Nat.le_of_ble_eq_true rfl) eX12_clause_209 ?_
                  exact V_rvM G hr eX12_clause_212 h
          replace h := hj
          clear hj
          refine V_if_eq G eX12_clause_129 h (fun h => ?_) (fun h => ?_)
          · refine V_aload_n (i := 0) G eX12_clause_139 rfl rfl ?_
            obtain ⟨μ21, h1, h⟩ := bdS h
            refine V_callV (As := []) (st := []) G lkX12_260 (M_sum_ok h1) (by decide) rfl rfl (Nat.le_of_ble_eq_true rfl) eX12_clause_140 ?_
            refine V_aload_n (i := 0) G eX12_clause_143 rfl rfl ?_
            refine V_get (v := .int (mI μ21 1304 0 0)) G fgX12_192 rfl eX12_clause_144 ?_
            refine V_iconst (n := -1) (v := (-1)) G eX12_clause_147 rfl ?_
            obtain ⟨⟨x25, μ26⟩, hj, h⟩ := bdS h
            have J : Vj p l e R s m args below meth c w 3 0 0 (MQ below (QV w μ') args s 0 0 w.2.2.2) 166 [some (.ref (wad w 12 0)), some (.int x2), none] [.int x25] μ26 := by
              clear hj
              refine V_istoreA_n (i := 2) (L' := [some (.ref (wad w 12 0)), some (.int x2), some (.int x25)]) G rfl eX12_clause_166 (by decide) rfl rfl ?_
              refine V_iload_n (i := 2) G eX12_clause_167 rfl rfl ?_
              refine V_if_eq G eX12_clause_168 h (fun h => ?_) (fun h => ?_)
              · cases h; exact J
              · refine V_aload_n (i := 0) G eX12_clause_171 rfl rfl ?_
                obtain ⟨μ27, h1, h⟩ := bdS h
                refine V_callV (As := []) (st := []) G lkX12_287 (M_goOn_ok h1) (by decide) rfl rfl (Nat.le_of_ble_eq_true rfl) eX12_clause_172 ?_
                cases h; exact J
            replace h := hj
            clear hj
            refine V_icmp_ne G eX12_clause_148 h (fun h => ?_) (fun h => ?_)
            · refine V_iconst (n := 0) (v := (nI 0)) G eX12_clause_165 rfl ?_
              cases h; exact V_sub (lS_s (lS_s (lS_n lS_0))) J
            · refine V_aload_n (i := 0) G eX12_clause_151 rfl rfl ?_
              obtain ⟨⟨x22, μ23⟩, h1, h⟩ := bdS h
              refine V_callI (As := []) (st := []) G lkX12_218 (M_look_ok h1) (by decide) rfl rfl (Nat.le_of_ble_eq_true rfl) eX12_clause_152 ?_
              obtain ⟨x24, h1, h⟩ := bdS h
              refine V_callIS (As := [.int x22]) (st := []) G lkX12_272 (M_isSign_ok (μ := μ23) h1) (by decide) rfl rfl (Nat.le_of_ble_eq_true rfl) eX12_clause_155 ?_
              refine V_if_eq G eX12_clause_158 h (fun h => ?_) (fun h => ?_)
              · refine V_iconst (n := 0) (v := (nI 0)) G eX12_clause_165 rfl ?_
                cases h; exact V_sub (lS_s (lS_s (lS_n lS_0))) J
              · refine V_iconst (n := 1) (v := (nI 1)) G eX12_clause_161 rfl ?_
                refine V_goto G eX12_clause_162 ?_
                cases h; exact V_sub (lS_s (lS_s (lS_n lS_0))) J
          · refine V_aload_n (i := 0) G eX12_clause_132 rfl rfl ?_
            obtain ⟨μ28, h1, h⟩ := bdS h
            refine V_callV (As := []) (st := []) G lkX12_278 (M_condition_ok h1) (by decide) rfl rfl (Nat.le_of_ble_eq_true rfl) eX12_clause_133 ?_
            refine V_goto G eX12_clause_136 ?_
            cases h; exact J
        replace h := hj
        clear hj
        refine V_icmp_eq G eX12_clause_110 h (fun h => ?_) (fun h => ?_)
        · refine V_iconst (n := 1) (v := (nI 1)) G eX12_clause_122 rfl ?_
          refine V_goto G eX12_clause_123 ?_
          cases h; exact J
        · refine V_aload_n (i := 0) G eX12_clause_113 rfl rfl ?_
          obtain ⟨⟨x17, μ18⟩, h1, h⟩ := bdS h
          refine V_callI (As := []) (st := []) G lkX12_218 (M_look_ok h1) (by decide) rfl rfl (Nat.le_of_ble_eq_true rfl) eX12_clause_114 ?_
          refine V_bipush (n := 40) (v := (nI 40)) G eX12_clause_117 rfl ?_
          refine V_icmp_ne G eX12_clause_119 h (fun h => ?_) (fun h => ?_)
          · refine V_iconst (n := 0) (v := (nI 0)) G eX12_clause_126 rfl ?_
            cases h; exact J
          · refine V_iconst (n := 1) (v := (nI 1)) G eX12_clause_122 rfl ?_
            refine V_goto G eX12_clause_123 ?_
            cases h; exact J
      · exact V_rvM G hr eX12_clause_88 h
    replace h := hj
    clear hj
    refine V_icmp_ne G eX12_clause_54 h (fun h => ?_) (fun h => ?_)
    · cases h; exact J
    · refine V_aload_n (i := 0) G eX12_clause_57 rfl rfl ?_
      obtain ⟨⟨x8, μ9⟩, h1, h⟩ := bdS h
      refine V_callI (As := []) (st := []) G lkX12_218 (M_look_ok h1) (by decide) rfl rfl (Nat.le_of_ble_eq_true rfl) eX12_clause_58 ?_
      refine V_bipush (n := 58) (v := (nI 58)) G eX12_clause_61 rfl ?_
      refine V_icmp_eq G eX12_clause_63 h (fun h => ?_) (fun h => ?_)
      · cases h; exact J
      · refine V_aload_n (i := 0) G eX12_clause_66 rfl rfl ?_
        obtain ⟨μ10, h1, h⟩ := bdS h
        refine V_callV (As := []) (st := []) G lkX12_224 (M_bad_ok h1) (by decide) rfl rfl (Nat.le_of_ble_eq_true rfl) eX12_clause_67 ?_
        cases h; exact J
  replace h := hj
  clear hj
  refine V_icmp_ne G eX12_clause_23 h (fun h => ?_) (fun h => ?_)
  · cases h; exact J
  · refine V_aload_n (i := 0) G eX12_clause_26 rfl rfl ?_
    obtain ⟨⟨x3, μ4⟩, h1, h⟩ := bdS h
    refine V_callI (As := []) (st := []) G lkX12_218 (M_look_ok h1) (by decide) rfl rfl (Nat.le_of_ble_eq_true rfl) eX12_clause_27 ?_
    refine V_bipush (n := 121) (v := (nI 121)) G eX12_clause_30 rfl ?_
    refine V_icmp_eq G eX12_clause_32 h (fun h => ?_) (fun h => ?_)
    · cases h; exact J
    · refine V_aload_n (i := 0) G eX12_clause_35 rfl rfl ?_
      obtain ⟨μ5, h1, h⟩ := bdS h
      refine V_callV (As := []) (st := []) G lkX12_224 (M_bad_ok h1) (by decide) rfl rfl (Nat.le_of_ble_eq_true rfl) eX12_clause_36 ?_
      cases h; exact J
theorem M_clause_ok {l : Launch} {w : Wld} {μ : Mem} {μ' : Mem} (h : M_clause μ = some μ') : CtV l w yX12_clause cX12_clause 3 128 [.ref (wad w 12 0)] μ μ' :=
  Ct_of (own := "PotBookModel") [some (.ref (wad w 12 0)), none, none] (by decide +kernel) rfl rfl (Nat.le_of_ble_eq_true rfl) fun p e s m args below meth c G hr => M_clause_run G hr h
set_option maxRecDepth 100000 in
set_option maxHeartbeats 4000000 in
theorem M_readLaw_l1_ok {p : Program} {l : Launch} {e : Env} {R : Room} {s : State} {m : MethodId} {args : Array Value} {below : List Frame} {meth : Method} {c : Code} {w : Wld} {Q : State → Prop} (G : Cxt p R s m args meth c w cX12_readLaw 2 "PotBookModel" 129 0 0) {μo : Mem} : ∀ {n : Nat} {μ : Mem}, M_readLaw_l1 n μ = some μo → Vj p l e R s m args below meth c w 2 0 0 Q 72 [some (.ref (wad w 12 0)), none] [] μo → Vj p l e R s m args below meth c w 2 0 0 Q 38 [some (.ref (wad w 12 0)), none] [] μ := by
  intro n
  induction n with
  | zero => intro μ h K; exact noS h
  | succ n ih =>
    intro μ h K
    replace h : M_readLaw_l1b (M_readLaw_l1 n) μ = some μo := h
    unfold M_readLaw_l1b at h
    refine V_aload_n (i := 0) G eX12_readLaw_38 rfl rfl ?_
    refine V_get (v := .int (mI μ 1304 0 0)) G fgX12_192 rfl eX12_readLaw_39 ?_
    refine V_iconst (n := -1) (v := (-1)) G eX12_readLaw_42 rfl ?_
    refine V_icmp_ne G eX12_readLaw_43 h (fun h => ?_) (fun h => ?_)
    · cases h; exact K
    · refine V_aload_n (i := 0) G eX12_readLaw_46 rfl rfl ?_
      obtain ⟨⟨x1, μ2⟩, h1, h⟩ := bdS h
      refine V_callI (As := []) (st := []) G lkX12_218 (M_look_ok h1) (by decide) rfl rfl (Nat.le_of_ble_eq_true rfl) eX12_readLaw_47 ?_
      refine V_bipush (n := 59) (v := (nI 59)) G eX12_readLaw_50 rfl ?_
      refine V_icmp_ne G eX12_readLaw_52 h (fun h => ?_) (fun h => ?_)
      · cases h; exact K
      · refine V_aload_n (i := 0) G eX12_readLaw_55 rfl rfl ?_
        refine V_dup G eX12_readLaw_56 rfl ?_
        refine V_get (v := .int (mI μ2 1303 0 0)) G fgX12_185 rfl eX12_readLaw_57 ?_
        refine V_iconst (n := 1) (v := (nI 1)) G eX12_readLaw_60 rfl ?_
        refine V_iadd G eX12_readLaw_61 ?_
        refine V_put G fgX12_185 fp_12_3 eX12_readLaw_62 h (fun μ3 h => ?_)
        refine V_aload_n (i := 0) G eX12_readLaw_65 rfl rfl ?_
        obtain ⟨μ4, h1, h⟩ := bdS h
        refine V_callV (As := []) (st := []) G lkX12_290 (M_clause_ok h1) (by decide) rfl rfl (Nat.le_of_ble_eq_true rfl) eX12_readLaw_66 ?_
        refine V_goto G eX12_readLaw_69 ?_
        exact (ih h K)
set_option maxRecDepth 100000 in
set_option maxHeartbeats 4000000 in
theorem M_readLaw_run {p : Program} {l : Launch} {e : Env} {R : Room} {s : State} {m : MethodId} {args : Array Value} {below : List Frame} {meth : Method} {c : Code} {w : Wld} (G : Cxt p R s m args meth c w cX12_readLaw 2 "PotBookModel" 129 0 0) (hr : meth.sig.returnType = some .int) {a1 : Int32} {μ : Mem} {r : Int32} {μ' : Mem} (h : M_readLaw a1 μ = some (r, μ')) : Vj p l e R s m args below meth c w 2 0 0 (MQ below (QI w r μ') args s 0 0 w.2.2.2) 0 [some (.ref (wad w 12 0)), some (.int a1)] [] μ := by
  unfold M_readLaw at h
  refine V_aload_n (i := 0) G eX12_readLaw_0 rfl rfl ?_
  refine V_iload_n (i := 1) G eX12_readLaw_1 rfl rfl ?_
  refine V_put G fgX12_244 fp_12_31 eX12_readLaw_2 h (fun μ1 h => ?_)
  refine V_aload_n (i := 0) G eX12_readLaw_5 rfl rfl ?_
  refine V_iconst (n := 0) (v := (nI 0)) G eX12_readLaw_6 rfl ?_
  refine V_put G fgX12_185 fp_12_3 eX12_readLaw_7 h (fun μ2 h => ?_)
  refine V_aload_n (i := 0) G eX12_readLaw_10 rfl rfl ?_
  refine V_iconst (n := -1) (v := (-1)) G eX12_readLaw_11 rfl ?_
  refine V_put G fgX12_192 fp_12_4 eX12_readLaw_12 h (fun μ3 h => ?_)
  refine V_aload_n (i := 0) G eX12_readLaw_15 rfl rfl ?_
  refine V_iconst (n := 0) (v := (nI 0)) G eX12_readLaw_16 rfl ?_
  refine V_put G fgX12_247 fp_12_5 eX12_readLaw_17 h (fun μ4 h => ?_)
  refine V_aload_n (i := 0) G eX12_readLaw_20 rfl rfl ?_
  refine V_get (v := .ref (wad w 1325 0)) G fgX12_65 rfl eX12_readLaw_21 ?_
  refine V_iload_n (i := 1) G eX12_readLaw_24 rfl rfl ?_
  refine V_iconst (n := 0) (v := (nI 0)) G eX12_readLaw_25 rfl ?_
  refine V_iast G al_1325 (by decide) eX12_readLaw_26 h (fun μ5 h => ?_)
  refine V_aload_n (i := 0) G eX12_readLaw_27 rfl rfl ?_
  refine V_get (v := .ref (wad w 1326 0)) G fgX12_68 rfl eX12_readLaw_28 ?_
  refine V_iload_n (i := 1) G eX12_readLaw_31 rfl rfl ?_
  refine V_iconst (n := 0) (v := (nI 0)) G eX12_readLaw_32 rfl ?_
  refine V_iast G al_1326 (by decide) eX12_readLaw_33 h (fun μ6 h => ?_)
  refine V_aload_n (i := 0) G eX12_readLaw_34 rfl rfl ?_
  obtain ⟨μ7, h1, h⟩ := bdS h
  refine V_callV (As := []) (st := []) G lkX12_290 (M_clause_ok h1) (by decide) rfl rfl (Nat.le_of_ble_eq_true rfl) eX12_readLaw_35 ?_
  obtain ⟨μ8, h1, h⟩ := bdS h
  refine V_sub (lS_s (lS_n lS_0)) ?_
  refine M_readLaw_l1_ok G h1 ?_
  refine V_aload_n (i := 0) G eX12_readLaw_72 rfl rfl ?_
  refine V_get (v := .int (mI μ8 1304 0 0)) G fgX12_192 rfl eX12_readLaw_73 ?_
  refine V_iconst (n := -1) (v := (-1)) G eX12_readLaw_76 rfl ?_
  refine V_icmp_ne G eX12_readLaw_77 h (fun h => ?_) (fun h => ?_)
  · refine V_aload_n (i := 0) G eX12_readLaw_92 rfl rfl ?_
    refine V_get (v := .int (mI μ8 1304 0 0)) G fgX12_192 rfl eX12_readLaw_93 ?_
    exact V_riM G hr eX12_readLaw_96 h
  · refine V_aload_n (i := 0) G eX12_readLaw_80 rfl rfl ?_
    obtain ⟨⟨x9, μ10⟩, h1, h⟩ := bdS h
    refine V_callI (As := []) (st := []) G lkX12_218 (M_look_ok h1) (by decide) rfl rfl (Nat.le_of_ble_eq_true rfl) eX12_readLaw_81 ?_
    refine V_iconst (n := -1) (v := (-1)) G eX12_readLaw_84 rfl ?_
    refine V_icmp_eq G eX12_readLaw_85 h (fun h => ?_) (fun h => ?_)
    · refine V_aload_n (i := 0) G eX12_readLaw_92 rfl rfl ?_
      refine V_get (v := .int (mI μ10 1304 0 0)) G fgX12_192 rfl eX12_readLaw_93 ?_
      exact V_riM G hr eX12_readLaw_96 h
    · refine V_aload_n (i := 0) G eX12_readLaw_88 rfl rfl ?_
      obtain ⟨μ11, h1, h⟩ := bdS h
      refine V_callV (As := []) (st := []) G lkX12_224 (M_bad_ok h1) (by decide) rfl rfl (Nat.le_of_ble_eq_true rfl) eX12_readLaw_89 ?_
      refine V_aload_n (i := 0) G eX12_readLaw_92 rfl rfl ?_
      refine V_get (v := .int (mI μ11 1304 0 0)) G fgX12_192 rfl eX12_readLaw_93 ?_
      exact V_riM G hr eX12_readLaw_96 h
theorem M_readLaw_ok {l : Launch} {w : Wld} {a1 : Int32} {μ : Mem} {r : Int32} {μ' : Mem} (h : M_readLaw a1 μ = some (r, μ')) : CtI l w yX12_readLaw cX12_readLaw 2 .int 129 [.ref (wad w 12 0), .int a1] μ r μ' :=
  Ct_of (own := "PotBookModel") [some (.ref (wad w 12 0)), some (.int a1)] (by decide +kernel) rfl rfl (Nat.le_of_ble_eq_true rfl) fun p e s m args below meth c G hr => M_readLaw_run G hr h
set_option maxRecDepth 100000 in
set_option maxHeartbeats 4000000 in
theorem M_fault_run {p : Program} {l : Launch} {e : Env} {R : Room} {s : State} {m : MethodId} {args : Array Value} {below : List Frame} {meth : Method} {c : Code} {w : Wld} (G : Cxt p R s m args meth c w cX12_fault 2 "PotBookModel" 130 0 0) (hr : meth.sig.returnType = some .int) {a1 : Int32} {μ : Mem} {r : Int32} {μ' : Mem} (h : M_fault a1 μ = some (r, μ')) : Vj p l e R s m args below meth c w 2 0 0 (MQ below (QI w r μ') args s 0 0 w.2.2.2) 0 [some (.ref (wad w 12 0)), some (.int a1)] [] μ := by
  unfold M_fault at h
  refine V_iload_n (i := 1) G eX12_fault_0 rfl rfl ?_
  refine V_if_ne G eX12_fault_1 h (fun h => ?_) (fun h => ?_)
  · refine V_iload_n (i := 1) G eX12_fault_13 rfl rfl ?_
    refine V_iconst (n := 1) (v := (nI 1)) G eX12_fault_14 rfl ?_
    refine V_icmp_ne G eX12_fault_15 h (fun h => ?_) (fun h => ?_)
    · refine V_bipush (n := -2) (v := (-2)) G eX12_fault_27 rfl ?_
      exact V_riM G hr eX12_fault_29 h
    · refine V_aload_n (i := 0) G eX12_fault_18 rfl rfl ?_
      refine V_bipush (n := 6) (v := (nI 6)) G eX12_fault_19 rfl ?_
      obtain ⟨⟨x1, μ2⟩, h1, h⟩ := bdS h
      refine V_callI (As := [.int (nI 6)]) (st := []) G lkX12_296 (M_readLaw_ok h1) (by decide) rfl rfl (Nat.le_of_ble_eq_true rfl) eX12_fault_21 ?_
      refine V_goto G eX12_fault_24 ?_
      exact V_riM G hr eX12_fault_29 h
  · refine V_aload_n (i := 0) G eX12_fault_4 rfl rfl ?_
    refine V_bipush (n := 16) (v := (nI 16)) G eX12_fault_5 rfl ?_
    obtain ⟨⟨x3, μ4⟩, h1, h⟩ := bdS h
    refine V_callI (As := [.int (nI 16)]) (st := []) G lkX12_293 (M_readPage_ok h1) (by decide) rfl rfl (Nat.le_of_ble_eq_true rfl) eX12_fault_7 ?_
    refine V_goto G eX12_fault_10 ?_
    exact V_riM G hr eX12_fault_29 h
theorem M_fault_ok {l : Launch} {w : Wld} {a1 : Int32} {μ : Mem} {r : Int32} {μ' : Mem} (h : M_fault a1 μ = some (r, μ')) : CtI l w yX12_fault cX12_fault 2 .int 130 [.ref (wad w 12 0), .int a1] μ r μ' :=
  Ct_of (own := "PotBookModel") [some (.ref (wad w 12 0)), some (.int a1)] (by decide +kernel) rfl rfl (Nat.le_of_ble_eq_true rfl) fun p e s m args below meth c G hr => M_fault_run G hr h
set_option maxRecDepth 100000 in
set_option maxHeartbeats 4000000 in
theorem M_text_run {p : Program} {l : Launch} {e : Env} {R : Room} {s : State} {m : MethodId} {args : Array Value} {below : List Frame} {meth : Method} {c : Code} {w : Wld} (G : Cxt p R s m args meth c w cX12_text 2 "PotBookModel" 130 0 0) (hr : meth.sig.returnType = some .int) {a1 : Int32} {μ : Mem} {r : Int32} {μ' : Mem} (h : M_text a1 μ = some (r, μ')) : Vj p l e R s m args below meth c w 2 0 0 (MQ below (QI w r μ') args s 0 0 w.2.2.2) 0 [some (.ref (wad w 12 0)), some (.int a1)] [] μ := by
  unfold M_text at h
  refine V_iload_n (i := 1) G eX12_text_0 rfl rfl ?_
  refine V_if_ne G eX12_text_1 h (fun h => ?_) (fun h => ?_)
  · refine V_iload_n (i := 1) G eX12_text_59 rfl rfl ?_
    refine V_iconst (n := 1) (v := (nI 1)) G eX12_text_60 rfl ?_
    refine V_icmp_ne G eX12_text_61 h (fun h => ?_) (fun h => ?_)
    · refine V_iconst (n := -1) (v := (-1)) G eX12_text_85 rfl ?_
      exact V_riM G hr eX12_text_86 h
    · refine V_aload_n (i := 0) G eX12_text_64 rfl rfl ?_
      refine V_get (v := .int (mI μ 1330 0 0)) G fgX12_302 rfl eX12_text_65 ?_
      refine V_bipush (n := 6) (v := (nI 6)) G eX12_text_68 rfl ?_
      refine V_icmp_eq G eX12_text_70 h (fun h => ?_) (fun h => ?_)
      · refine V_iconst (n := -1) (v := (-1)) G eX12_text_85 rfl ?_
        exact V_riM G hr eX12_text_86 h
      · refine V_aload_n (i := 0) G eX12_text_73 rfl rfl ?_
        refine V_aload_n (i := 0) G eX12_text_74 rfl rfl ?_
        refine V_get (v := .int (mI μ 1330 0 0)) G fgX12_302 rfl eX12_text_75 ?_
        obtain ⟨⟨x1, μ2⟩, h1, h⟩ := bdS h
        refine V_callI (As := [.int (mI μ 1330 0 0)]) (st := []) G lkX12_296 (M_readLaw_ok h1) (by decide) rfl rfl (Nat.le_of_ble_eq_true rfl) eX12_text_78 ?_
        refine V_iconst (n := -1) (v := (-1)) G eX12_text_81 rfl ?_
        refine V_icmp_eq G eX12_text_82 h (fun h => ?_) (fun h => ?_)
        · refine V_aload_n (i := 0) G eX12_text_87 rfl rfl ?_
          refine V_iconst (n := 0) (v := (nI 0)) G eX12_text_88 rfl ?_
          refine V_put G fgX12_182 fp_12_2 eX12_text_89 h (fun μ3 h => ?_)
          refine V_aload_n (i := 0) G eX12_text_92 rfl rfl ?_
          refine V_dup G eX12_text_93 rfl ?_
          refine V_get (v := .int (mI μ3 1330 0 0)) G fgX12_302 rfl eX12_text_94 ?_
          refine V_iconst (n := 1) (v := (nI 1)) G eX12_text_97 rfl ?_
          refine V_iadd G eX12_text_98 ?_
          refine V_put G fgX12_302 fp_12_30 eX12_text_99 h (fun μ4 h => ?_)
          refine V_aload_n (i := 0) G eX12_text_102 rfl rfl ?_
          refine V_get (v := .int (mI μ4 1330 0 0)) G fgX12_302 rfl eX12_text_103 ?_
          refine V_iconst (n := 1) (v := (nI 1)) G eX12_text_106 rfl ?_
          refine V_isub G eX12_text_107 ?_
          exact V_riM G hr eX12_text_108 h
        · refine V_iconst (n := -1) (v := (-1)) G eX12_text_85 rfl ?_
          exact V_riM G hr eX12_text_86 h
  · refine V_aload_n (i := 0) G eX12_text_4 rfl rfl ?_
    refine V_get (v := .int (mI μ 1322 0 0)) G fgX12_299 rfl eX12_text_5 ?_
    refine V_bipush (n := 16) (v := (nI 16)) G eX12_text_8 rfl ?_
    refine V_icmp_eq G eX12_text_10 h (fun h => ?_) (fun h => ?_)
    · refine V_iconst (n := -1) (v := (-1)) G eX12_text_25 rfl ?_
      exact V_riM G hr eX12_text_26 h
    · refine V_aload_n (i := 0) G eX12_text_13 rfl rfl ?_
      refine V_aload_n (i := 0) G eX12_text_14 rfl rfl ?_
      refine V_get (v := .int (mI μ 1322 0 0)) G fgX12_299 rfl eX12_text_15 ?_
      obtain ⟨⟨x5, μ6⟩, h1, h⟩ := bdS h
      refine V_callI (As := [.int (mI μ 1322 0 0)]) (st := []) G lkX12_293 (M_readPage_ok h1) (by decide) rfl rfl (Nat.le_of_ble_eq_true rfl) eX12_text_18 ?_
      refine V_iconst (n := -1) (v := (-1)) G eX12_text_21 rfl ?_
      refine V_icmp_eq G eX12_text_22 h (fun h => ?_) (fun h => ?_)
      · refine V_aload_n (i := 0) G eX12_text_27 rfl rfl ?_
        refine V_get (v := .ref (wad w 1321 0)) G fgX12_56 rfl eX12_text_28 ?_
        refine V_aload_n (i := 0) G eX12_text_31 rfl rfl ?_
        refine V_get (v := .int (mI μ6 1322 0 0)) G fgX12_299 rfl eX12_text_32 ?_
        refine V_iconst (n := 0) (v := (nI 0)) G eX12_text_35 rfl ?_
        refine V_iast G al_1321 (by decide) eX12_text_36 h (fun μ7 h => ?_)
        refine V_aload_n (i := 0) G eX12_text_37 rfl rfl ?_
        refine V_iconst (n := 0) (v := (nI 0)) G eX12_text_38 rfl ?_
        refine V_put G fgX12_182 fp_12_2 eX12_text_39 h (fun μ8 h => ?_)
        refine V_aload_n (i := 0) G eX12_text_42 rfl rfl ?_
        refine V_dup G eX12_text_43 rfl ?_
        refine V_get (v := .int (mI μ8 1322 0 0)) G fgX12_299 rfl eX12_text_44 ?_
        refine V_iconst (n := 1) (v := (nI 1)) G eX12_text_47 rfl ?_
        refine V_iadd G eX12_text_48 ?_
        refine V_put G fgX12_299 fp_12_22 eX12_text_49 h (fun μ9 h => ?_)
        refine V_aload_n (i := 0) G eX12_text_52 rfl rfl ?_
        refine V_get (v := .int (mI μ9 1322 0 0)) G fgX12_299 rfl eX12_text_53 ?_
        refine V_iconst (n := 1) (v := (nI 1)) G eX12_text_56 rfl ?_
        refine V_isub G eX12_text_57 ?_
        exact V_riM G hr eX12_text_58 h
      · refine V_iconst (n := -1) (v := (-1)) G eX12_text_25 rfl ?_
        exact V_riM G hr eX12_text_26 h
theorem M_text_ok {l : Launch} {w : Wld} {a1 : Int32} {μ : Mem} {r : Int32} {μ' : Mem} (h : M_text a1 μ = some (r, μ')) : CtI l w yX12_text cX12_text 2 .int 130 [.ref (wad w 12 0), .int a1] μ r μ' :=
  Ct_of (own := "PotBookModel") [some (.ref (wad w 12 0)), some (.int a1)] (by decide +kernel) rfl rfl (Nat.le_of_ble_eq_true rfl) fun p e s m args below meth c G hr => M_text_run G hr h
set_option maxRecDepth 100000 in
set_option maxHeartbeats 4000000 in
theorem M_bounded_run {p : Program} {l : Launch} {e : Env} {R : Room} {s : State} {m : MethodId} {args : Array Value} {below : List Frame} {meth : Method} {c : Code} {w : Wld} (G : Cxt p R s m args meth c w cX12_bounded 2 "PotBookModel" 2 0 0) (hr : meth.sig.returnType = some .int) {a1 : Int64} {μ : Mem} {r : Int32} (h : M_bounded a1 = some r) : Vj p l e R s m args below meth c w 2 0 0 (MQ below (QI w r μ) args s 0 0 w.2.2.2) 0 [some (.long a1), none] [] μ := by
  unfold M_bounded at h
  refine V_ldc2 (v := (-1000000)) G cnJ_X12_305 eX12_bounded_0 ?_
  refine V_ldc2 (v := 1000000) G cnJ_X12_307 eX12_bounded_3 ?_
  refine V_lload_n (i := 0) G eX12_bounded_6 rfl rfl ?_
  refine V_jMinL G mkX12_309 (by decide) (Nat.le_of_ble_eq_true rfl) eX12_bounded_7 ?_
  refine V_jMaxL G mkX12_313 (by decide) (Nat.le_of_ble_eq_true rfl) eX12_bounded_10 ?_
  refine V_l2i G eX12_bounded_13 ?_
  exact V_ri G hr eX12_bounded_14 h
theorem M_bounded_ok {l : Launch} {w : Wld} {a1 : Int64} {μ : Mem} {r : Int32} (h : M_bounded a1 = some r) : CtI l w yX12_bounded cX12_bounded 2 .int 2 [.long a1] μ r μ :=
  Ct_of (own := "PotBookModel") [some (.long a1), none] (by decide +kernel) rfl rfl (Nat.le_of_ble_eq_true rfl) fun p e s m args below meth c G hr => M_bounded_run G hr h
set_option maxRecDepth 100000 in
set_option maxHeartbeats 4000000 in
theorem M_worked_run {p : Program} {l : Launch} {e : Env} {R : Room} {s : State} {m : MethodId} {args : Array Value} {below : List Frame} {meth : Method} {c : Code} {w : Wld} (G : Cxt p R s m args meth c w cX12_worked 5 "PotBookModel" 3 0 0) (hr : meth.sig.returnType = some .int) {a1 : Int32} {a2 : Int64} {a3 : Int64} {μ : Mem} {r : Int32} (h : M_worked a1 a2 a3 = some r) : Vj p l e R s m args below meth c w 5 0 0 (MQ below (QI w r μ) args s 0 0 w.2.2.2) 0 [some (.int a1), some (.long a2), none, some (.long a3), none] [] μ := by
  unfold M_worked at h
  refine V_iload_n (i := 0) G eX12_worked_0 rfl rfl ?_
  obtain ⟨k6, hkk6, h⟩ := kE h
  have Jk6 :  k6 () = some r → Vj p l e R s m args below meth c w 5 0 0 (MQ below (QI w r μ) args s 0 0 w.2.2.2) 144 [none, some (.long a2), none, some (.long a3), none] [] μ := by
    clear h
    intro h
    rw [hkk6] at h
    clear hkk6
    refine V_lload_n (i := 1) G eX12_worked_144 rfl rfl ?_
    refine V_lconst (v := 0) G eX12_worked_145 rfl ?_
    refine V_lcmp G eX12_worked_146 ?_
    refine V_if_ne G eX12_worked_147 h (fun h => ?_) (fun h => ?_)
    · refine V_iconst (n := 1) (v := (nI 1)) G eX12_worked_156 rfl ?_
      refine V_goto G eX12_worked_157 ?_
      exact V_ri G hr eX12_worked_161 h
    · refine V_lload_n (i := 3) G eX12_worked_150 rfl rfl ?_
      refine V_lconst (v := 0) G eX12_worked_151 rfl ?_
      refine V_lcmp G eX12_worked_152 ?_
      refine V_if_eq G eX12_worked_153 h (fun h => ?_) (fun h => ?_)
      · refine V_iconst (n := 0) (v := (nI 0)) G eX12_worked_160 rfl ?_
        exact V_ri G hr eX12_worked_161 h
      · refine V_iconst (n := 1) (v := (nI 1)) G eX12_worked_156 rfl ?_
        refine V_goto G eX12_worked_157 ?_
        exact V_ri G hr eX12_worked_161 h
  by_cases c0 : a1 = (nI 2)
  · rw [if_pos c0] at h
    refine V_tswIn (v := (nI 2)) (off := 51) (tgt := 52) G eX12_worked_1 c0 (by decide) (by decide) rfl rfl ?_
    refine V_lload_n (i := 1) G eX12_worked_52 rfl rfl ?_
    refine V_lload_n (i := 3) G eX12_worked_53 rfl rfl ?_
    refine V_ladd G eX12_worked_54 ?_
    obtain ⟨x1, h1, h⟩ := bdS h
    refine V_callIS (As := [.long (a2 + a3)]) (st := []) G lkX12_315 (M_bounded_ok (μ := μ) h1) (by decide) rfl rfl (Nat.le_of_ble_eq_true rfl) eX12_worked_55 ?_
    exact V_ri G hr eX12_worked_58 h
  · rw [if_neg c0] at h
    by_cases c1 : a1 = (nI 3)
    · rw [if_pos c1] at h
      refine V_tswIn (v := (nI 3)) (off := 58) (tgt := 59) G eX12_worked_1 c1 (by decide) (by decide) rfl rfl ?_
      refine V_lload_n (i := 1) G eX12_worked_59 rfl rfl ?_
      refine V_lload_n (i := 3) G eX12_worked_60 rfl rfl ?_
      refine V_lsub G eX12_worked_61 ?_
      obtain ⟨x2, h1, h⟩ := bdS h
      refine V_callIS (As := [.long (a2 - a3)]) (st := []) G lkX12_315 (M_bounded_ok (μ := μ) h1) (by decide) rfl rfl (Nat.le_of_ble_eq_true rfl) eX12_worked_62 ?_
      exact V_ri G hr eX12_worked_65 h
    · rw [if_neg c1] at h
      by_cases c2 : a1 = (nI 4)
      · rw [if_pos c2] at h
        refine V_tswIn (v := (nI 4)) (off := 65) (tgt := 66) G eX12_worked_1 c2 (by decide) (by decide) rfl rfl ?_
        refine V_lload_n (i := 1) G eX12_worked_66 rfl rfl ?_
        refine V_lload_n (i := 3) G eX12_worked_67 rfl rfl ?_
        refine V_lmul G eX12_worked_68 ?_
        obtain ⟨x3, h1, h⟩ := bdS h
        refine V_callIS (As := [.long (a2 * a3)]) (st := []) G lkX12_315 (M_bounded_ok (μ := μ) h1) (by decide) rfl rfl (Nat.le_of_ble_eq_true rfl) eX12_worked_69 ?_
        exact V_ri G hr eX12_worked_72 h
      · rw [if_neg c2] at h
        by_cases c3 : a1 = (nI 5)
        · rw [if_pos c3] at h
          refine V_tswIn (v := (nI 5)) (off := 72) (tgt := 73) G eX12_worked_1 c3 (by decide) (by decide) rfl rfl ?_
          refine V_lload_n (i := 3) G eX12_worked_73 rfl rfl ?_
          refine V_lconst (v := 0) G eX12_worked_74 rfl ?_
          refine V_lcmp G eX12_worked_75 ?_
          refine V_if_ne G eX12_worked_76 h (fun h => ?_) (fun h => ?_)
          · refine V_lload_n (i := 1) G eX12_worked_83 rfl rfl ?_
            refine V_lload_n (i := 3) G eX12_worked_84 rfl rfl ?_
            refine V_ldiv G eX12_worked_85 h (fun x4 h => ?_)
            obtain ⟨x5, h1, h⟩ := bdS h
            refine V_callIS (As := [.long x4]) (st := []) G lkX12_315 (M_bounded_ok (μ := μ) h1) (by decide) rfl rfl (Nat.le_of_ble_eq_true rfl) eX12_worked_86 ?_
            exact V_ri G hr eX12_worked_89 h
          · refine V_iconst (n := 0) (v := (nI 0)) G eX12_worked_79 rfl ?_
            refine V_goto G eX12_worked_80 ?_
            exact V_ri G hr eX12_worked_89 h
        · rw [if_neg c3] at h
          by_cases c4 : a1 = (nI 6)
          · rw [if_pos c4] at h
            refine V_tswIn (v := (nI 6)) (off := 89) (tgt := 90) G eX12_worked_1 c4 (by decide) (by decide) rfl rfl ?_
            refine V_lload_n (i := 1) G eX12_worked_90 rfl rfl ?_
            refine V_lload_n (i := 3) G eX12_worked_91 rfl rfl ?_
            refine V_lcmp G eX12_worked_92 ?_
            refine V_if_ne G eX12_worked_93 h (fun h => ?_) (fun h => ?_)
            · refine V_iconst (n := 0) (v := (nI 0)) G eX12_worked_100 rfl ?_
              exact V_ri G hr eX12_worked_101 h
            · refine V_iconst (n := 1) (v := (nI 1)) G eX12_worked_96 rfl ?_
              refine V_goto G eX12_worked_97 ?_
              exact V_ri G hr eX12_worked_101 h
          · rw [if_neg c4] at h
            by_cases c5 : a1 = (nI 7)
            · rw [if_pos c5] at h
              refine V_tswIn (v := (nI 7)) (off := 101) (tgt := 102) G eX12_worked_1 c5 (by decide) (by decide) rfl rfl ?_
              refine V_lload_n (i := 1) G eX12_worked_102 rfl rfl ?_
              refine V_lload_n (i := 3) G eX12_worked_103 rfl rfl ?_
              refine V_lcmp G eX12_worked_104 ?_
              refine V_if_ge G eX12_worked_105 h (fun h => ?_) (fun h => ?_)
              · refine V_iconst (n := 0) (v := (nI 0)) G eX12_worked_112 rfl ?_
                exact V_ri G hr eX12_worked_113 h
              · refine V_iconst (n := 1) (v := (nI 1)) G eX12_worked_108 rfl ?_
                refine V_goto G eX12_worked_109 ?_
                exact V_ri G hr eX12_worked_113 h
            · rw [if_neg c5] at h
              by_cases c6 : a1 = (nI 8)
              · rw [if_pos c6] at h
                refine V_tswIn (v := (nI 8)) (off := 113) (tgt := 114) G eX12_worked_1 c6 (by decide) (by decide) rfl rfl ?_
                refine V_lload_n (i := 1) G eX12_worked_114 rfl rfl ?_
                refine V_lload_n (i := 3) G eX12_worked_115 rfl rfl ?_
                refine V_lcmp G eX12_worked_116 ?_
                refine V_if_le G eX12_worked_117 h (fun h => ?_) (fun h => ?_)
                · refine V_iconst (n := 0) (v := (nI 0)) G eX12_worked_124 rfl ?_
                  exact V_ri G hr eX12_worked_125 h
                · refine V_iconst (n := 1) (v := (nI 1)) G eX12_worked_120 rfl ?_
                  refine V_goto G eX12_worked_121 ?_
                  exact V_ri G hr eX12_worked_125 h
              · rw [if_neg c6] at h
                by_cases c7 : a1 = (nI 9)
                · rw [if_pos c7] at h
                  refine V_tswIn (v := (nI 9)) (off := 143) (tgt := 144) G eX12_worked_1 c7 (by decide) (by decide) rfl rfl ?_
                  exact V_sub (lS_n (lS_s (lS_n (lS_s (lS_n lS_0))))) (Jk6 h)
                · rw [if_neg c7] at h
                  by_cases c8 : a1 = (nI 10)
                  · rw [if_pos c8] at h
                    refine V_tswIn (v := (nI 10)) (off := 125) (tgt := 126) G eX12_worked_1 c8 (by decide) (by decide) rfl rfl ?_
                    refine V_lload_n (i := 1) G eX12_worked_126 rfl rfl ?_
                    refine V_lconst (v := 0) G eX12_worked_127 rfl ?_
                    refine V_lcmp G eX12_worked_128 ?_
                    refine V_if_eq G eX12_worked_129 h (fun h => ?_) (fun h => ?_)
                    · refine V_iconst (n := 0) (v := (nI 0)) G eX12_worked_142 rfl ?_
                      exact V_ri G hr eX12_worked_143 h
                    · refine V_lload_n (i := 3) G eX12_worked_132 rfl rfl ?_
                      refine V_lconst (v := 0) G eX12_worked_133 rfl ?_
                      refine V_lcmp G eX12_worked_134 ?_
                      refine V_if_eq G eX12_worked_135 h (fun h => ?_) (fun h => ?_)
                      · refine V_iconst (n := 0) (v := (nI 0)) G eX12_worked_142 rfl ?_
                        exact V_ri G hr eX12_worked_143 h
                      · refine V_iconst (n := 1) (v := (nI 1)) G eX12_worked_138 rfl ?_
                        refine V_goto G eX12_worked_139 ?_
                        exact V_ri G hr eX12_worked_143 h
                  · rw [if_neg c8] at h
                    refine V_tswOut G eX12_worked_1 (fun k h1 h2 q => ?_) (tgt := 144) rfl ?_
                    · rcases (show k = 2 ∨ k = 3 ∨ k = 4 ∨ k = 5 ∨ k = 6 ∨ k = 7 ∨ k = 8 ∨ k = 9 ∨ k = 10 by omega) with rfl | rfl | rfl | rfl | rfl | rfl | rfl | rfl | rfl
                      · exact c0 q
                      · exact c1 q
                      · exact c2 q
                      · exact c3 q
                      · exact c4 q
                      · exact c5 q
                      · exact c6 q
                      · exact c7 q
                      · exact c8 q
                    · exact V_sub (lS_n (lS_s (lS_n (lS_s (lS_n lS_0))))) (Jk6 h)
theorem M_worked_ok {l : Launch} {w : Wld} {a1 : Int32} {a2 : Int64} {a3 : Int64} {μ : Mem} {r : Int32} (h : M_worked a1 a2 a3 = some r) : CtI l w yX12_worked cX12_worked 5 .int 3 [.int a1, .long a2, .long a3] μ r μ :=
  Ct_of (own := "PotBookModel") [some (.int a1), some (.long a2), none, some (.long a3), none] (by decide +kernel) rfl rfl (Nat.le_of_ble_eq_true rfl) fun p e s m args below meth c G hr => M_worked_run G hr h
set_option maxRecDepth 100000 in
set_option maxHeartbeats 4000000 in
theorem M_workOut_l1_ok {p : Program} {l : Launch} {e : Env} {R : Room} {s : State} {m : MethodId} {args : Array Value} {below : List Frame} {meth : Method} {c : Code} {w : Wld} {Q : State → Prop} (G : Cxt p R s m args meth c w cX12_workOut 6 "PotBookModel" 4 0 0) {v1 : Int32} {v3 : Int32} {μo : Mem} : ∀ {n : Nat} {v4 : Int32} {v5 : Int32} {μ : Mem}, M_workOut_l1 v1 v3 n v4 v5 μ = some μo → Vj p l e R s m args below meth c w 6 0 0 Q 171 [some (.ref (wad w 12 0)), none, none, none, none, none] [] μo → Vj p l e R s m args below meth c w 6 0 0 Q 12 [some (.ref (wad w 12 0)), some (.int v1), none, some (.int v3), some (.int v4), some (.int v5)] [] μ := by
  intro n
  induction n with
  | zero => intro v4 v5 μ h K; exact noS h
  | succ n ih =>
    intro v4 v5 μ h K
    replace h : M_workOut_l1b v1 v3 (M_workOut_l1 v1 v3 n) v4 v5 μ = some μo := h
    unfold M_workOut_l1b at h
    refine V_iload G eX12_workOut_12 rfl ?_
    refine V_sipush (n := 260) (v := (nI 260)) G eX12_workOut_14 rfl ?_
    refine V_iload_n (i := 1) G eX12_workOut_17 rfl rfl ?_
    refine V_imul G eX12_workOut_18 ?_
    refine V_iload_n (i := 3) G eX12_workOut_19 rfl rfl ?_
    refine V_iadd G eX12_workOut_20 ?_
    refine V_icmp_ge G eX12_workOut_21 h (fun h => ?_) (fun h => ?_)
    · cases h; exact V_sub (lS_s (lS_n (lS_n (lS_n (lS_n (lS_n lS_0)))))) K
    · refine V_aload_n (i := 0) G eX12_workOut_24 rfl rfl ?_
      refine V_get (v := .ref (wad w 1323 0)) G fgX12_59 rfl eX12_workOut_25 ?_
      refine V_iload G eX12_workOut_28 rfl ?_
      refine V_iald G al_1323 (by decide) eX12_workOut_30 h (fun x1 h => ?_)
      obtain ⟨⟨x26, μ27⟩, hj, h⟩ := bdS h
      have J : Vj p l e R s m args below meth c w 6 0 0 Q 165 [some (.ref (wad w 12 0)), some (.int v1), none, some (.int v3), some (.int x26), some (.int v5)] [] μ27 := by
        clear hj
        refine V_iinc (z := (nI 1)) (L' := (fun x28 => [some (.ref (wad w 12 0)), some (.int v1), none, some (.int v3), some (.int x26), some (.int x28)])) G eX12_workOut_165 rfl rfl (by decide) rfl (fun _ => rfl) h (fun x28 h => ?_)
        refine V_goto G eX12_workOut_168 ?_
        exact (ih h K)
      replace h := hj
      clear hj
      refine V_if_eq G eX12_workOut_31 h (fun h => ?_) (fun h => ?_)
      · refine V_aload_n (i := 0) G eX12_workOut_45 rfl rfl ?_
        refine V_get (v := .ref (wad w 1333 0)) G fgX12_83 rfl eX12_workOut_46 ?_
        refine V_iload G eX12_workOut_49 rfl ?_
        refine V_aload_n (i := 0) G eX12_workOut_51 rfl rfl ?_
        refine V_get (v := .ref (wad w 1323 0)) G fgX12_59 rfl eX12_workOut_52 ?_
        refine V_iload G eX12_workOut_55 rfl ?_
        refine V_iald G al_1323 (by decide) eX12_workOut_57 h (fun x2 h => ?_)
        obtain ⟨x6, hj, h⟩ := bdS h
        have J : Vj p l e R s m args below meth c w 6 0 0 Q 83 [some (.ref (wad w 12 0)), some (.int v1), none, some (.int v3), some (.int v4), some (.int v5)] [.int x6, .int v4, .ref (wad w 1333 0)] μ := by
          clear hj
          refine V_iast G al_1333 (by decide) eX12_workOut_83 h (fun μ7 h => ?_)
          refine V_iinc (z := (nI 1)) (L' := (fun x8 => [some (.ref (wad w 12 0)), some (.int v1), none, some (.int v3), some (.int x8), some (.int v5)])) G eX12_workOut_84 rfl rfl (by decide) rfl (fun _ => rfl) h (fun x8 h => ?_)
          refine V_goto G eX12_workOut_87 ?_
          cases h; exact J
        replace h := hj
        clear hj
        refine V_if_ne G eX12_workOut_58 h (fun h => ?_) (fun h => ?_)
        · refine V_aload_n (i := 0) G eX12_workOut_71 rfl rfl ?_
          refine V_get (v := .ref (wad w 1332 0)) G fgX12_80 rfl eX12_workOut_72 ?_
          refine V_aload_n (i := 0) G eX12_workOut_75 rfl rfl ?_
          refine V_get (v := .ref (wad w 1324 0)) G fgX12_62 rfl eX12_workOut_76 ?_
          refine V_iload G eX12_workOut_79 rfl ?_
          refine V_iald G al_1324 (by decide) eX12_workOut_81 h (fun x3 h => ?_)
          refine V_iald G al_1332 (by decide) eX12_workOut_82 h (fun x4 h => ?_)
          cases h; exact J
        · refine V_aload_n (i := 0) G eX12_workOut_61 rfl rfl ?_
          refine V_get (v := .ref (wad w 1324 0)) G fgX12_62 rfl eX12_workOut_62 ?_
          refine V_iload G eX12_workOut_65 rfl ?_
          refine V_iald G al_1324 (by decide) eX12_workOut_67 h (fun x5 h => ?_)
          refine V_goto G eX12_workOut_68 ?_
          cases h; exact J
      · refine V_aload_n (i := 0) G eX12_workOut_34 rfl rfl ?_
        refine V_get (v := .ref (wad w 1323 0)) G fgX12_59 rfl eX12_workOut_35 ?_
        refine V_iload G eX12_workOut_38 rfl ?_
        refine V_iald G al_1323 (by decide) eX12_workOut_40 h (fun x9 h => ?_)
        refine V_iconst (n := 1) (v := (nI 1)) G eX12_workOut_41 rfl ?_
        refine V_icmp_ne G eX12_workOut_42 h (fun h => ?_) (fun h => ?_)
        · refine V_aload_n (i := 0) G eX12_workOut_90 rfl rfl ?_
          refine V_get (v := .ref (wad w 1323 0)) G fgX12_59 rfl eX12_workOut_91 ?_
          refine V_iload G eX12_workOut_94 rfl ?_
          refine V_iald G al_1323 (by decide) eX12_workOut_96 h (fun x10 h => ?_)
          refine V_bipush (n := 9) (v := (nI 9)) G eX12_workOut_97 rfl ?_
          refine V_icmp_ne G eX12_workOut_99 h (fun h => ?_) (fun h => ?_)
          · refine V_iinc (z := (-1)) (L' := (fun x11 => [some (.ref (wad w 12 0)), some (.int v1), none, some (.int v3), some (.int x11), some (.int v5)])) G eX12_workOut_125 rfl rfl (by decide) rfl (fun _ => rfl) h (fun x11 h => ?_)
            refine V_aload_n (i := 0) G eX12_workOut_128 rfl rfl ?_
            refine V_get (v := .ref (wad w 1333 0)) G fgX12_83 rfl eX12_workOut_129 ?_
            refine V_iload G eX12_workOut_132 rfl ?_
            refine V_iconst (n := 1) (v := (nI 1)) G eX12_workOut_134 rfl ?_
            refine V_isub G eX12_workOut_135 ?_
            refine V_aload_n (i := 0) G eX12_workOut_136 rfl rfl ?_
            refine V_get (v := .ref (wad w 1323 0)) G fgX12_59 rfl eX12_workOut_137 ?_
            refine V_iload G eX12_workOut_140 rfl ?_
            refine V_iald G al_1323 (by decide) eX12_workOut_142 h (fun x12 h => ?_)
            refine V_aload_n (i := 0) G eX12_workOut_143 rfl rfl ?_
            refine V_get (v := .ref (wad w 1333 0)) G fgX12_83 rfl eX12_workOut_144 ?_
            refine V_iload G eX12_workOut_147 rfl ?_
            refine V_iconst (n := 1) (v := (nI 1)) G eX12_workOut_149 rfl ?_
            refine V_isub G eX12_workOut_150 ?_
            refine V_iald G al_1333 (by decide) eX12_workOut_151 h (fun x13 h => ?_)
            refine V_i2l G eX12_workOut_152 ?_
            refine V_aload_n (i := 0) G eX12_workOut_153 rfl rfl ?_
            refine V_get (v := .ref (wad w 1333 0)) G fgX12_83 rfl eX12_workOut_154 ?_
            refine V_iload G eX12_workOut_157 rfl ?_
            refine V_iald G al_1333 (by decide) eX12_workOut_159 h (fun x14 h => ?_)
            refine V_i2l G eX12_workOut_160 ?_
            obtain ⟨x15, h1, h⟩ := bdS h
            refine V_callIS (As := [.int x12, .long (x13.toInt64), .long (x14.toInt64)]) (st := [.int (x11 - (nI 1)), .ref (wad w 1333 0)]) G lkX12_319 (M_worked_ok (μ := μ) h1) (by decide) rfl rfl (Nat.le_of_ble_eq_true rfl) eX12_workOut_161 ?_
            refine V_iast G al_1333 (by decide) eX12_workOut_164 h (fun μ16 h => ?_)
            cases h; exact J
          · refine V_aload_n (i := 0) G eX12_workOut_102 rfl rfl ?_
            refine V_get (v := .ref (wad w 1333 0)) G fgX12_83 rfl eX12_workOut_103 ?_
            refine V_iload G eX12_workOut_106 rfl ?_
            refine V_iconst (n := 1) (v := (nI 1)) G eX12_workOut_108 rfl ?_
            refine V_isub G eX12_workOut_109 ?_
            refine V_iconst (n := 1) (v := (nI 1)) G eX12_workOut_110 rfl ?_
            refine V_aload_n (i := 0) G eX12_workOut_111 rfl rfl ?_
            refine V_get (v := .ref (wad w 1333 0)) G fgX12_83 rfl eX12_workOut_112 ?_
            refine V_iload G eX12_workOut_115 rfl ?_
            refine V_iconst (n := 1) (v := (nI 1)) G eX12_workOut_117 rfl ?_
            refine V_isub G eX12_workOut_118 ?_
            refine V_iald G al_1333 (by decide) eX12_workOut_119 h (fun x17 h => ?_)
            refine V_isub G eX12_workOut_120 ?_
            refine V_iast G al_1333 (by decide) eX12_workOut_121 h (fun μ18 h => ?_)
            refine V_goto G eX12_workOut_122 ?_
            cases h; exact J
        · refine V_aload_n (i := 0) G eX12_workOut_45 rfl rfl ?_
          refine V_get (v := .ref (wad w 1333 0)) G fgX12_83 rfl eX12_workOut_46 ?_
          refine V_iload G eX12_workOut_49 rfl ?_
          refine V_aload_n (i := 0) G eX12_workOut_51 rfl rfl ?_
          refine V_get (v := .ref (wad w 1323 0)) G fgX12_59 rfl eX12_workOut_52 ?_
          refine V_iload G eX12_workOut_55 rfl ?_
          refine V_iald G al_1323 (by decide) eX12_workOut_57 h (fun x19 h => ?_)
          obtain ⟨x23, hj, h⟩ := bdS h
          have J : Vj p l e R s m args below meth c w 6 0 0 Q 83 [some (.ref (wad w 12 0)), some (.int v1), none, some (.int v3), some (.int v4), some (.int v5)] [.int x23, .int v4, .ref (wad w 1333 0)] μ := by
            clear hj
            refine V_iast G al_1333 (by decide) eX12_workOut_83 h (fun μ24 h => ?_)
            refine V_iinc (z := (nI 1)) (L' := (fun x25 => [some (.ref (wad w 12 0)), some (.int v1), none, some (.int v3), some (.int x25), some (.int v5)])) G eX12_workOut_84 rfl rfl (by decide) rfl (fun _ => rfl) h (fun x25 h => ?_)
            refine V_goto G eX12_workOut_87 ?_
            cases h; exact J
          replace h := hj
          clear hj
          refine V_if_ne G eX12_workOut_58 h (fun h => ?_) (fun h => ?_)
          · refine V_aload_n (i := 0) G eX12_workOut_71 rfl rfl ?_
            refine V_get (v := .ref (wad w 1332 0)) G fgX12_80 rfl eX12_workOut_72 ?_
            refine V_aload_n (i := 0) G eX12_workOut_75 rfl rfl ?_
            refine V_get (v := .ref (wad w 1324 0)) G fgX12_62 rfl eX12_workOut_76 ?_
            refine V_iload G eX12_workOut_79 rfl ?_
            refine V_iald G al_1324 (by decide) eX12_workOut_81 h (fun x20 h => ?_)
            refine V_iald G al_1332 (by decide) eX12_workOut_82 h (fun x21 h => ?_)
            cases h; exact J
          · refine V_aload_n (i := 0) G eX12_workOut_61 rfl rfl ?_
            refine V_get (v := .ref (wad w 1324 0)) G fgX12_62 rfl eX12_workOut_62 ?_
            refine V_iload G eX12_workOut_65 rfl ?_
            refine V_iald G al_1324 (by decide) eX12_workOut_67 h (fun x22 h => ?_)
            refine V_goto G eX12_workOut_68 ?_
            cases h; exact J
set_option maxRecDepth 100000 in
set_option maxHeartbeats 4000000 in
theorem M_workOut_run {p : Program} {l : Launch} {e : Env} {R : Room} {s : State} {m : MethodId} {args : Array Value} {below : List Frame} {meth : Method} {c : Code} {w : Wld} (G : Cxt p R s m args meth c w cX12_workOut 6 "PotBookModel" 4 0 0) (hr : meth.sig.returnType = some .int) {a1 : Int32} {a2 : Int32} {a3 : Int32} {μ : Mem} {r : Int32} {μ' : Mem} (h : M_workOut a1 a2 a3 μ = some (r, μ')) : Vj p l e R s m args below meth c w 6 0 0 (MQ below (QI w r μ') args s 0 0 w.2.2.2) 0 [some (.ref (wad w 12 0)), some (.int a1), some (.int a2), some (.int a3), none, none] [] μ := by
  unfold M_workOut at h
  refine V_iconst (n := 0) (v := (nI 0)) G eX12_workOut_0 rfl ?_
  refine V_istoreA (i := 4) (L' := [some (.ref (wad w 12 0)), some (.int a1), some (.int a2), some (.int a3), some (.int (nI 0)), none]) G eX12_workOut_1 (by decide) rfl rfl ?_
  refine V_sipush (n := 260) (v := (nI 260)) G eX12_workOut_3 rfl ?_
  refine V_iload_n (i := 1) G eX12_workOut_6 rfl rfl ?_
  refine V_imul G eX12_workOut_7 ?_
  refine V_iload_n (i := 2) G eX12_workOut_8 rfl rfl ?_
  refine V_iadd G eX12_workOut_9 ?_
  refine V_istore (i := 5) (L' := (fun x1 => [some (.ref (wad w 12 0)), some (.int a1), some (.int a2), some (.int a3), some (.int (nI 0)), some (.int x1)])) G eX12_workOut_10 (by decide) rfl (fun _ => rfl) h (fun x1 h => ?_)
  obtain ⟨μ2, h1, h⟩ := bdS h
  refine V_sub (lS_s (lS_s (lS_n (lS_s (lS_s (lS_s lS_0)))))) ?_
  refine M_workOut_l1_ok G h1 ?_
  refine V_aload_n (i := 0) G eX12_workOut_171 rfl rfl ?_
  refine V_get (v := .ref (wad w 1333 0)) G fgX12_83 rfl eX12_workOut_172 ?_
  refine V_iconst (n := 0) (v := (nI 0)) G eX12_workOut_175 rfl ?_
  refine V_iald G al_1333 (by decide) eX12_workOut_176 h (fun x3 h => ?_)
  exact V_riM G hr eX12_workOut_177 h
theorem M_workOut_ok {l : Launch} {w : Wld} {a1 : Int32} {a2 : Int32} {a3 : Int32} {μ : Mem} {r : Int32} {μ' : Mem} (h : M_workOut a1 a2 a3 μ = some (r, μ')) : CtI l w yX12_workOut cX12_workOut 6 .int 4 [.ref (wad w 12 0), .int a1, .int a2, .int a3] μ r μ' :=
  Ct_of (own := "PotBookModel") [some (.ref (wad w 12 0)), some (.int a1), some (.int a2), some (.int a3), none, none] (by decide +kernel) rfl rfl (Nat.le_of_ble_eq_true rfl) fun p e s m args below meth c G hr => M_workOut_run G hr h
set_option maxRecDepth 100000 in
set_option maxHeartbeats 4000000 in
theorem M_worthNow_l1_ok {p : Program} {l : Launch} {e : Env} {R : Room} {s : State} {m : MethodId} {args : Array Value} {below : List Frame} {meth : Method} {c : Code} {w : Wld} (G : Cxt p R s m args meth c w cX12_worthNow 3 "PotBookModel" 5 0 0) (hr : meth.sig.returnType = some .int) {v1 : Int32} {r : Int32} {μ' : Mem} : ∀ {n : Nat} {v2 : Int32} {μ : Mem}, M_worthNow_l1 v1 n v2 μ = some (r, μ') → Vj p l e R s m args below meth c w 3 0 0 (MQ below (QI w r μ') args s 0 0 w.2.2.2) 5 [some (.ref (wad w 12 0)), some (.int v1), some (.int v2)] [] μ := by
  intro n
  induction n with
  | zero => intro v2 μ h; exact noS h
  | succ n ih =>
    intro v2 μ h
    replace h : M_worthNow_l1b v1 (M_worthNow_l1 v1 n) v2 μ = some (r, μ') := h
    unfold M_worthNow_l1b at h
    refine V_iload_n (i := 2) G eX12_worthNow_5 rfl rfl ?_
    refine V_bipush (n := 60) (v := (nI 60)) G eX12_worthNow_6 rfl ?_
    refine V_iload_n (i := 1) G eX12_worthNow_8 rfl rfl ?_
    refine V_imul G eX12_worthNow_9 ?_
    refine V_aload_n (i := 0) G eX12_worthNow_10 rfl rfl ?_
    refine V_get (v := .ref (wad w 1326 0)) G fgX12_68 rfl eX12_worthNow_11 ?_
    refine V_iload_n (i := 1) G eX12_worthNow_14 rfl rfl ?_
    refine V_iald G al_1326 (by decide) eX12_worthNow_15 h (fun x1 h => ?_)
    refine V_iadd G eX12_worthNow_16 ?_
    refine V_icmp_ge G eX12_worthNow_17 h (fun h => ?_) (fun h => ?_)
    · refine V_iconst (n := 0) (v := (nI 0)) G eX12_worthNow_79 rfl ?_
      exact V_riM G hr eX12_worthNow_80 h
    · refine V_aload_n (i := 0) G eX12_worthNow_20 rfl rfl ?_
      refine V_get (v := .ref (wad w 1327 0)) G fgX12_71 rfl eX12_worthNow_21 ?_
      refine V_iload_n (i := 2) G eX12_worthNow_24 rfl rfl ?_
      refine V_iald G al_1327 (by decide) eX12_worthNow_25 h (fun x2 h => ?_)
      refine V_aload_n (i := 0) G eX12_worthNow_26 rfl rfl ?_
      refine V_get (v := .ref (wad w 1328 0)) G fgX12_74 rfl eX12_worthNow_27 ?_
      refine V_iload_n (i := 2) G eX12_worthNow_30 rfl rfl ?_
      refine V_iald G al_1328 (by decide) eX12_worthNow_31 h (fun x3 h => ?_)
      obtain ⟨k10, hkk10, h⟩ := kE h
      have Jk10 : ∀ (μ9 : Mem), k10 μ9 = some (r, μ') → Vj p l e R s m args below meth c w 3 0 0 (MQ below (QI w r μ') args s 0 0 w.2.2.2) 55 [some (.ref (wad w 12 0)), some (.int v1), some (.int v2)] [] μ9 := by
        clear h
        intro μ9 h
        rw [hkk10] at h
        clear hkk10
        refine V_aload_n (i := 0) G eX12_worthNow_55 rfl rfl ?_
        refine V_iload_n (i := 1) G eX12_worthNow_56 rfl rfl ?_
        refine V_aload_n (i := 0) G eX12_worthNow_57 rfl rfl ?_
        refine V_get (v := .ref (wad w 1328 0)) G fgX12_74 rfl eX12_worthNow_58 ?_
        refine V_iload_n (i := 2) G eX12_worthNow_61 rfl rfl ?_
        refine V_iald G al_1328 (by decide) eX12_worthNow_62 h (fun x11 h => ?_)
        refine V_aload_n (i := 0) G eX12_worthNow_63 rfl rfl ?_
        refine V_get (v := .ref (wad w 1329 0)) G fgX12_77 rfl eX12_worthNow_64 ?_
        refine V_iload_n (i := 2) G eX12_worthNow_67 rfl rfl ?_
        refine V_iald G al_1329 (by decide) eX12_worthNow_68 h (fun x12 h => ?_)
        obtain ⟨⟨x13, μ14⟩, h1, h⟩ := bdS h
        refine V_callI (As := [.int v1, .int x11, .int x12]) (st := []) G lkX12_323 (M_workOut_ok h1) (by decide) rfl rfl (Nat.le_of_ble_eq_true rfl) eX12_worthNow_69 ?_
        exact V_riM G hr eX12_worthNow_72 h
      refine V_icmp_eq G eX12_worthNow_32 h (fun h => ?_) (fun h => ?_)
      · exact (Jk10 _ h)
      · refine V_aload_n (i := 0) G eX12_worthNow_35 rfl rfl ?_
        refine V_iload_n (i := 1) G eX12_worthNow_36 rfl rfl ?_
        refine V_aload_n (i := 0) G eX12_worthNow_37 rfl rfl ?_
        refine V_get (v := .ref (wad w 1327 0)) G fgX12_71 rfl eX12_worthNow_38 ?_
        refine V_iload_n (i := 2) G eX12_worthNow_41 rfl rfl ?_
        refine V_iald G al_1327 (by decide) eX12_worthNow_42 h (fun x4 h => ?_)
        refine V_aload_n (i := 0) G eX12_worthNow_43 rfl rfl ?_
        refine V_get (v := .ref (wad w 1328 0)) G fgX12_74 rfl eX12_worthNow_44 ?_
        refine V_iload_n (i := 2) G eX12_worthNow_47 rfl rfl ?_
        refine V_iald G al_1328 (by decide) eX12_worthNow_48 h (fun x5 h => ?_)
        obtain ⟨⟨x6, μ7⟩, h1, h⟩ := bdS h
        refine V_callI (As := [.int v1, .int x4, .int x5]) (st := []) G lkX12_323 (M_workOut_ok h1) (by decide) rfl rfl (Nat.le_of_ble_eq_true rfl) eX12_worthNow_49 ?_
        refine V_if_eq G eX12_worthNow_52 h (fun h => ?_) (fun h => ?_)
        · refine V_iinc (z := (nI 1)) (L' := (fun x8 => [some (.ref (wad w 12 0)), some (.int v1), some (.int x8)])) G eX12_worthNow_73 rfl rfl (by decide) rfl (fun _ => rfl) h (fun x8 h => ?_)
          refine V_goto G eX12_worthNow_76 ?_
          exact (ih h)
        · exact (Jk10 _ h)
set_option maxRecDepth 100000 in
set_option maxHeartbeats 4000000 in
theorem M_worthNow_run {p : Program} {l : Launch} {e : Env} {R : Room} {s : State} {m : MethodId} {args : Array Value} {below : List Frame} {meth : Method} {c : Code} {w : Wld} (G : Cxt p R s m args meth c w cX12_worthNow 3 "PotBookModel" 5 0 0) (hr : meth.sig.returnType = some .int) {a1 : Int32} {μ : Mem} {r : Int32} {μ' : Mem} (h : M_worthNow a1 μ = some (r, μ')) : Vj p l e R s m args below meth c w 3 0 0 (MQ below (QI w r μ') args s 0 0 w.2.2.2) 0 [some (.ref (wad w 12 0)), some (.int a1), none] [] μ := by
  unfold M_worthNow at h
  refine V_bipush (n := 60) (v := (nI 60)) G eX12_worthNow_0 rfl ?_
  refine V_iload_n (i := 1) G eX12_worthNow_2 rfl rfl ?_
  refine V_imul G eX12_worthNow_3 ?_
  refine V_istore_n (i := 2) (L' := (fun x1 => [some (.ref (wad w 12 0)), some (.int a1), some (.int x1)])) G rfl eX12_worthNow_4 (by decide) rfl (fun _ => rfl) h (fun x1 h => ?_)
  exact M_worthNow_l1_ok G hr h
theorem M_worthNow_ok {l : Launch} {w : Wld} {a1 : Int32} {μ : Mem} {r : Int32} {μ' : Mem} (h : M_worthNow a1 μ = some (r, μ')) : CtI l w yX12_worthNow cX12_worthNow 3 .int 5 [.ref (wad w 12 0), .int a1] μ r μ' :=
  Ct_of (own := "PotBookModel") [some (.ref (wad w 12 0)), some (.int a1), none] (by decide +kernel) rfl rfl (Nat.le_of_ble_eq_true rfl) fun p e s m args below meth c G hr => M_worthNow_run G hr h
set_option maxRecDepth 100000 in
set_option maxHeartbeats 4000000 in
theorem M_isPage_run {p : Program} {l : Launch} {e : Env} {R : Room} {s : State} {m : MethodId} {args : Array Value} {below : List Frame} {meth : Method} {c : Code} {w : Wld} (G : Cxt p R s m args meth c w cX12_isPage 2 "PotBookModel" 2 0 0) (hr : meth.sig.returnType = some .boolean) {a1 : Int32} {μ : Mem} {r : Int32} (h : M_isPage a1 μ = some r) : Vj p l e R s m args below meth c w 2 0 0 (MQ below (QI w r μ) args s 0 0 w.2.2.2) 0 [some (.ref (wad w 12 0)), some (.int a1)] [] μ := by
  unfold M_isPage at h
  refine V_iload_n (i := 1) G eX12_isPage_0 rfl rfl ?_
  refine V_iconst (n := 0) (v := (nI 0)) G eX12_isPage_1 rfl ?_
  refine V_aload_n (i := 0) G eX12_isPage_2 rfl rfl ?_
  refine V_get (v := .int (mI μ 1322 0 0)) G fgX12_299 rfl eX12_isPage_3 ?_
  refine V_iconst (n := 1) (v := (nI 1)) G eX12_isPage_6 rfl ?_
  refine V_isub G eX12_isPage_7 ?_
  obtain ⟨x1, h1, h⟩ := bdS h
  refine V_callIS (As := [.int a1, .int (nI 0), .int ((mI μ 1322 0 0) - (nI 1))]) (st := []) G lkX12_198 (M_in_ok (μ := μ) h1) (by decide) rfl rfl (Nat.le_of_ble_eq_true rfl) eX12_isPage_8 ?_
  exact V_rz G hr eX12_isPage_11 h
theorem M_isPage_ok {l : Launch} {w : Wld} {a1 : Int32} {μ : Mem} {r : Int32} (h : M_isPage a1 μ = some r) : CtI l w yX12_isPage cX12_isPage 2 .boolean 2 [.ref (wad w 12 0), .int a1] μ r μ :=
  Ct_of (own := "PotBookModel") [some (.ref (wad w 12 0)), some (.int a1)] (by decide +kernel) rfl rfl (Nat.le_of_ble_eq_true rfl) fun p e s m args below meth c G hr => M_isPage_run G hr h
set_option maxRecDepth 100000 in
set_option maxHeartbeats 4000000 in
theorem M_isLaw_run {p : Program} {l : Launch} {e : Env} {R : Room} {s : State} {m : MethodId} {args : Array Value} {below : List Frame} {meth : Method} {c : Code} {w : Wld} (G : Cxt p R s m args meth c w cX12_isLaw 2 "PotBookModel" 2 0 0) (hr : meth.sig.returnType = some .boolean) {a1 : Int32} {μ : Mem} {r : Int32} (h : M_isLaw a1 μ = some r) : Vj p l e R s m args below meth c w 2 0 0 (MQ below (QI w r μ) args s 0 0 w.2.2.2) 0 [some (.ref (wad w 12 0)), some (.int a1)] [] μ := by
  unfold M_isLaw at h
  refine V_iload_n (i := 1) G eX12_isLaw_0 rfl rfl ?_
  refine V_iconst (n := 0) (v := (nI 0)) G eX12_isLaw_1 rfl ?_
  refine V_aload_n (i := 0) G eX12_isLaw_2 rfl rfl ?_
  refine V_get (v := .int (mI μ 1330 0 0)) G fgX12_302 rfl eX12_isLaw_3 ?_
  refine V_iconst (n := 1) (v := (nI 1)) G eX12_isLaw_6 rfl ?_
  refine V_isub G eX12_isLaw_7 ?_
  obtain ⟨x1, h1, h⟩ := bdS h
  refine V_callIS (As := [.int a1, .int (nI 0), .int ((mI μ 1330 0 0) - (nI 1))]) (st := []) G lkX12_198 (M_in_ok (μ := μ) h1) (by decide) rfl rfl (Nat.le_of_ble_eq_true rfl) eX12_isLaw_8 ?_
  exact V_rz G hr eX12_isLaw_11 h
theorem M_isLaw_ok {l : Launch} {w : Wld} {a1 : Int32} {μ : Mem} {r : Int32} (h : M_isLaw a1 μ = some r) : CtI l w yX12_isLaw cX12_isLaw 2 .boolean 2 [.ref (wad w 12 0), .int a1] μ r μ :=
  Ct_of (own := "PotBookModel") [some (.ref (wad w 12 0)), some (.int a1)] (by decide +kernel) rfl rfl (Nat.le_of_ble_eq_true rfl) fun p e s m args below meth c G hr => M_isLaw_run G hr h
set_option maxRecDepth 100000 in
set_option maxHeartbeats 4000000 in
theorem M_bits_run {p : Program} {l : Launch} {e : Env} {R : Room} {s : State} {m : MethodId} {args : Array Value} {below : List Frame} {meth : Method} {c : Code} {w : Wld} (G : Cxt p R s m args meth c w cX12_bits 1 "PotBookModel" 2 0 0) (hr : meth.sig.returnType = some .int) {a1 : Int32} {μ : Mem} {r : Int32} (h : M_bits a1 = some r) : Vj p l e R s m args below meth c w 1 0 0 (MQ below (QI w r μ) args s 0 0 w.2.2.2) 0 [some (.int a1)] [] μ := by
  unfold M_bits at h
  refine V_iload_n (i := 0) G eX12_bits_0 rfl rfl ?_
  obtain ⟨x1, h1, h⟩ := bdS h
  refine V_callIS (As := [.int a1]) (st := []) G lkX12_327 (J_bitCount_ok (μ := μ) h1) (by decide) rfl rfl (Nat.le_of_ble_eq_true rfl) eX12_bits_1 ?_
  exact V_ri G hr eX12_bits_4 h
theorem M_bits_ok {l : Launch} {w : Wld} {a1 : Int32} {μ : Mem} {r : Int32} (h : M_bits a1 = some r) : CtI l w yX12_bits cX12_bits 1 .int 2 [.int a1] μ r μ :=
  Ct_of (own := "PotBookModel") [some (.int a1)] (by decide +kernel) rfl rfl (Nat.le_of_ble_eq_true rfl) fun p e s m args below meth c G hr => M_bits_run G hr h
set_option maxRecDepth 100000 in
set_option maxHeartbeats 4000000 in
theorem M_thingsOf_l1_ok {p : Program} {l : Launch} {e : Env} {R : Room} {s : State} {m : MethodId} {args : Array Value} {below : List Frame} {meth : Method} {c : Code} {w : Wld} {Q : State → Prop} (G : Cxt p R s m args meth c w cX12_thingsOf 4 "PotBookModel" 1 0 0) {v1 : Int32} {μ : Mem} {o1 : Int32} : ∀ {n : Nat} {v2 : Int32} {v3 : Int32}, M_thingsOf_l1 v1 μ n v2 v3 = some o1 → Vj p l e R s m args below meth c w 4 0 0 Q 36 [none, none, some (.int o1), none] [] μ → Vj p l e R s m args below meth c w 4 0 0 Q 4 [some (.ref (wad w 12 0)), some (.int v1), some (.int v2), some (.int v3)] [] μ := by
  intro n
  induction n with
  | zero => intro v2 v3 h K; exact noS h
  | succ n ih =>
    intro v2 v3 h K
    replace h : M_thingsOf_l1b v1 μ (M_thingsOf_l1 v1 μ n) v2 v3 = some o1 := h
    unfold M_thingsOf_l1b at h
    refine V_iload_n (i := 3) G eX12_thingsOf_4 rfl rfl ?_
    refine V_aload_n (i := 0) G eX12_thingsOf_5 rfl rfl ?_
    refine V_get (v := .ref (wad w 1315 0)) G fgX12_38 rfl eX12_thingsOf_6 ?_
    refine V_iload_n (i := 1) G eX12_thingsOf_9 rfl rfl ?_
    refine V_iald G al_1315 (by decide) eX12_thingsOf_10 h (fun x1 h => ?_)
    refine V_icmp_ge G eX12_thingsOf_11 h (fun h => ?_) (fun h => ?_)
    · cases h; exact V_sub (lS_n (lS_n (lS_s (lS_n lS_0)))) K
    · refine V_iload_n (i := 2) G eX12_thingsOf_14 rfl rfl ?_
      refine V_iconst (n := 1) (v := (nI 1)) G eX12_thingsOf_15 rfl ?_
      refine V_aload_n (i := 0) G eX12_thingsOf_16 rfl rfl ?_
      refine V_get (v := .ref (wad w 1316 0)) G fgX12_41 rfl eX12_thingsOf_17 ?_
      refine V_bipush (n := 8) (v := (nI 8)) G eX12_thingsOf_20 rfl ?_
      refine V_iload_n (i := 1) G eX12_thingsOf_22 rfl rfl ?_
      refine V_imul G eX12_thingsOf_23 ?_
      refine V_iload_n (i := 3) G eX12_thingsOf_24 rfl rfl ?_
      refine V_iadd G eX12_thingsOf_25 ?_
      refine V_iald G al_1316 (by decide) eX12_thingsOf_26 h (fun x2 h => ?_)
      refine V_ishl G eX12_thingsOf_27 ?_
      refine V_ior G eX12_thingsOf_28 ?_
      refine V_istore_n (i := 2) (L' := (fun x3 => [some (.ref (wad w 12 0)), some (.int v1), some (.int x3), some (.int v3)])) G rfl eX12_thingsOf_29 (by decide) rfl (fun _ => rfl) h (fun x3 h => ?_)
      refine V_iinc (z := (nI 1)) (L' := (fun x4 => [some (.ref (wad w 12 0)), some (.int v1), some (.int x3), some (.int x4)])) G eX12_thingsOf_30 rfl rfl (by decide) rfl (fun _ => rfl) h (fun x4 h => ?_)
      refine V_goto G eX12_thingsOf_33 ?_
      exact (ih h K)
set_option maxRecDepth 100000 in
set_option maxHeartbeats 4000000 in
theorem M_thingsOf_run {p : Program} {l : Launch} {e : Env} {R : Room} {s : State} {m : MethodId} {args : Array Value} {below : List Frame} {meth : Method} {c : Code} {w : Wld} (G : Cxt p R s m args meth c w cX12_thingsOf 4 "PotBookModel" 1 0 0) (hr : meth.sig.returnType = some .int) {a1 : Int32} {μ : Mem} {r : Int32} (h : M_thingsOf a1 μ = some r) : Vj p l e R s m args below meth c w 4 0 0 (MQ below (QI w r μ) args s 0 0 w.2.2.2) 0 [some (.ref (wad w 12 0)), some (.int a1), none, none] [] μ := by
  unfold M_thingsOf at h
  refine V_iconst (n := 0) (v := (nI 0)) G eX12_thingsOf_0 rfl ?_
  refine V_istoreA_n (i := 2) (L' := [some (.ref (wad w 12 0)), some (.int a1), some (.int (nI 0)), none]) G rfl eX12_thingsOf_1 (by decide) rfl rfl ?_
  refine V_iconst (n := 0) (v := (nI 0)) G eX12_thingsOf_2 rfl ?_
  refine V_istoreA_n (i := 3) (L' := [some (.ref (wad w 12 0)), some (.int a1), some (.int (nI 0)), some (.int (nI 0))]) G rfl eX12_thingsOf_3 (by decide) rfl rfl ?_
  obtain ⟨x1, h1, h⟩ := bdS h
  refine M_thingsOf_l1_ok G h1 ?_
  refine V_iload_n (i := 2) G eX12_thingsOf_36 rfl rfl ?_
  exact V_ri G hr eX12_thingsOf_37 h
theorem M_thingsOf_ok {l : Launch} {w : Wld} {a1 : Int32} {μ : Mem} {r : Int32} (h : M_thingsOf a1 μ = some r) : CtI l w yX12_thingsOf cX12_thingsOf 4 .int 1 [.ref (wad w 12 0), .int a1] μ r μ :=
  Ct_of (own := "PotBookModel") [some (.ref (wad w 12 0)), some (.int a1), none, none] (by decide +kernel) rfl rfl (Nat.le_of_ble_eq_true rfl) fun p e s m args below meth c G hr => M_thingsOf_run G hr h
set_option maxRecDepth 100000 in
set_option maxHeartbeats 4000000 in
theorem M_leftOut_l1_ok {p : Program} {l : Launch} {e : Env} {R : Room} {s : State} {m : MethodId} {args : Array Value} {below : List Frame} {meth : Method} {c : Code} {w : Wld} {Q : State → Prop} (G : Cxt p R s m args meth c w cX12_leftOut 4 "PotBookModel" 1 0 0) {v1 : Int32} {μ : Mem} {o1 : Int32} : ∀ {n : Nat} {v2 : Int32} {v3 : Int32}, M_leftOut_l1 v1 μ n v2 v3 = some o1 → Vj p l e R s m args below meth c w 4 0 0 Q 54 [none, none, some (.int o1), none] [] μ → Vj p l e R s m args below meth c w 4 0 0 Q 4 [some (.ref (wad w 12 0)), some (.int v1), some (.int v2), some (.int v3)] [] μ := by
  intro n
  induction n with
  | zero => intro v2 v3 h K; exact noS h
  | succ n ih =>
    intro v2 v3 h K
    replace h : M_leftOut_l1b v1 μ (M_leftOut_l1 v1 μ n) v2 v3 = some o1 := h
    unfold M_leftOut_l1b at h
    refine V_iload_n (i := 3) G eX12_leftOut_4 rfl rfl ?_
    refine V_aload_n (i := 0) G eX12_leftOut_5 rfl rfl ?_
    refine V_get (v := .ref (wad w 1315 0)) G fgX12_38 rfl eX12_leftOut_6 ?_
    refine V_iload_n (i := 1) G eX12_leftOut_9 rfl rfl ?_
    refine V_iald G al_1315 (by decide) eX12_leftOut_10 h (fun x1 h => ?_)
    refine V_icmp_ge G eX12_leftOut_11 h (fun h => ?_) (fun h => ?_)
    · cases h; exact V_sub (lS_n (lS_n (lS_s (lS_n lS_0)))) K
    · refine V_iload_n (i := 2) G eX12_leftOut_14 rfl rfl ?_
      refine V_aload_n (i := 0) G eX12_leftOut_15 rfl rfl ?_
      refine V_get (v := .ref (wad w 1317 0)) G fgX12_44 rfl eX12_leftOut_16 ?_
      refine V_bipush (n := 8) (v := (nI 8)) G eX12_leftOut_19 rfl ?_
      refine V_iload_n (i := 1) G eX12_leftOut_21 rfl rfl ?_
      refine V_imul G eX12_leftOut_22 ?_
      refine V_iload_n (i := 3) G eX12_leftOut_23 rfl rfl ?_
      refine V_iadd G eX12_leftOut_24 ?_
      refine V_iald G al_1317 (by decide) eX12_leftOut_25 h (fun x2 h => ?_)
      obtain ⟨x4, hj, h⟩ := bdS h
      have J : Vj p l e R s m args below meth c w 4 0 0 Q 46 [some (.ref (wad w 12 0)), some (.int v1), none, some (.int v3)] [.int x4, .int v2] μ := by
        clear hj
        refine V_ior G eX12_leftOut_46 ?_
        refine V_istore_n (i := 2) (L' := (fun x5 => [some (.ref (wad w 12 0)), some (.int v1), some (.int x5), some (.int v3)])) G rfl eX12_leftOut_47 (by decide) rfl (fun _ => rfl) h (fun x5 h => ?_)
        refine V_iinc (z := (nI 1)) (L' := (fun x6 => [some (.ref (wad w 12 0)), some (.int v1), some (.int x5), some (.int x6)])) G eX12_leftOut_48 rfl rfl (by decide) rfl (fun _ => rfl) h (fun x6 h => ?_)
        refine V_goto G eX12_leftOut_51 ?_
        exact (ih h K)
      replace h := hj
      clear hj
      refine V_if_ne G eX12_leftOut_26 h (fun h => ?_) (fun h => ?_)
      · refine V_iconst (n := 0) (v := (nI 0)) G eX12_leftOut_45 rfl ?_
        cases h; exact V_sub (lS_s (lS_s (lS_n (lS_s lS_0)))) J
      · refine V_iconst (n := 1) (v := (nI 1)) G eX12_leftOut_29 rfl ?_
        refine V_aload_n (i := 0) G eX12_leftOut_30 rfl rfl ?_
        refine V_get (v := .ref (wad w 1316 0)) G fgX12_41 rfl eX12_leftOut_31 ?_
        refine V_bipush (n := 8) (v := (nI 8)) G eX12_leftOut_34 rfl ?_
        refine V_iload_n (i := 1) G eX12_leftOut_36 rfl rfl ?_
        refine V_imul G eX12_leftOut_37 ?_
        refine V_iload_n (i := 3) G eX12_leftOut_38 rfl rfl ?_
        refine V_iadd G eX12_leftOut_39 ?_
        refine V_iald G al_1316 (by decide) eX12_leftOut_40 h (fun x3 h => ?_)
        refine V_ishl G eX12_leftOut_41 ?_
        refine V_goto G eX12_leftOut_42 ?_
        cases h; exact V_sub (lS_s (lS_s (lS_n (lS_s lS_0)))) J
set_option maxRecDepth 100000 in
set_option maxHeartbeats 4000000 in
theorem M_leftOut_run {p : Program} {l : Launch} {e : Env} {R : Room} {s : State} {m : MethodId} {args : Array Value} {below : List Frame} {meth : Method} {c : Code} {w : Wld} (G : Cxt p R s m args meth c w cX12_leftOut 4 "PotBookModel" 1 0 0) (hr : meth.sig.returnType = some .int) {a1 : Int32} {μ : Mem} {r : Int32} (h : M_leftOut a1 μ = some r) : Vj p l e R s m args below meth c w 4 0 0 (MQ below (QI w r μ) args s 0 0 w.2.2.2) 0 [some (.ref (wad w 12 0)), some (.int a1), none, none] [] μ := by
  unfold M_leftOut at h
  refine V_iconst (n := 0) (v := (nI 0)) G eX12_leftOut_0 rfl ?_
  refine V_istoreA_n (i := 2) (L' := [some (.ref (wad w 12 0)), some (.int a1), some (.int (nI 0)), none]) G rfl eX12_leftOut_1 (by decide) rfl rfl ?_
  refine V_iconst (n := 0) (v := (nI 0)) G eX12_leftOut_2 rfl ?_
  refine V_istoreA_n (i := 3) (L' := [some (.ref (wad w 12 0)), some (.int a1), some (.int (nI 0)), some (.int (nI 0))]) G rfl eX12_leftOut_3 (by decide) rfl rfl ?_
  obtain ⟨x1, h1, h⟩ := bdS h
  refine M_leftOut_l1_ok G h1 ?_
  refine V_iload_n (i := 2) G eX12_leftOut_54 rfl rfl ?_
  exact V_ri G hr eX12_leftOut_55 h
theorem M_leftOut_ok {l : Launch} {w : Wld} {a1 : Int32} {μ : Mem} {r : Int32} (h : M_leftOut a1 μ = some r) : CtI l w yX12_leftOut cX12_leftOut 4 .int 1 [.ref (wad w 12 0), .int a1] μ r μ :=
  Ct_of (own := "PotBookModel") [some (.ref (wad w 12 0)), some (.int a1), none, none] (by decide +kernel) rfl rfl (Nat.le_of_ble_eq_true rfl) fun p e s m args below meth c G hr => M_leftOut_run G hr h
set_option maxRecDepth 100000 in
set_option maxHeartbeats 4000000 in
theorem M_page_run {p : Program} {l : Launch} {e : Env} {R : Room} {s : State} {m : MethodId} {args : Array Value} {below : List Frame} {meth : Method} {c : Code} {w : Wld} (G : Cxt p R s m args meth c w cX12_page 3 "PotBookModel" 3 0 0) (hr : meth.sig.returnType = some .int) {a1 : Int32} {a2 : Int32} {μ : Mem} {r : Int32} {μ' : Mem} (h : M_page a1 a2 μ = some (r, μ')) : Vj p l e R s m args below meth c w 3 0 0 (MQ below (QI w r μ') args s 0 0 w.2.2.2) 0 [some (.ref (wad w 12 0)), some (.int a1), some (.int a2)] [] μ := by
  unfold M_page at h
  refine V_aload_n (i := 0) G eX12_page_0 rfl rfl ?_
  refine V_aload_n (i := 0) G eX12_page_1 rfl rfl ?_
  refine V_iload_n (i := 1) G eX12_page_2 rfl rfl ?_
  obtain ⟨x1, h1, h⟩ := bdS h
  refine V_callI (As := [.int a1]) (st := [.ref (wad w 12 0)]) G lkX12_332 (M_isPage_ok h1) (by decide) rfl rfl (Nat.le_of_ble_eq_true rfl) eX12_page_3 ?_
  obtain ⟨x3, hj, h⟩ := bdS h
  have J : Vj p l e R s m args below meth c w 3 0 0 (MQ below (QI w r μ') args s 0 0 w.2.2.2) 23 [some (.ref (wad w 12 0)), some (.int a1), some (.int a2)] [.int x3, .ref (wad w 12 0)] μ := by
    clear hj
    refine V_put G fgX12_175 fp_12_0 eX12_page_23 h (fun μ4 h => ?_)
    refine V_aload_n (i := 0) G eX12_page_26 rfl rfl ?_
    refine V_get (v := .int (mI μ4 1300 0 0)) G fgX12_175 rfl eX12_page_27 ?_
    refine V_iconst (n := 1) (v := (nI 1)) G eX12_page_30 rfl ?_
    refine V_icmp_ne G eX12_page_31 h (fun h => ?_) (fun h => ?_)
    · refine V_iload_n (i := 2) G eX12_page_36 rfl rfl ?_
      refine V_if_ne G eX12_page_37 h (fun h => ?_) (fun h => ?_)
      · refine V_iload_n (i := 2) G eX12_page_48 rfl rfl ?_
        refine V_iconst (n := 1) (v := (nI 1)) G eX12_page_49 rfl ?_
        refine V_icmp_ne G eX12_page_50 h (fun h => ?_) (fun h => ?_)
        · refine V_iload_n (i := 2) G eX12_page_62 rfl rfl ?_
          refine V_iconst (n := 2) (v := (nI 2)) G eX12_page_63 rfl ?_
          refine V_icmp_ne G eX12_page_64 h (fun h => ?_) (fun h => ?_)
          · refine V_aload_n (i := 0) G eX12_page_75 rfl rfl ?_
            refine V_get (v := .ref (wad w 1321 0)) G fgX12_56 rfl eX12_page_76 ?_
            refine V_iload_n (i := 1) G eX12_page_79 rfl rfl ?_
            refine V_iald G al_1321 (by decide) eX12_page_80 h (fun x5 h => ?_)
            exact V_riM G hr eX12_page_81 h
          · refine V_aload_n (i := 0) G eX12_page_67 rfl rfl ?_
            refine V_iload_n (i := 1) G eX12_page_68 rfl rfl ?_
            obtain ⟨x6, h1, h⟩ := bdS h
            refine V_callI (As := [.int a1]) (st := []) G lkX12_338 (M_leftOut_ok h1) (by decide) rfl rfl (Nat.le_of_ble_eq_true rfl) eX12_page_69 ?_
            refine V_goto G eX12_page_72 ?_
            exact V_riM G hr eX12_page_81 h
        · refine V_aload_n (i := 0) G eX12_page_53 rfl rfl ?_
          refine V_get (v := .ref (wad w 1319 0)) G fgX12_50 rfl eX12_page_54 ?_
          refine V_iload_n (i := 1) G eX12_page_57 rfl rfl ?_
          refine V_iald G al_1319 (by decide) eX12_page_58 h (fun x7 h => ?_)
          refine V_goto G eX12_page_59 ?_
          exact V_riM G hr eX12_page_81 h
      · refine V_aload_n (i := 0) G eX12_page_40 rfl rfl ?_
        refine V_iload_n (i := 1) G eX12_page_41 rfl rfl ?_
        obtain ⟨x8, h1, h⟩ := bdS h
        refine V_callI (As := [.int a1]) (st := []) G lkX12_335 (M_thingsOf_ok h1) (by decide) rfl rfl (Nat.le_of_ble_eq_true rfl) eX12_page_42 ?_
        refine V_goto G eX12_page_45 ?_
        exact V_riM G hr eX12_page_81 h
    · refine V_iconst (n := 0) (v := (nI 0)) G eX12_page_34 rfl ?_
      exact V_riM G hr eX12_page_35 h
  replace h := hj
  clear hj
  refine V_if_eq G eX12_page_6 h (fun h => ?_) (fun h => ?_)
  · refine V_iconst (n := 1) (v := (nI 1)) G eX12_page_22 rfl ?_
    cases h; exact J
  · refine V_iload_n (i := 2) G eX12_page_9 rfl rfl ?_
    refine V_iconst (n := 0) (v := (nI 0)) G eX12_page_10 rfl ?_
    refine V_iconst (n := 3) (v := (nI 3)) G eX12_page_11 rfl ?_
    obtain ⟨x2, h1, h⟩ := bdS h
    refine V_callIS (As := [.int a2, .int (nI 0), .int (nI 3)]) (st := [.ref (wad w 12 0)]) G lkX12_198 (M_in_ok (μ := μ) h1) (by decide) rfl rfl (Nat.le_of_ble_eq_true rfl) eX12_page_12 ?_
    refine V_if_eq G eX12_page_15 h (fun h => ?_) (fun h => ?_)
    · refine V_iconst (n := 1) (v := (nI 1)) G eX12_page_22 rfl ?_
      cases h; exact J
    · refine V_iconst (n := 0) (v := (nI 0)) G eX12_page_18 rfl ?_
      refine V_goto G eX12_page_19 ?_
      cases h; exact J
theorem M_page_ok {l : Launch} {w : Wld} {a1 : Int32} {a2 : Int32} {μ : Mem} {r : Int32} {μ' : Mem} (h : M_page a1 a2 μ = some (r, μ')) : CtI l w yX12_page cX12_page 3 .int 3 [.ref (wad w 12 0), .int a1, .int a2] μ r μ' :=
  Ct_of (own := "PotBookModel") [some (.ref (wad w 12 0)), some (.int a1), some (.int a2)] (by decide +kernel) rfl rfl (Nat.le_of_ble_eq_true rfl) fun p e s m args below meth c G hr => M_page_run G hr h
