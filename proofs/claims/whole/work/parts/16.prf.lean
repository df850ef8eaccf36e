set_option maxRecDepth 100000 in
set_option maxHeartbeats 4000000 in
theorem M_wasteNow_l2_ok {p : Program} {l : Launch} {e : Env} {R : Room} {s : State} {m : MethodId} {args : Array Value} {below : List Frame} {meth : Method} {c : Code} {w : Wld} {Q : State → Prop} (G : Cxt p R s m args meth c w cX12_wasteNow 4 "PotBookModel" 2 0 0) {v2 : Int32} {μ : Mem} {o1 : Int32} : ∀ {n : Nat} {v1 : Int32} {v3 : Int32}, M_wasteNow_l2 v2 μ n v1 v3 = some o1 → Vj p l e R s m args below meth c w 4 0 0 Q 77 [some (.ref (wad w 12 0)), some (.int o1), some (.int v2), none] [] μ → Vj p l e R s m args below meth c w 4 0 0 Q 42 [some (.ref (wad w 12 0)), some (.int v1), some (.int v2), some (.int v3)] [] μ := by
  intro n
  induction n with
  | zero => intro v1 v3 h K; exact noS h
  | succ n ih =>
    intro v1 v3 h K
    replace h : M_wasteNow_l2b v2 μ (M_wasteNow_l2 v2 μ n) v1 v3 = some o1 := h
    unfold M_wasteNow_l2b at h
    refine V_iload_n (i := 3) G eX12_wasteNow_42 rfl rfl ?_
    refine V_aload_n (i := 0) G eX12_wasteNow_43 rfl rfl ?_
    refine V_get (v := .int (mI μ 1364 0 0)) G fgX12_435 rfl eX12_wasteNow_44 ?_
    refine V_icmp_ge G eX12_wasteNow_47 h (fun h => ?_) (fun h => ?_)
    · cases h; exact V_sub (lS_s (lS_s (lS_s (lS_n lS_0)))) K
    · refine V_iload_n (i := 1) G eX12_wasteNow_50 rfl rfl ?_
      refine V_aload_n (i := 0) G eX12_wasteNow_51 rfl rfl ?_
      refine V_get (v := .ref (wad w 1361 0)) G fgX12_151 rfl eX12_wasteNow_52 ?_
      refine V_bipush (n := 12) (v := (nI 12)) G eX12_wasteNow_55 rfl ?_
      refine V_iload_n (i := 3) G eX12_wasteNow_57 rfl rfl ?_
      refine V_imul G eX12_wasteNow_58 ?_
      refine V_iload_n (i := 2) G eX12_wasteNow_59 rfl rfl ?_
      refine V_iadd G eX12_wasteNow_60 ?_
      refine V_iald G al_1361 (by decide) eX12_wasteNow_61 h (fun x1 h => ?_)
      refine V_aload_n (i := 0) G eX12_wasteNow_62 rfl rfl ?_
      refine V_get (v := .ref (wad w 1362 0)) G fgX12_154 rfl eX12_wasteNow_63 ?_
      refine V_iload_n (i := 3) G eX12_wasteNow_66 rfl rfl ?_
      refine V_iald G al_1362 (by decide) eX12_wasteNow_67 h (fun x2 h => ?_)
      refine V_imul G eX12_wasteNow_68 ?_
      refine V_isub G eX12_wasteNow_69 ?_
      refine V_istore_n (i := 1) (L' := (fun x3 => [some (.ref (wad w 12 0)), some (.int x3), some (.int v2), some (.int v3)])) G rfl eX12_wasteNow_70 (by decide) rfl (fun _ => rfl) h (fun x3 h => ?_)
      refine V_iinc (z := (nI 1)) (L' := (fun x4 => [some (.ref (wad w 12 0)), some (.int x3), some (.int v2), some (.int x4)])) G eX12_wasteNow_71 rfl rfl (by decide) rfl (fun _ => rfl) h (fun x4 h => ?_)
      refine V_goto G eX12_wasteNow_74 ?_
      exact (ih h K)
set_option maxRecDepth 100000 in
set_option maxHeartbeats 4000000 in
theorem M_wasteNow_l1_ok {p : Program} {l : Launch} {e : Env} {R : Room} {s : State} {m : MethodId} {args : Array Value} {below : List Frame} {meth : Method} {c : Code} {w : Wld} {Q : State → Prop} (G : Cxt p R s m args meth c w cX12_wasteNow 4 "PotBookModel" 2 0 0) {μ : Mem} {o1 : Int32} : ∀ {n : Nat} {v1 : Int32} {v2 : Int32}, M_wasteNow_l1 μ n v1 v2 = some o1 → Vj p l e R s m args below meth c w 4 0 0 Q 83 [none, some (.int o1), none, none] [] μ → Vj p l e R s m args below meth c w 4 0 0 Q 4 [some (.ref (wad w 12 0)), some (.int v1), some (.int v2), none] [] μ := by
  intro n
  induction n with
  | zero => intro v1 v2 h K; exact noS h
  | succ n ih =>
    intro v1 v2 h K
    replace h : M_wasteNow_l1b μ (M_wasteNow_l1 μ n) v1 v2 = some o1 := h
    unfold M_wasteNow_l1b at h
    refine V_iload_n (i := 2) G eX12_wasteNow_4 rfl rfl ?_
    refine V_aload_n (i := 0) G eX12_wasteNow_5 rfl rfl ?_
    refine V_get (v := .int (mI μ 1314 0 0)) G fgX12_195 rfl eX12_wasteNow_6 ?_
    refine V_icmp_ge G eX12_wasteNow_9 h (fun h => ?_) (fun h => ?_)
    · cases h; exact V_sub (lS_n (lS_s (lS_n (lS_n lS_0)))) K
    · refine V_aload_n (i := 0) G eX12_wasteNow_12 rfl rfl ?_
      refine V_get (v := .int (mI μ 1365 0 0)) G fgX12_438 rfl eX12_wasteNow_13 ?_
      refine V_iload_n (i := 2) G eX12_wasteNow_16 rfl rfl ?_
      obtain ⟨x1, h1, h⟩ := bdS h
      refine V_callIS (As := [.int (mI μ 1365 0 0), .int v2]) (st := []) G lkX12_422 (M_has_ok (μ := μ) h1) (by decide) rfl rfl (Nat.le_of_ble_eq_true rfl) eX12_wasteNow_17 ?_
      obtain ⟨x5, hj, h⟩ := bdS h
      have J : Vj p l e R s m args below meth c w 4 0 0 Q 77 [some (.ref (wad w 12 0)), some (.int x5), some (.int v2), none] [] μ := by
        clear hj
        refine V_iinc (z := (nI 1)) (L' := (fun x6 => [some (.ref (wad w 12 0)), some (.int x5), some (.int x6), none])) G eX12_wasteNow_77 rfl rfl (by decide) rfl (fun _ => rfl) h (fun x6 h => ?_)
        refine V_goto G eX12_wasteNow_80 ?_
        exact (ih h K)
      replace h := hj
      clear hj
      refine V_if_eq G eX12_wasteNow_20 h (fun h => ?_) (fun h => ?_)
      · cases h; exact J
      · refine V_iload_n (i := 1) G eX12_wasteNow_23 rfl rfl ?_
        refine V_aload_n (i := 0) G eX12_wasteNow_24 rfl rfl ?_
        refine V_get (v := .ref (wad w 1357 0)) G fgX12_142 rfl eX12_wasteNow_25 ?_
        refine V_bipush (n := 12) (v := (nI 12)) G eX12_wasteNow_28 rfl ?_
        refine V_aload_n (i := 0) G eX12_wasteNow_30 rfl rfl ?_
        refine V_get (v := .int (mI μ 1372 0 0)) G fgX12_483 rfl eX12_wasteNow_31 ?_
        refine V_imul G eX12_wasteNow_34 ?_
        refine V_iload_n (i := 2) G eX12_wasteNow_35 rfl rfl ?_
        refine V_iadd G eX12_wasteNow_36 ?_
        refine V_iald G al_1357 (by decide) eX12_wasteNow_37 h (fun x2 h => ?_)
        refine V_iadd G eX12_wasteNow_38 ?_
        refine V_istore_n (i := 1) (L' := (fun x3 => [some (.ref (wad w 12 0)), some (.int x3), some (.int v2), none])) G rfl eX12_wasteNow_39 (by decide) rfl (fun _ => rfl) h (fun x3 h => ?_)
        refine V_iconst (n := 0) (v := (nI 0)) G eX12_wasteNow_40 rfl ?_
        refine V_istoreA_n (i := 3) (L' := [some (.ref (wad w 12 0)), some (.int x3), some (.int v2), some (.int (nI 0))]) G rfl eX12_wasteNow_41 (by decide) rfl rfl ?_
        obtain ⟨x4, h1, h⟩ := bdS h
        refine M_wasteNow_l2_ok G h1 ?_
        cases h; exact J
set_option maxRecDepth 100000 in
set_option maxHeartbeats 4000000 in
theorem M_wasteNow_run {p : Program} {l : Launch} {e : Env} {R : Room} {s : State} {m : MethodId} {args : Array Value} {below : List Frame} {meth : Method} {c : Code} {w : Wld} (G : Cxt p R s m args meth c w cX12_wasteNow 4 "PotBookModel" 2 0 0) (hr : meth.sig.returnType = some .int) {μ : Mem} {r : Int32} (h : M_wasteNow μ = some r) : Vj p l e R s m args below meth c w 4 0 0 (MQ below (QI w r μ) args s 0 0 w.2.2.2) 0 [some (.ref (wad w 12 0)), none, none, none] [] μ := by
  unfold M_wasteNow at h
  refine V_iconst (n := 0) (v := (nI 0)) G eX12_wasteNow_0 rfl ?_
  refine V_istoreA_n (i := 1) (L' := [some (.ref (wad w 12 0)), some (.int (nI 0)), none, none]) G rfl eX12_wasteNow_1 (by decide) rfl rfl ?_
  refine V_iconst (n := 0) (v := (nI 0)) G eX12_wasteNow_2 rfl ?_
  refine V_istoreA_n (i := 2) (L' := [some (.ref (wad w 12 0)), some (.int (nI 0)), some (.int (nI 0)), none]) G rfl eX12_wasteNow_3 (by decide) rfl rfl ?_
  obtain ⟨x1, h1, h⟩ := bdS h
  refine M_wasteNow_l1_ok G h1 ?_
  refine V_iload_n (i := 1) G eX12_wasteNow_83 rfl rfl ?_
  exact V_ri G hr eX12_wasteNow_84 h
theorem M_wasteNow_ok {l : Launch} {w : Wld} {μ : Mem} {r : Int32} (h : M_wasteNow μ = some r) : CtI l w yX12_wasteNow cX12_wasteNow 4 .int 2 [.ref (wad w 12 0)] μ r μ :=
  Ct_of (own := "PotBookModel") [some (.ref (wad w 12 0)), none, none, none] (by decide +kernel) rfl rfl (Nat.le_of_ble_eq_true rfl) fun p e s m args below meth c G hr => M_wasteNow_run G hr h
set_option maxRecDepth 100000 in
set_option maxHeartbeats 4000000 in
theorem M_countMenu_l1_ok {p : Program} {l : Launch} {e : Env} {R : Room} {s : State} {m : MethodId} {args : Array Value} {below : List Frame} {meth : Method} {c : Code} {w : Wld} {Q : State → Prop} (G : Cxt p R s m args meth c w cX12_countMenu 4 "PotBookModel" 3 0 0) {o1 : Int32} {o2 : Int32} {μo : Mem} : ∀ {n : Nat} {v1 : Int32} {v2 : Int32} {v3 : Int32} {μ : Mem}, M_countMenu_l1 n v1 v2 v3 μ = some (o1, o2, μo) → Vj p l e R s m args below meth c w 4 0 0 Q 85 [some (.ref (wad w 12 0)), some (.int o1), some (.int o2), none] [] μo → Vj p l e R s m args below meth c w 4 0 0 Q 6 [some (.ref (wad w 12 0)), some (.int v1), some (.int v2), some (.int v3)] [] μ := by
  intro n
  induction n with
  | zero => intro v1 v2 v3 μ h K; exact noS h
  | succ n ih =>
    intro v1 v2 v3 μ h K
    replace h : M_countMenu_l1b (M_countMenu_l1 n) v1 v2 v3 μ = some (o1, o2, μo) := h
    unfold M_countMenu_l1b at h
    refine V_iload_n (i := 3) G eX12_countMenu_6 rfl rfl ?_
    refine V_aload_n (i := 0) G eX12_countMenu_7 rfl rfl ?_
    refine V_get (v := .int (mI μ 1364 0 0)) G fgX12_435 rfl eX12_countMenu_8 ?_
    refine V_icmp_ge G eX12_countMenu_11 h (fun h => ?_) (fun h => ?_)
    · cases h; exact V_sub (lS_s (lS_s (lS_s (lS_n lS_0)))) K
    · refine V_iload_n (i := 1) G eX12_countMenu_14 rfl rfl ?_
      refine V_aload_n (i := 0) G eX12_countMenu_15 rfl rfl ?_
      refine V_get (v := .ref (wad w 1362 0)) G fgX12_154 rfl eX12_countMenu_16 ?_
      refine V_iload_n (i := 3) G eX12_countMenu_19 rfl rfl ?_
      refine V_iald G al_1362 (by decide) eX12_countMenu_20 h (fun x1 h => ?_)
      obtain ⟨x3, hj, h⟩ := bdS h
      have J : Vj p l e R s m args below meth c w 4 0 0 Q 36 [some (.ref (wad w 12 0)), none, some (.int v2), some (.int v3)] [.int x3, .int v1] μ := by
        clear hj
        refine V_ior G eX12_countMenu_36 ?_
        refine V_istore_n (i := 1) (L' := (fun x4 => [some (.ref (wad w 12 0)), some (.int x4), some (.int v2), some (.int v3)])) G rfl eX12_countMenu_37 (by decide) rfl (fun _ => rfl) h (fun x4 h => ?_)
        refine V_iload_n (i := 2) G eX12_countMenu_38 rfl rfl ?_
        refine V_aload_n (i := 0) G eX12_countMenu_39 rfl rfl ?_
        refine V_get (v := .ref (wad w 1362 0)) G fgX12_154 rfl eX12_countMenu_40 ?_
        refine V_iload_n (i := 3) G eX12_countMenu_43 rfl rfl ?_
        refine V_iald G al_1362 (by decide) eX12_countMenu_44 h (fun x5 h => ?_)
        refine V_iadd G eX12_countMenu_45 ?_
        refine V_istore_n (i := 2) (L' := (fun x6 => [some (.ref (wad w 12 0)), some (.int x4), some (.int x6), some (.int v3)])) G rfl eX12_countMenu_46 (by decide) rfl (fun _ => rfl) h (fun x6 h => ?_)
        refine V_aload_n (i := 0) G eX12_countMenu_47 rfl rfl ?_
        refine V_get (v := .ref (wad w 1363 0)) G fgX12_157 rfl eX12_countMenu_48 ?_
        refine V_iload_n (i := 3) G eX12_countMenu_51 rfl rfl ?_
        refine V_aload_n (i := 0) G eX12_countMenu_52 rfl rfl ?_
        refine V_get (v := .int (mI μ 1366 0 0)) G fgX12_450 rfl eX12_countMenu_53 ?_
        refine V_aload_n (i := 0) G eX12_countMenu_56 rfl rfl ?_
        refine V_get (v := .int (mI μ 1371 0 0)) G fgX12_453 rfl eX12_countMenu_57 ?_
        obtain ⟨x9, hj, h⟩ := bdS h
        have J : Vj p l e R s m args below meth c w 4 0 0 Q 78 [some (.ref (wad w 12 0)), some (.int x4), some (.int x6), some (.int v3)] [.int x9, .int v3, .ref (wad w 1363 0)] μ := by
          clear hj
          refine V_iast G al_1363 (by decide) eX12_countMenu_78 h (fun μ10 h => ?_)
          refine V_iinc (z := (nI 1)) (L' := (fun x11 => [some (.ref (wad w 12 0)), some (.int x4), some (.int x6), some (.int x11)])) G eX12_countMenu_79 rfl rfl (by decide) rfl (fun _ => rfl) h (fun x11 h => ?_)
          refine V_goto G eX12_countMenu_82 ?_
          exact (ih h K)
        replace h := hj
        clear hj
        refine V_icmp_ne G eX12_countMenu_60 h (fun h => ?_) (fun h => ?_)
        · refine V_aload_n (i := 0) G eX12_countMenu_72 rfl rfl ?_
          refine V_get (v := .ref (wad w 1363 0)) G fgX12_157 rfl eX12_countMenu_73 ?_
          refine V_iload_n (i := 3) G eX12_countMenu_76 rfl rfl ?_
          refine V_iald G al_1363 (by decide) eX12_countMenu_77 h (fun x7 h => ?_)
          cases h; exact J
        · refine V_aload_n (i := 0) G eX12_countMenu_63 rfl rfl ?_
          refine V_get (v := .ref (wad w 1362 0)) G fgX12_154 rfl eX12_countMenu_64 ?_
          refine V_iload_n (i := 3) G eX12_countMenu_67 rfl rfl ?_
          refine V_iald G al_1362 (by decide) eX12_countMenu_68 h (fun x8 h => ?_)
          refine V_goto G eX12_countMenu_69 ?_
          cases h; exact J
      replace h := hj
      clear hj
      refine V_if_le G eX12_countMenu_21 h (fun h => ?_) (fun h => ?_)
      · refine V_iconst (n := 0) (v := (nI 0)) G eX12_countMenu_35 rfl ?_
        cases h; exact V_sub (lS_s (lS_n (lS_s (lS_s lS_0)))) J
      · refine V_iconst (n := 1) (v := (nI 1)) G eX12_countMenu_24 rfl ?_
        refine V_aload_n (i := 0) G eX12_countMenu_25 rfl rfl ?_
        refine V_get (v := .ref (wad w 1359 0)) G fgX12_145 rfl eX12_countMenu_26 ?_
        refine V_iload_n (i := 3) G eX12_countMenu_29 rfl rfl ?_
        refine V_iald G al_1359 (by decide) eX12_countMenu_30 h (fun x2 h => ?_)
        refine V_ishl G eX12_countMenu_31 ?_
        refine V_goto G eX12_countMenu_32 ?_
        cases h; exact V_sub (lS_s (lS_n (lS_s (lS_s lS_0)))) J
set_option maxRecDepth 100000 in
set_option maxHeartbeats 4000000 in
theorem M_countMenu_run {p : Program} {l : Launch} {e : Env} {R : Room} {s : State} {m : MethodId} {args : Array Value} {below : List Frame} {meth : Method} {c : Code} {w : Wld} (G : Cxt p R s m args meth c w cX12_countMenu 4 "PotBookModel" 3 0 0) (hr : meth.sig.returnType = none) {μ : Mem} {μ' : Mem} (h : M_countMenu μ = some μ') : Vj p l e R s m args below meth c w 4 0 0 (MQ below (QV w μ') args s 0 0 w.2.2.2) 0 [some (.ref (wad w 12 0)), none, none, none] [] μ := by
  unfold M_countMenu at h
  refine V_iconst (n := 0) (v := (nI 0)) G eX12_countMenu_0 rfl ?_
  refine V_istoreA_n (i := 1) (L' := [some (.ref (wad w 12 0)), some (.int (nI 0)), none, none]) G rfl eX12_countMenu_1 (by decide) rfl rfl ?_
  refine V_iconst (n := 0) (v := (nI 0)) G eX12_countMenu_2 rfl ?_
  refine V_istoreA_n (i := 2) (L' := [some (.ref (wad w 12 0)), some (.int (nI 0)), some (.int (nI 0)), none]) G rfl eX12_countMenu_3 (by decide) rfl rfl ?_
  refine V_iconst (n := 0) (v := (nI 0)) G eX12_countMenu_4 rfl ?_
  refine V_istoreA_n (i := 3) (L' := [some (.ref (wad w 12 0)), some (.int (nI 0)), some (.int (nI 0)), some (.int (nI 0))]) G rfl eX12_countMenu_5 (by decide) rfl rfl ?_
  obtain ⟨⟨x1, x2, μ3⟩, h1, h⟩ := bdS h
  refine M_countMenu_l1_ok G h1 ?_
  refine V_aload_n (i := 0) G eX12_countMenu_85 rfl rfl ?_
  refine V_aload_n (i := 0) G eX12_countMenu_86 rfl rfl ?_
  refine V_get (v := .int (mI μ3 1366 0 0)) G fgX12_450 rfl eX12_countMenu_87 ?_
  obtain ⟨x4, hj, h⟩ := bdS h
  have J : Vj p l e R s m args below meth c w 4 0 0 (MQ below (QV w μ') args s 0 0 w.2.2.2) 103 [some (.ref (wad w 12 0)), some (.int x1), some (.int x2), none] [.int x4, .ref (wad w 12 0)] μ3 := by
    clear hj
    refine V_put G fgX12_456 fp_12_67 eX12_countMenu_103 h (fun μ5 h => ?_)
    refine V_aload_n (i := 0) G eX12_countMenu_106 rfl rfl ?_
    refine V_dup G eX12_countMenu_107 rfl ?_
    refine V_get (v := .int (mI μ5 1368 0 0)) G fgX12_459 rfl eX12_countMenu_108 ?_
    refine V_iload_n (i := 1) G eX12_countMenu_111 rfl rfl ?_
    refine V_ior G eX12_countMenu_112 ?_
    refine V_put G fgX12_459 fp_12_68 eX12_countMenu_113 h (fun μ6 h => ?_)
    refine V_aload_n (i := 0) G eX12_countMenu_116 rfl rfl ?_
    obtain ⟨x7, h1, h⟩ := bdS h
    refine V_callI (As := []) (st := []) G lkX12_462 (M_wasteNow_ok h1) (by decide) rfl rfl (Nat.le_of_ble_eq_true rfl) eX12_countMenu_117 ?_
    refine V_istoreA_n (i := 3) (L' := [some (.ref (wad w 12 0)), some (.int x1), some (.int x2), some (.int x7)]) G rfl eX12_countMenu_120 (by decide) rfl rfl ?_
    refine V_aload_n (i := 0) G eX12_countMenu_121 rfl rfl ?_
    refine V_aload_n (i := 0) G eX12_countMenu_122 rfl rfl ?_
    refine V_get (v := .int (mI μ6 1366 0 0)) G fgX12_450 rfl eX12_countMenu_123 ?_
    refine V_aload_n (i := 0) G eX12_countMenu_126 rfl rfl ?_
    refine V_get (v := .int (mI μ6 1371 0 0)) G fgX12_453 rfl eX12_countMenu_127 ?_
    obtain ⟨x8, hj, h⟩ := bdS h
    have J : Vj p l e R s m args below meth c w 4 0 0 (MQ below (QV w μ') args s 0 0 w.2.2.2) 141 [some (.ref (wad w 12 0)), none, some (.int x2), some (.int x7)] [.int x8, .ref (wad w 12 0)] μ6 := by
      clear hj
      refine V_put G fgX12_465 fp_12_73 eX12_countMenu_141 h (fun μ9 h => ?_)
      refine V_aload_n (i := 0) G eX12_countMenu_144 rfl rfl ?_
      refine V_get (v := .int (mI μ9 1366 0 0)) G fgX12_450 rfl eX12_countMenu_145 ?_
      obtain ⟨μ16, hj, h⟩ := bdS h
      have J : Vj p l e R s m args below meth c w 4 0 0 (MQ below (QV w μ') args s 0 0 w.2.2.2) 177 [some (.ref (wad w 12 0)), none, some (.int x2), some (.int x7)] [] μ16 := by
        clear hj
        refine V_aload_n (i := 0) G eX12_countMenu_177 rfl rfl ?_
        refine V_dup G eX12_countMenu_178 rfl ?_
        refine V_get (v := .int (mI μ16 1376 0 0)) G fgX12_474 rfl eX12_countMenu_179 ?_
        refine V_iload_n (i := 3) G eX12_countMenu_182 rfl rfl ?_
        refine V_aload_n (i := 0) G eX12_countMenu_183 rfl rfl ?_
        refine V_get (v := .int (mI μ16 1374 0 0)) G fgX12_468 rfl eX12_countMenu_184 ?_
        obtain ⟨x17, hj, h⟩ := bdS h
        have J : Vj p l e R s m args below meth c w 4 0 0 (MQ below (QV w μ') args s 0 0 w.2.2.2) 195 [some (.ref (wad w 12 0)), none, some (.int x2), none] [.int x17, .int (mI μ16 1376 0 0), .ref (wad w 12 0)] μ16 := by
          clear hj
          refine V_iadd G eX12_countMenu_195 ?_
          refine V_put G fgX12_474 fp_12_76 eX12_countMenu_196 h (fun μ18 h => ?_)
          refine V_aload_n (i := 0) G eX12_countMenu_199 rfl rfl ?_
          refine V_aload_n (i := 0) G eX12_countMenu_200 rfl rfl ?_
          refine V_get (v := .int (mI μ18 1366 0 0)) G fgX12_450 rfl eX12_countMenu_201 ?_
          obtain ⟨x19, hj, h⟩ := bdS h
          have J : Vj p l e R s m args below meth c w 4 0 0 (MQ below (QV w μ') args s 0 0 w.2.2.2) 219 [some (.ref (wad w 12 0)), none, some (.int x2), none] [.int x19, .ref (wad w 12 0)] μ18 := by
            clear hj
            refine V_put G fgX12_477 fp_12_69 eX12_countMenu_219 h (fun μ20 h => ?_)
            refine V_aload_n (i := 0) G eX12_countMenu_222 rfl rfl ?_
            refine V_aload_n (i := 0) G eX12_countMenu_223 rfl rfl ?_
            refine V_get (v := .int (mI μ20 1370 0 0)) G fgX12_480 rfl eX12_countMenu_224 ?_
            refine V_iload_n (i := 2) G eX12_countMenu_227 rfl rfl ?_
            refine V_jMax G mkX12_209 (by decide) (Nat.le_of_ble_eq_true rfl) eX12_countMenu_228 ?_
            refine V_put G fgX12_480 fp_12_70 eX12_countMenu_231 h (fun μ21 h => ?_)
            refine V_aload_n (i := 0) G eX12_countMenu_234 rfl rfl ?_
            refine V_dup G eX12_countMenu_235 rfl ?_
            refine V_get (v := .int (mI μ21 1366 0 0)) G fgX12_450 rfl eX12_countMenu_236 ?_
            refine V_iconst (n := 1) (v := (nI 1)) G eX12_countMenu_239 rfl ?_
            refine V_iadd G eX12_countMenu_240 ?_
            refine V_put G fgX12_450 fp_12_66 eX12_countMenu_241 h (fun μ22 h => ?_)
            exact V_rvM G hr eX12_countMenu_244 h
          replace h := hj
          clear hj
          refine V_if_ne G eX12_countMenu_204 h (fun h => ?_) (fun h => ?_)
          · refine V_aload_n (i := 0) G eX12_countMenu_211 rfl rfl ?_
            refine V_get (v := .int (mI μ18 1369 0 0)) G fgX12_477 rfl eX12_countMenu_212 ?_
            refine V_iload_n (i := 2) G eX12_countMenu_215 rfl rfl ?_
            refine V_jMin G mkX12_382 (by decide) (Nat.le_of_ble_eq_true rfl) eX12_countMenu_216 ?_
            cases h; exact J
          · refine V_iload_n (i := 2) G eX12_countMenu_207 rfl rfl ?_
            refine V_goto G eX12_countMenu_208 ?_
            cases h; exact J
        replace h := hj
        clear hj
        refine V_icmp_ne G eX12_countMenu_187 h (fun h => ?_) (fun h => ?_)
        · refine V_iconst (n := 0) (v := (nI 0)) G eX12_countMenu_194 rfl ?_
          cases h; exact V_sub (lS_s (lS_n (lS_s (lS_n lS_0)))) J
        · refine V_iconst (n := 1) (v := (nI 1)) G eX12_countMenu_190 rfl ?_
          refine V_goto G eX12_countMenu_191 ?_
          cases h; exact V_sub (lS_s (lS_n (lS_s (lS_n lS_0)))) J
      replace h := hj
      clear hj
      refine V_if_eq G eX12_countMenu_148 h (fun h => ?_) (fun h => ?_)
      · refine V_aload_n (i := 0) G eX12_countMenu_159 rfl rfl ?_
        refine V_iload_n (i := 3) G eX12_countMenu_160 rfl rfl ?_
        refine V_put G fgX12_468 fp_12_74 eX12_countMenu_161 h (fun μ10 h => ?_)
        refine V_aload_n (i := 0) G eX12_countMenu_164 rfl rfl ?_
        refine V_aload_n (i := 0) G eX12_countMenu_165 rfl rfl ?_
        refine V_get (v := .int (mI μ10 1366 0 0)) G fgX12_450 rfl eX12_countMenu_166 ?_
        refine V_put G fgX12_471 fp_12_75 eX12_countMenu_169 h (fun μ11 h => ?_)
        refine V_aload_n (i := 0) G eX12_countMenu_172 rfl rfl ?_
        refine V_iconst (n := 0) (v := (nI 0)) G eX12_countMenu_173 rfl ?_
        refine V_put G fgX12_474 fp_12_76 eX12_countMenu_174 h (fun μ12 h => ?_)
        cases h; exact J
      · refine V_iload_n (i := 3) G eX12_countMenu_151 rfl rfl ?_
        refine V_aload_n (i := 0) G eX12_countMenu_152 rfl rfl ?_
        refine V_get (v := .int (mI μ9 1374 0 0)) G fgX12_468 rfl eX12_countMenu_153 ?_
        refine V_icmp_ge G eX12_countMenu_156 h (fun h => ?_) (fun h => ?_)
        · cases h; exact J
        · refine V_aload_n (i := 0) G eX12_countMenu_159 rfl rfl ?_
          refine V_iload_n (i := 3) G eX12_countMenu_160 rfl rfl ?_
          refine V_put G fgX12_468 fp_12_74 eX12_countMenu_161 h (fun μ13 h => ?_)
          refine V_aload_n (i := 0) G eX12_countMenu_164 rfl rfl ?_
          refine V_aload_n (i := 0) G eX12_countMenu_165 rfl rfl ?_
          refine V_get (v := .int (mI μ13 1366 0 0)) G fgX12_450 rfl eX12_countMenu_166 ?_
          refine V_put G fgX12_471 fp_12_75 eX12_countMenu_169 h (fun μ14 h => ?_)
          refine V_aload_n (i := 0) G eX12_countMenu_172 rfl rfl ?_
          refine V_iconst (n := 0) (v := (nI 0)) G eX12_countMenu_173 rfl ?_
          refine V_put G fgX12_474 fp_12_76 eX12_countMenu_174 h (fun μ15 h => ?_)
          cases h; exact J
    replace h := hj
    clear hj
    refine V_icmp_ne G eX12_countMenu_130 h (fun h => ?_) (fun h => ?_)
    · refine V_aload_n (i := 0) G eX12_countMenu_137 rfl rfl ?_
      refine V_get (v := .int (mI μ6 1373 0 0)) G fgX12_465 rfl eX12_countMenu_138 ?_
      cases h; exact V_sub (lS_s (lS_n (lS_s (lS_s lS_0)))) J
    · refine V_iload_n (i := 3) G eX12_countMenu_133 rfl rfl ?_
      refine V_goto G eX12_countMenu_134 ?_
      cases h; exact V_sub (lS_s (lS_n (lS_s (lS_s lS_0)))) J
  replace h := hj
  clear hj
  refine V_if_ne G eX12_countMenu_90 h (fun h => ?_) (fun h => ?_)
  · refine V_aload_n (i := 0) G eX12_countMenu_97 rfl rfl ?_
    refine V_get (v := .int (mI μ3 1367 0 0)) G fgX12_456 rfl eX12_countMenu_98 ?_
    refine V_iload_n (i := 1) G eX12_countMenu_101 rfl rfl ?_
    refine V_iand G eX12_countMenu_102 ?_
    cases h; exact J
  · refine V_iload_n (i := 1) G eX12_countMenu_93 rfl rfl ?_
    refine V_goto G eX12_countMenu_94 ?_
    cases h; exact J
theorem M_countMenu_ok {l : Launch} {w : Wld} {μ : Mem} {μ' : Mem} (h : M_countMenu μ = some μ') : CtV l w yX12_countMenu cX12_countMenu 4 3 [.ref (wad w 12 0)] μ μ' :=
  Ct_of (own := "PotBookModel") [some (.ref (wad w 12 0)), none, none, none] (by decide +kernel) rfl rfl (Nat.le_of_ble_eq_true rfl) fun p e s m args below meth c G hr => M_countMenu_run G hr h
set_option maxRecDepth 100000 in
set_option maxHeartbeats 4000000 in
theorem M_seek_l1_ok {p : Program} {l : Launch} {e : Env} {R : Room} {s : State} {m : MethodId} {args : Array Value} {below : List Frame} {meth : Method} {c : Code} {w : Wld} {Q : State → Prop} {lv : Nat} (hlv : 3 ≤ lv) (G : Cxt p R s m args meth c w cX12_seek 5 "PotBookModel" (lv + 1) 0 0) {r_M_seek : Int32 → Int32 → Int32 → Mem → Option Mem} (ih_M_seek : ∀ {a1 : Int32} {a2 : Int32} {a3 : Int32} {μ : Mem} {μ' : Mem}, r_M_seek a1 a2 a3 μ = some μ' → CtV l w yX12_seek cX12_seek 5 lv [.ref (wad w 12 0), .int a1, .int a2, .int a3] μ μ') {v1 : Int32} {v2 : Int32} {v3 : Int32} {μo : Mem} : ∀ {n : Nat} {v4 : Int32} {μ : Mem}, M_seek_l1 r_M_seek v1 v2 v3 n v4 μ = some μo → Vj p l e R s m args below meth c w 5 0 0 Q 68 [none, none, none, none, none] [] μo → Vj p l e R s m args below meth c w 5 0 0 Q 25 [some (.ref (wad w 12 0)), some (.int v1), some (.int v2), some (.int v3), some (.int v4)] [] μ := by
  intro n
  induction n with
  | zero => intro v4 μ h K; exact noS h
  | succ n ih =>
    intro v4 μ h K
    replace h : M_seek_l1b r_M_seek v1 v2 v3 (M_seek_l1 r_M_seek v1 v2 v3 n) v4 μ = some μo := h
    unfold M_seek_l1b at h
    refine V_iload G eX12_seek_25 rfl ?_
    refine V_aload_n (i := 0) G eX12_seek_27 rfl rfl ?_
    refine V_get (v := .ref (wad w 1360 0)) G fgX12_148 rfl eX12_seek_28 ?_
    refine V_iload_n (i := 3) G eX12_seek_31 rfl rfl ?_
    refine V_zald G al_1360 (by decide) eX12_seek_32 h (fun x1 h => ?_)
    obtain ⟨x2, hj, h⟩ := bdS h
    have J : Vj p l e R s m args below meth c w 5 0 0 Q 42 [some (.ref (wad w 12 0)), some (.int v1), some (.int v2), some (.int v3), some (.int v4)] [.int x2, .int v4] μ := by
      clear hj
      refine V_icmp_gt G eX12_seek_42 h (fun h => ?_) (fun h => ?_)
      · cases h; exact V_sub (lS_n (lS_n (lS_n (lS_n (lS_n lS_0))))) K
      · refine V_aload_n (i := 0) G eX12_seek_45 rfl rfl ?_
        refine V_get (v := .ref (wad w 1362 0)) G fgX12_154 rfl eX12_seek_46 ?_
        refine V_iload_n (i := 3) G eX12_seek_49 rfl rfl ?_
        refine V_iload G eX12_seek_50 rfl ?_
        refine V_iast G al_1362 (by decide) eX12_seek_52 h (fun μ3 h => ?_)
        refine V_aload_n (i := 0) G eX12_seek_53 rfl rfl ?_
        refine V_iload_n (i := 1) G eX12_seek_54 rfl rfl ?_
        refine V_iload_n (i := 2) G eX12_seek_55 rfl rfl ?_
        refine V_iload_n (i := 3) G eX12_seek_56 rfl rfl ?_
        refine V_iconst (n := 1) (v := (nI 1)) G eX12_seek_57 rfl ?_
        refine V_iadd G eX12_seek_58 ?_
        obtain ⟨μ4, h1, h⟩ := bdS h
        refine V_callV (As := [.int v1, .int v2, .int (v3 + (nI 1))]) (st := []) G lkX12_447 (ih_M_seek h1) (by omega) rfl rfl (Nat.le_of_ble_eq_true rfl) eX12_seek_59 ?_
        refine V_iinc (z := (nI 1)) (L' := (fun x5 => [some (.ref (wad w 12 0)), some (.int v1), some (.int v2), some (.int v3), some (.int x5)])) G eX12_seek_62 rfl rfl (by decide) rfl (fun _ => rfl) h (fun x5 h => ?_)
        refine V_goto G eX12_seek_65 ?_
        exact (ih h K)
    replace h := hj
    clear hj
    refine V_if_eq G eX12_seek_33 h (fun h => ?_) (fun h => ?_)
    · refine V_iconst (n := 0) (v := (nI 0)) G eX12_seek_41 rfl ?_
      cases h; exact J
    · refine V_bipush (n := 9) (v := (nI 9)) G eX12_seek_36 rfl ?_
      refine V_goto G eX12_seek_38 ?_
      cases h; exact J
set_option maxRecDepth 100000 in
set_option maxHeartbeats 4000000 in
theorem M_seek_B_run {p : Program} {l : Launch} {e : Env} {R : Room} {s : State} {m : MethodId} {args : Array Value} {below : List Frame} {meth : Method} {c : Code} {w : Wld} {lv : Nat} (hlv : 3 ≤ lv) (G : Cxt p R s m args meth c w cX12_seek 5 "PotBookModel" (lv + 1) 0 0) (hr : meth.sig.returnType = none) {r_M_seek : Int32 → Int32 → Int32 → Mem → Option Mem} (ih_M_seek : ∀ {a1 : Int32} {a2 : Int32} {a3 : Int32} {μ : Mem} {μ' : Mem}, r_M_seek a1 a2 a3 μ = some μ' → CtV l w yX12_seek cX12_seek 5 lv [.ref (wad w 12 0), .int a1, .int a2, .int a3] μ μ') {a1 : Int32} {a2 : Int32} {a3 : Int32} {μ : Mem} {μ' : Mem} (h : M_seek_B r_M_seek a1 a2 a3 μ = some μ') : Vj p l e R s m args below meth c w 5 0 0 (MQ below (QV w μ') args s 0 0 w.2.2.2) 0 [some (.ref (wad w 12 0)), some (.int a1), some (.int a2), some (.int a3), none] [] μ := by
  unfold M_seek_B at h
  refine V_iload_n (i := 3) G eX12_seek_0 rfl rfl ?_
  refine V_aload_n (i := 0) G eX12_seek_1 rfl rfl ?_
  refine V_get (v := .int (mI μ 1364 0 0)) G fgX12_435 rfl eX12_seek_2 ?_
  refine V_icmp_ne G eX12_seek_5 h (fun h => ?_) (fun h => ?_)
  · refine V_iconst (n := 0) (v := (nI 0)) G eX12_seek_22 rfl ?_
    refine V_istoreA (i := 4) (L' := [some (.ref (wad w 12 0)), some (.int a1), some (.int a2), some (.int a3), some (.int (nI 0))]) G eX12_seek_23 (by decide) rfl rfl ?_
    obtain ⟨μ1, h1, h⟩ := bdS h
    refine M_seek_l1_ok hlv G ih_M_seek h1 ?_
    exact V_rvM G hr eX12_seek_68 h
  · refine V_aload_n (i := 0) G eX12_seek_8 rfl rfl ?_
    refine V_iload_n (i := 1) G eX12_seek_9 rfl rfl ?_
    refine V_iload_n (i := 2) G eX12_seek_10 rfl rfl ?_
    obtain ⟨x2, h1, h⟩ := bdS h
    refine V_callI (As := [.int a1, .int a2]) (st := []) G lkX12_441 (M_isMenu_ok h1) (by omega) rfl rfl (Nat.le_of_ble_eq_true rfl) eX12_seek_11 ?_
    refine V_if_eq G eX12_seek_14 h (fun h => ?_) (fun h => ?_)
    · exact V_rvM G hr eX12_seek_21 h
    · refine V_aload_n (i := 0) G eX12_seek_17 rfl rfl ?_
      obtain ⟨μ3, h1, h⟩ := bdS h
      refine V_callV (As := []) (st := []) G lkX12_444 (M_countMenu_ok h1) (by omega) rfl rfl (Nat.le_of_ble_eq_true rfl) eX12_seek_18 ?_
      exact V_rvM G hr eX12_seek_21 h
set_option maxRecDepth 100000 in
set_option maxHeartbeats 4000000 in
theorem G_M_seek_ok {l : Launch} {w : Wld} : ∀ n : Nat, (∀ {a1 : Int32} {a2 : Int32} {a3 : Int32} {μ : Mem} {μ' : Mem}, M_seek n a1 a2 a3 μ = some μ' → CtV l w yX12_seek cX12_seek 5 (3 + n) [.ref (wad w 12 0), .int a1, .int a2, .int a3] μ μ') := by
  intro n
  induction n with
  | zero => exact fun h => noS h
  | succ n ih =>
    have ih_M_seek := @ih
    · intro a1 a2 a3 μ μ' h
      rw [M_seek_s] at h
      exact Ct_of (own := "PotBookModel") [some (.ref (wad w 12 0)), some (.int a1), some (.int a2), some (.int a3), none] (by decide +kernel) rfl rfl (Nat.le_of_ble_eq_true rfl) fun p e s m args below meth c G hr => M_seek_B_run (lv := 3 + n) (by omega) G hr ih_M_seek h

theorem M_seek_ok {l : Launch} {w : Wld} {a1 : Int32} {a2 : Int32} {a3 : Int32} {μ : Mem} {μ' : Mem} (h : M_seek RF a1 a2 a3 μ = some μ') : CtV l w yX12_seek cX12_seek 5 (3 + RF) [.ref (wad w 12 0), .int a1, .int a2, .int a3] μ μ' := (G_M_seek_ok RF) h
set_option maxRecDepth 100000 in
set_option maxHeartbeats 4000000 in
theorem M_findMenus_run {p : Program} {l : Launch} {e : Env} {R : Room} {s : State} {m : MethodId} {args : Array Value} {below : List Frame} {meth : Method} {c : Code} {w : Wld} (G : Cxt p R s m args meth c w cX12_findMenus 4 "PotBookModel" 65 0 0) (hr : meth.sig.returnType = none) {a1 : Int32} {a2 : Int32} {a3 : Int32} {μ : Mem} {μ' : Mem} (h : M_findMenus a1 a2 a3 μ = some μ') : Vj p l e R s m args below meth c w 4 0 0 (MQ below (QV w μ') args s 0 0 w.2.2.2) 0 [some (.ref (wad w 12 0)), some (.int a1), some (.int a2), some (.int a3)] [] μ := by
  unfold M_findMenus at h
  refine V_aload_n (i := 0) G eX12_findMenus_0 rfl rfl ?_
  refine V_iload_n (i := 1) G eX12_findMenus_1 rfl rfl ?_
  refine V_put G fgX12_483 fp_12_72 eX12_findMenus_2 h (fun μ1 h => ?_)
  refine V_aload_n (i := 0) G eX12_findMenus_5 rfl rfl ?_
  refine V_iconst (n := 0) (v := (nI 0)) G eX12_findMenus_6 rfl ?_
  refine V_put G fgX12_450 fp_12_66 eX12_findMenus_7 h (fun μ2 h => ?_)
  refine V_aload_n (i := 0) G eX12_findMenus_10 rfl rfl ?_
  refine V_iconst (n := 0) (v := (nI 0)) G eX12_findMenus_11 rfl ?_
  refine V_put G fgX12_456 fp_12_67 eX12_findMenus_12 h (fun μ3 h => ?_)
  refine V_aload_n (i := 0) G eX12_findMenus_15 rfl rfl ?_
  refine V_iconst (n := 0) (v := (nI 0)) G eX12_findMenus_16 rfl ?_
  refine V_put G fgX12_459 fp_12_68 eX12_findMenus_17 h (fun μ4 h => ?_)
  refine V_aload_n (i := 0) G eX12_findMenus_20 rfl rfl ?_
  refine V_iconst (n := -1) (v := (-1)) G eX12_findMenus_21 rfl ?_
  refine V_put G fgX12_477 fp_12_69 eX12_findMenus_22 h (fun μ5 h => ?_)
  refine V_aload_n (i := 0) G eX12_findMenus_25 rfl rfl ?_
  refine V_iconst (n := -1) (v := (-1)) G eX12_findMenus_26 rfl ?_
  refine V_put G fgX12_480 fp_12_70 eX12_findMenus_27 h (fun μ6 h => ?_)
  refine V_aload_n (i := 0) G eX12_findMenus_30 rfl rfl ?_
  refine V_iload_n (i := 3) G eX12_findMenus_31 rfl rfl ?_
  refine V_put G fgX12_453 fp_12_71 eX12_findMenus_32 h (fun μ7 h => ?_)
  refine V_aload_n (i := 0) G eX12_findMenus_35 rfl rfl ?_
  refine V_iload_n (i := 1) G eX12_findMenus_36 rfl rfl ?_
  refine V_iload_n (i := 2) G eX12_findMenus_37 rfl rfl ?_
  refine V_iconst (n := 0) (v := (nI 0)) G eX12_findMenus_38 rfl ?_
  obtain ⟨μ8, h1, h⟩ := bdS h
  refine V_callV (As := [.int a1, .int a2, .int (nI 0)]) (st := []) G lkX12_447 (M_seek_ok h1) (by decide) rfl rfl (Nat.le_of_ble_eq_true rfl) eX12_findMenus_39 ?_
  exact V_rvM G hr eX12_findMenus_42 h
theorem M_findMenus_ok {l : Launch} {w : Wld} {a1 : Int32} {a2 : Int32} {a3 : Int32} {μ : Mem} {μ' : Mem} (h : M_findMenus a1 a2 a3 μ = some μ') : CtV l w yX12_findMenus cX12_findMenus 4 65 [.ref (wad w 12 0), .int a1, .int a2, .int a3] μ μ' :=
  Ct_of (own := "PotBookModel") [some (.ref (wad w 12 0)), some (.int a1), some (.int a2), some (.int a3)] (by decide +kernel) rfl rfl (Nat.le_of_ble_eq_true rfl) fun p e s m args below meth c G hr => M_findMenus_run G hr h
set_option maxRecDepth 100000 in
set_option maxHeartbeats 4000000 in
theorem M_menu_run {p : Program} {l : Launch} {e : Env} {R : Room} {s : State} {m : MethodId} {args : Array Value} {below : List Frame} {meth : Method} {c : Code} {w : Wld} (G : Cxt p R s m args meth c w cX12_menu 5 "PotBookModel" 66 0 0) (hr : meth.sig.returnType = some .int) {a1 : Int32} {a2 : Int32} {a3 : Int32} {a4 : Int32} {μ : Mem} {r : Int32} {μ' : Mem} (h : M_menu a1 a2 a3 a4 μ = some (r, μ')) : Vj p l e R s m args below meth c w 5 0 0 (MQ below (QI w r μ') args s 0 0 w.2.2.2) 0 [some (.ref (wad w 12 0)), some (.int a1), some (.int a2), some (.int a3), some (.int a4)] [] μ := by
  unfold M_menu at h
  refine V_iload_n (i := 3) G eX12_menu_0 rfl rfl ?_
  refine V_iconst (n := 0) (v := (nI 0)) G eX12_menu_1 rfl ?_
  refine V_bipush (n := 99) (v := (nI 99)) G eX12_menu_2 rfl ?_
  obtain ⟨x1, h1, h⟩ := bdS h
  refine V_callIS (As := [.int a3, .int (nI 0), .int (nI 99)]) (st := []) G lkX12_198 (M_in_ok (μ := μ) h1) (by decide) rfl rfl (Nat.le_of_ble_eq_true rfl) eX12_menu_4 ?_
  refine V_if_eq G eX12_menu_7 h (fun h => ?_) (fun h => ?_)
  · refine V_iconst (n := -1) (v := (-1)) G eX12_menu_29 rfl ?_
    exact V_riM G hr eX12_menu_30 h
  · refine V_iload G eX12_menu_10 rfl ?_
    refine V_iconst (n := 0) (v := (nI 0)) G eX12_menu_12 rfl ?_
    refine V_iconst (n := 4) (v := (nI 4)) G eX12_menu_13 rfl ?_
    obtain ⟨x2, h1, h⟩ := bdS h
    refine V_callIS (As := [.int a4, .int (nI 0), .int (nI 4)]) (st := []) G lkX12_198 (M_in_ok (μ := μ) h1) (by decide) rfl rfl (Nat.le_of_ble_eq_true rfl) eX12_menu_14 ?_
    refine V_if_eq G eX12_menu_17 h (fun h => ?_) (fun h => ?_)
    · refine V_iconst (n := -1) (v := (-1)) G eX12_menu_29 rfl ?_
      exact V_riM G hr eX12_menu_30 h
    · refine V_aload_n (i := 0) G eX12_menu_20 rfl rfl ?_
      refine V_iload_n (i := 1) G eX12_menu_21 rfl rfl ?_
      refine V_iload_n (i := 2) G eX12_menu_22 rfl rfl ?_
      obtain ⟨⟨x3, μ4⟩, h1, h⟩ := bdS h
      refine V_callI (As := [.int a1, .int a2]) (st := []) G lkX12_486 (M_layMenu_ok h1) (by decide) rfl rfl (Nat.le_of_ble_eq_true rfl) eX12_menu_23 ?_
      refine V_if_ne G eX12_menu_26 h (fun h => ?_) (fun h => ?_)
      · refine V_aload_n (i := 0) G eX12_menu_31 rfl rfl ?_
        refine V_iload_n (i := 1) G eX12_menu_32 rfl rfl ?_
        refine V_iload_n (i := 3) G eX12_menu_33 rfl rfl ?_
        refine V_iconst (n := -1) (v := (-1)) G eX12_menu_34 rfl ?_
        obtain ⟨μ5, h1, h⟩ := bdS h
        refine V_callV (As := [.int a1, .int a3, .int (-1)]) (st := []) G lkX12_489 (M_findMenus_ok h1) (by decide) rfl rfl (Nat.le_of_ble_eq_true rfl) eX12_menu_35 ?_
        refine V_iload G eX12_menu_38 rfl ?_
        refine V_if_ne G eX12_menu_40 h (fun h => ?_) (fun h => ?_)
        · refine V_iload G eX12_menu_50 rfl ?_
          refine V_iconst (n := 1) (v := (nI 1)) G eX12_menu_52 rfl ?_
          refine V_icmp_ne G eX12_menu_53 h (fun h => ?_) (fun h => ?_)
          · refine V_iload G eX12_menu_63 rfl ?_
            refine V_iconst (n := 2) (v := (nI 2)) G eX12_menu_65 rfl ?_
            refine V_icmp_ne G eX12_menu_66 h (fun h => ?_) (fun h => ?_)
            · refine V_iload G eX12_menu_76 rfl ?_
              refine V_iconst (n := 3) (v := (nI 3)) G eX12_menu_78 rfl ?_
              refine V_icmp_ne G eX12_menu_79 h (fun h => ?_) (fun h => ?_)
              · refine V_aload_n (i := 0) G eX12_menu_89 rfl rfl ?_
                refine V_get (v := .int (mI μ5 1370 0 0)) G fgX12_480 rfl eX12_menu_90 ?_
                exact V_riM G hr eX12_menu_93 h
              · refine V_aload_n (i := 0) G eX12_menu_82 rfl rfl ?_
                refine V_get (v := .int (mI μ5 1369 0 0)) G fgX12_477 rfl eX12_menu_83 ?_
                refine V_goto G eX12_menu_86 ?_
                exact V_riM G hr eX12_menu_93 h
            · refine V_aload_n (i := 0) G eX12_menu_69 rfl rfl ?_
              refine V_get (v := .int (mI μ5 1368 0 0)) G fgX12_459 rfl eX12_menu_70 ?_
              refine V_goto G eX12_menu_73 ?_
              exact V_riM G hr eX12_menu_93 h
          · refine V_aload_n (i := 0) G eX12_menu_56 rfl rfl ?_
            refine V_get (v := .int (mI μ5 1367 0 0)) G fgX12_456 rfl eX12_menu_57 ?_
            refine V_goto G eX12_menu_60 ?_
            exact V_riM G hr eX12_menu_93 h
        · refine V_aload_n (i := 0) G eX12_menu_43 rfl rfl ?_
          refine V_get (v := .int (mI μ5 1366 0 0)) G fgX12_450 rfl eX12_menu_44 ?_
          refine V_goto G eX12_menu_47 ?_
          exact V_riM G hr eX12_menu_93 h
      · refine V_iconst (n := -1) (v := (-1)) G eX12_menu_29 rfl ?_
        exact V_riM G hr eX12_menu_30 h
theorem M_menu_ok {l : Launch} {w : Wld} {a1 : Int32} {a2 : Int32} {a3 : Int32} {a4 : Int32} {μ : Mem} {r : Int32} {μ' : Mem} (h : M_menu a1 a2 a3 a4 μ = some (r, μ')) : CtI l w yX12_menu cX12_menu 5 .int 66 [.ref (wad w 12 0), .int a1, .int a2, .int a3, .int a4] μ r μ' :=
  Ct_of (own := "PotBookModel") [some (.ref (wad w 12 0)), some (.int a1), some (.int a2), some (.int a3), some (.int a4)] (by decide +kernel) rfl rfl (Nat.le_of_ble_eq_true rfl) fun p e s m args below meth c G hr => M_menu_run G hr h
set_option maxRecDepth 100000 in
set_option maxHeartbeats 4000000 in
theorem M_messes_l1_ok {p : Program} {l : Launch} {e : Env} {R : Room} {s : State} {m : MethodId} {args : Array Value} {below : List Frame} {meth : Method} {c : Code} {w : Wld} {Q : State → Prop} (G : Cxt p R s m args meth c w cX12_messes 7 "PotBookModel" 66 0 0) {v5 : Int32} {μ : Mem} {o1 : Int32} : ∀ {n : Nat} {v6 : Int32}, M_messes_l1 v5 μ n v6 = some o1 → Vj p l e R s m args below meth c w 7 0 0 Q 84 [some (.ref (wad w 12 0)), none, none, none, none, none, some (.int o1)] [] μ → Vj p l e R s m args below meth c w 7 0 0 Q 66 [some (.ref (wad w 12 0)), none, none, none, none, some (.int v5), some (.int v6)] [] μ := by
  intro n
  induction n with
  | zero => intro v6 h K; exact noS h
  | succ n ih =>
    intro v6 h K
    replace h : M_messes_l1b v5 μ (M_messes_l1 v5 μ n) v6 = some o1 := h
    unfold M_messes_l1b at h
    refine V_aload_n (i := 0) G eX12_messes_66 rfl rfl ?_
    refine V_get (v := .ref (wad w 1359 0)) G fgX12_145 rfl eX12_messes_67 ?_
    refine V_iload G eX12_messes_70 rfl ?_
    refine V_iald G al_1359 (by decide) eX12_messes_72 h (fun x1 h => ?_)
    refine V_iload G eX12_messes_73 rfl ?_
    refine V_icmp_eq G eX12_messes_75 h (fun h => ?_) (fun h => ?_)
    · cases h; exact V_sub (lS_s (lS_n (lS_n (lS_n (lS_n (lS_n (lS_s lS_0))))))) K
    · refine V_iinc (z := (nI 1)) (L' := (fun x2 => [some (.ref (wad w 12 0)), none, none, none, none, some (.int v5), some (.int x2)])) G eX12_messes_78 rfl rfl (by decide) rfl (fun _ => rfl) h (fun x2 h => ?_)
      refine V_goto G eX12_messes_81 ?_
      exact (ih h K)
set_option maxRecDepth 100000 in
set_option maxHeartbeats 4000000 in
theorem M_messes_run {p : Program} {l : Launch} {e : Env} {R : Room} {s : State} {m : MethodId} {args : Array Value} {below : List Frame} {meth : Method} {c : Code} {w : Wld} (G : Cxt p R s m args meth c w cX12_messes 7 "PotBookModel" 66 0 0) (hr : meth.sig.returnType = some .int) {a1 : Int32} {a2 : Int32} {a3 : Int32} {a4 : Int32} {a5 : Int32} {μ : Mem} {r : Int32} {μ' : Mem} (h : M_messes a1 a2 a3 a4 a5 μ = some (r, μ')) : Vj p l e R s m args below meth c w 7 0 0 (MQ below (QI w r μ') args s 0 0 w.2.2.2) 0 [some (.ref (wad w 12 0)), some (.int a1), some (.int a2), some (.int a3), some (.int a4), some (.int a5), none] [] μ := by
  unfold M_messes at h
  refine V_iload_n (i := 3) G eX12_messes_0 rfl rfl ?_
  refine V_iconst (n := 0) (v := (nI 0)) G eX12_messes_1 rfl ?_
  refine V_bipush (n := 99) (v := (nI 99)) G eX12_messes_2 rfl ?_
  obtain ⟨x1, h1, h⟩ := bdS h
  refine V_callIS (As := [.int a3, .int (nI 0), .int (nI 99)]) (st := []) G lkX12_198 (M_in_ok (μ := μ) h1) (by decide) rfl rfl (Nat.le_of_ble_eq_true rfl) eX12_messes_4 ?_
  refine V_if_eq G eX12_messes_7 h (fun h => ?_) (fun h => ?_)
  · refine V_iconst (n := -1) (v := (-1)) G eX12_messes_42 rfl ?_
    exact V_riM G hr eX12_messes_43 h
  · refine V_iload G eX12_messes_10 rfl ?_
    refine V_if_lt G eX12_messes_12 h (fun h => ?_) (fun h => ?_)
    · refine V_iconst (n := -1) (v := (-1)) G eX12_messes_42 rfl ?_
      exact V_riM G hr eX12_messes_43 h
    · refine V_aload_n (i := 0) G eX12_messes_15 rfl rfl ?_
      refine V_iload G eX12_messes_16 rfl ?_
      obtain ⟨x2, h1, h⟩ := bdS h
      refine V_callI (As := [.int a5]) (st := []) G lkX12_332 (M_isPage_ok h1) (by decide) rfl rfl (Nat.le_of_ble_eq_true rfl) eX12_messes_18 ?_
      refine V_if_eq G eX12_messes_21 h (fun h => ?_) (fun h => ?_)
      · refine V_iconst (n := -1) (v := (-1)) G eX12_messes_42 rfl ?_
        exact V_riM G hr eX12_messes_43 h
      · refine V_aload_n (i := 0) G eX12_messes_24 rfl rfl ?_
        refine V_iload_n (i := 1) G eX12_messes_25 rfl rfl ?_
        refine V_iload_n (i := 2) G eX12_messes_26 rfl rfl ?_
        obtain ⟨⟨x3, μ4⟩, h1, h⟩ := bdS h
        refine V_callI (As := [.int a1, .int a2]) (st := []) G lkX12_486 (M_layMenu_ok h1) (by decide) rfl rfl (Nat.le_of_ble_eq_true rfl) eX12_messes_27 ?_
        refine V_if_eq G eX12_messes_30 h (fun h => ?_) (fun h => ?_)
        · refine V_iconst (n := -1) (v := (-1)) G eX12_messes_42 rfl ?_
          exact V_riM G hr eX12_messes_43 h
        · refine V_iload_n (i := 2) G eX12_messes_33 rfl rfl ?_
          refine V_iload G eX12_messes_34 rfl ?_
          obtain ⟨x5, h1, h⟩ := bdS h
          refine V_callIS (As := [.int a2, .int a5]) (st := []) G lkX12_422 (M_has_ok (μ := μ4) h1) (by decide) rfl rfl (Nat.le_of_ble_eq_true rfl) eX12_messes_36 ?_
          refine V_if_ne G eX12_messes_39 h (fun h => ?_) (fun h => ?_)
          · refine V_aload_n (i := 0) G eX12_messes_44 rfl rfl ?_
            refine V_iload_n (i := 1) G eX12_messes_45 rfl rfl ?_
            refine V_iload_n (i := 3) G eX12_messes_46 rfl rfl ?_
            refine V_iload G eX12_messes_47 rfl ?_
            obtain ⟨μ6, h1, h⟩ := bdS h
            refine V_callV (As := [.int a1, .int a3, .int a4]) (st := []) G lkX12_489 (M_findMenus_ok h1) (by decide) rfl rfl (Nat.le_of_ble_eq_true rfl) eX12_messes_49 ?_
            refine V_iload G eX12_messes_52 rfl ?_
            refine V_aload_n (i := 0) G eX12_messes_54 rfl rfl ?_
            refine V_get (v := .int (mI μ6 1366 0 0)) G fgX12_450 rfl eX12_messes_55 ?_
            refine V_icmp_lt G eX12_messes_58 h (fun h => ?_) (fun h => ?_)
            · refine V_iconst (n := 0) (v := (nI 0)) G eX12_messes_63 rfl ?_
              refine V_istoreA (i := 6) (L' := [some (.ref (wad w 12 0)), some (.int a1), some (.int a2), some (.int a3), some (.int a4), some (.int a5), some (.int (nI 0))]) G eX12_messes_64 (by decide) rfl rfl ?_
              obtain ⟨x7, h1, h⟩ := bdS h
              refine V_sub (lS_s (lS_n (lS_n (lS_n (lS_n (lS_s (lS_s lS_0))))))) ?_
              refine M_messes_l1_ok G h1 ?_
              refine V_aload_n (i := 0) G eX12_messes_84 rfl rfl ?_
              refine V_get (v := .ref (wad w 1363 0)) G fgX12_157 rfl eX12_messes_85 ?_
              refine V_iload G eX12_messes_88 rfl ?_
              refine V_iald G al_1363 (by decide) eX12_messes_90 h (fun x8 h => ?_)
              exact V_riM G hr eX12_messes_91 h
            · refine V_iconst (n := -1) (v := (-1)) G eX12_messes_61 rfl ?_
              exact V_riM G hr eX12_messes_62 h
          · refine V_iconst (n := -1) (v := (-1)) G eX12_messes_42 rfl ?_
            exact V_riM G hr eX12_messes_43 h
theorem M_messes_ok {l : Launch} {w : Wld} {a1 : Int32} {a2 : Int32} {a3 : Int32} {a4 : Int32} {a5 : Int32} {μ : Mem} {r : Int32} {μ' : Mem} (h : M_messes a1 a2 a3 a4 a5 μ = some (r, μ')) : CtI l w yX12_messes cX12_messes 7 .int 66 [.ref (wad w 12 0), .int a1, .int a2, .int a3, .int a4, .int a5] μ r μ' :=
  Ct_of (own := "PotBookModel") [some (.ref (wad w 12 0)), some (.int a1), some (.int a2), some (.int a3), some (.int a4), some (.int a5), none] (by decide +kernel) rfl rfl (Nat.le_of_ble_eq_true rfl) fun p e s m args below meth c G hr => M_messes_run G hr h
set_option maxRecDepth 100000 in
set_option maxHeartbeats 4000000 in
theorem M_months_run {p : Program} {l : Launch} {e : Env} {R : Room} {s : State} {m : MethodId} {args : Array Value} {below : List Frame} {meth : Method} {c : Code} {w : Wld} (G : Cxt p R s m args meth c w cX12_months 2 "PotBookModel" 3 0 0) (hr : meth.sig.returnType = some .int) {a1 : Int32} {μ : Mem} {r : Int32} (h : M_months a1 μ = some r) : Vj p l e R s m args below meth c w 2 0 0 (MQ below (QI w r μ) args s 0 0 w.2.2.2) 0 [some (.ref (wad w 12 0)), some (.int a1)] [] μ := by
  unfold M_months at h
  refine V_aload_n (i := 0) G eX12_months_0 rfl rfl ?_
  refine V_iload_n (i := 1) G eX12_months_1 rfl rfl ?_
  obtain ⟨x1, h1, h⟩ := bdS h
  refine V_callI (As := [.int a1]) (st := []) G lkX12_332 (M_isPage_ok h1) (by decide) rfl rfl (Nat.le_of_ble_eq_true rfl) eX12_months_2 ?_
  refine V_if_eq G eX12_months_5 h (fun h => ?_) (fun h => ?_)
  · refine V_iconst (n := -1) (v := (-1)) G eX12_months_16 rfl ?_
    exact V_ri G hr eX12_months_17 h
  · refine V_aload_n (i := 0) G eX12_months_8 rfl rfl ?_
    refine V_iload_n (i := 1) G eX12_months_9 rfl rfl ?_
    obtain ⟨x2, h1, h⟩ := bdS h
    refine V_callI (As := [.int a1]) (st := []) G lkX12_419 (M_monthsOf_ok h1) (by decide) rfl rfl (Nat.le_of_ble_eq_true rfl) eX12_months_10 ?_
    refine V_goto G eX12_months_13 ?_
    exact V_ri G hr eX12_months_17 h
theorem M_months_ok {l : Launch} {w : Wld} {a1 : Int32} {μ : Mem} {r : Int32} (h : M_months a1 μ = some r) : CtI l w yX12_months cX12_months 2 .int 3 [.ref (wad w 12 0), .int a1] μ r μ :=
  Ct_of (own := "PotBookModel") [some (.ref (wad w 12 0)), some (.int a1)] (by decide +kernel) rfl rfl (Nat.le_of_ble_eq_true rfl) fun p e s m args below meth c G hr => M_months_run G hr h
set_option maxRecDepth 100000 in
set_option maxHeartbeats 4000000 in
theorem M_farOf_l1_ok {p : Program} {l : Launch} {e : Env} {R : Room} {s : State} {m : MethodId} {args : Array Value} {below : List Frame} {meth : Method} {c : Code} {w : Wld} {Q : State → Prop} (G : Cxt p R s m args meth c w cX12_farOf 9 "PotBookModel" 3 0 0) {v1 : Int32} {v2 : Int32} {v3 : Int32} {v4 : Int32} {μo : Mem} : ∀ {n : Nat} {v5 : Int32} {μ : Mem}, M_farOf_l1 v1 v2 v3 v4 n v5 μ = some μo → Vj p l e R s m args below meth c w 9 0 0 Q 40 [some (.ref (wad w 12 0)), some (.int v1), some (.int v2), some (.int v3), some (.int v4), none, none, none, none] [] μo → Vj p l e R s m args below meth c w 9 0 0 Q 18 [some (.ref (wad w 12 0)), some (.int v1), some (.int v2), some (.int v3), some (.int v4), some (.int v5), none, none, none] [] μ := by
  intro n
  induction n with
  | zero => intro v5 μ h K; exact noS h
  | succ n ih =>
    intro v5 μ h K
    replace h : M_farOf_l1b v1 v2 v3 v4 (M_farOf_l1 v1 v2 v3 v4 n) v5 μ = some μo := h
    unfold M_farOf_l1b at h
    refine V_iload G eX12_farOf_18 rfl ?_
    refine V_iload G eX12_farOf_20 rfl ?_
    refine V_icmp_gt G eX12_farOf_22 h (fun h => ?_) (fun h => ?_)
    · cases h; exact V_sub (lS_s (lS_s (lS_s (lS_s (lS_s (lS_n (lS_n (lS_n (lS_n lS_0))))))))) K
    · refine V_aload_n (i := 0) G eX12_farOf_25 rfl rfl ?_
      refine V_get (v := .ref (wad w 1377 0)) G fgX12_160 rfl eX12_farOf_26 ?_
      refine V_iload G eX12_farOf_29 rfl ?_
      refine V_iload G eX12_farOf_31 rfl ?_
      refine V_iast G al_1377 (by decide) eX12_farOf_33 h (fun μ1 h => ?_)
      refine V_iinc (z := (nI 1)) (L' := (fun x2 => [some (.ref (wad w 12 0)), some (.int v1), some (.int v2), some (.int v3), some (.int v4), some (.int x2), none, none, none])) G eX12_farOf_34 rfl rfl (by decide) rfl (fun _ => rfl) h (fun x2 h => ?_)
      refine V_goto G eX12_farOf_37 ?_
      exact (ih h K)
set_option maxRecDepth 100000 in
set_option maxHeartbeats 4000000 in
theorem M_farOf_l3_ok {p : Program} {l : Launch} {e : Env} {R : Room} {s : State} {m : MethodId} {args : Array Value} {below : List Frame} {meth : Method} {c : Code} {w : Wld} {Q : State → Prop} (G : Cxt p R s m args meth c w cX12_farOf 9 "PotBookModel" 3 0 0) {v1 : Int32} {v2 : Int32} {v3 : Int32} {v4 : Int32} {v5 : Int32} {μo : Mem} : ∀ {n : Nat} {v6 : Int32} {v7 : Int32} {μ : Mem}, M_farOf_l3 v1 v2 v3 v4 v5 n v6 v7 μ = some μo → Vj p l e R s m args below meth c w 9 0 0 Q 164 [some (.ref (wad w 12 0)), some (.int v1), some (.int v2), some (.int v3), some (.int v4), some (.int v5), none, none, none] [] μo → Vj p l e R s m args below meth c w 9 0 0 Q 68 [some (.ref (wad w 12 0)), some (.int v1), some (.int v2), some (.int v3), some (.int v4), some (.int v5), some (.int v6), some (.int v7), none] [] μ := by
  intro n
  induction n with
  | zero => intro v6 v7 μ h K; exact noS h
  | succ n ih =>
    intro v6 v7 μ h K
    replace h : M_farOf_l3b v1 v2 v3 v4 v5 (M_farOf_l3 v1 v2 v3 v4 v5 n) v6 v7 μ = some μo := h
    unfold M_farOf_l3b at h
    refine V_iload G eX12_farOf_68 rfl ?_
    refine V_iload G eX12_farOf_70 rfl ?_
    refine V_icmp_gt G eX12_farOf_72 h (fun h => ?_) (fun h => ?_)
    · cases h; exact V_sub (lS_s (lS_s (lS_s (lS_s (lS_s (lS_s (lS_n (lS_n (lS_n lS_0))))))))) K
    · refine V_iload G eX12_farOf_75 rfl ?_
      refine V_aload_n (i := 0) G eX12_farOf_77 rfl rfl ?_
      refine V_get (v := .ref (wad w 1320 0)) G fgX12_53 rfl eX12_farOf_78 ?_
      refine V_bipush (n := 72) (v := (nI 72)) G eX12_farOf_81 rfl ?_
      refine V_iload_n (i := 1) G eX12_farOf_83 rfl rfl ?_
      refine V_imul G eX12_farOf_84 ?_
      refine V_iload G eX12_farOf_85 rfl ?_
      refine V_iadd G eX12_farOf_87 ?_
      refine V_iconst (n := 1) (v := (nI 1)) G eX12_farOf_88 rfl ?_
      refine V_isub G eX12_farOf_89 ?_
      refine V_iald G al_1320 (by decide) eX12_farOf_90 h (fun x1 h => ?_)
      refine V_aload_n (i := 0) G eX12_farOf_91 rfl rfl ?_
      refine V_get (v := .ref (wad w 1320 0)) G fgX12_53 rfl eX12_farOf_92 ?_
      refine V_bipush (n := 72) (v := (nI 72)) G eX12_farOf_95 rfl ?_
      refine V_iload_n (i := 2) G eX12_farOf_97 rfl rfl ?_
      refine V_imul G eX12_farOf_98 ?_
      refine V_iload G eX12_farOf_99 rfl ?_
      refine V_iadd G eX12_farOf_101 ?_
      refine V_iconst (n := 1) (v := (nI 1)) G eX12_farOf_102 rfl ?_
      refine V_isub G eX12_farOf_103 ?_
      refine V_iald G al_1320 (by decide) eX12_farOf_104 h (fun x2 h => ?_)
      obtain ⟨x3, hj, h⟩ := bdS h
      have J : Vj p l e R s m args below meth c w 9 0 0 Q 113 [some (.ref (wad w 12 0)), some (.int v1), some (.int v2), some (.int v3), some (.int v4), some (.int v5), none, some (.int v7), none] [.int x3, .int v6] μ := by
        clear hj
        refine V_iadd G eX12_farOf_113 ?_
        refine V_istore (i := 8) (L' := (fun x4 => [some (.ref (wad w 12 0)), some (.int v1), some (.int v2), some (.int v3), some (.int v4), some (.int v5), none, some (.int v7), some (.int x4)])) G eX12_farOf_114 (by decide) rfl (fun _ => rfl) h (fun x4 h => ?_)
        refine V_aload_n (i := 0) G eX12_farOf_116 rfl rfl ?_
        refine V_get (v := .ref (wad w 1377 0)) G fgX12_160 rfl eX12_farOf_117 ?_
        refine V_iload G eX12_farOf_120 rfl ?_
        refine V_iald G al_1377 (by decide) eX12_farOf_122 h (fun x5 h => ?_)
        refine V_istoreA (i := 6) (L' := [some (.ref (wad w 12 0)), some (.int v1), some (.int v2), some (.int v3), some (.int v4), some (.int v5), some (.int x5), some (.int v7), some (.int x4)]) G eX12_farOf_123 (by decide) rfl rfl ?_
        refine V_aload_n (i := 0) G eX12_farOf_125 rfl rfl ?_
        refine V_get (v := .ref (wad w 1377 0)) G fgX12_160 rfl eX12_farOf_126 ?_
        refine V_iload G eX12_farOf_129 rfl ?_
        refine V_iload G eX12_farOf_131 rfl ?_
        refine V_aload_n (i := 0) G eX12_farOf_133 rfl rfl ?_
        refine V_get (v := .ref (wad w 1377 0)) G fgX12_160 rfl eX12_farOf_134 ?_
        refine V_iload G eX12_farOf_137 rfl ?_
        refine V_iald G al_1377 (by decide) eX12_farOf_139 h (fun x6 h => ?_)
        refine V_aload_n (i := 0) G eX12_farOf_140 rfl rfl ?_
        refine V_get (v := .ref (wad w 1377 0)) G fgX12_160 rfl eX12_farOf_141 ?_
        refine V_iload G eX12_farOf_144 rfl ?_
        refine V_iconst (n := 1) (v := (nI 1)) G eX12_farOf_146 rfl ?_
        refine V_isub G eX12_farOf_147 ?_
        refine V_iald G al_1377 (by decide) eX12_farOf_148 h (fun x7 h => ?_)
        refine V_jMin G mkX12_382 (by decide) (Nat.le_of_ble_eq_true rfl) eX12_farOf_149 ?_
        refine V_iconst (n := 1) (v := (nI 1)) G eX12_farOf_152 rfl ?_
        refine V_iadd G eX12_farOf_153 ?_
        refine V_jMin G mkX12_382 (by decide) (Nat.le_of_ble_eq_true rfl) eX12_farOf_154 ?_
        refine V_iast G al_1377 (by decide) eX12_farOf_157 h (fun μ8 h => ?_)
        refine V_iinc (z := (nI 1)) (L' := (fun x9 => [some (.ref (wad w 12 0)), some (.int v1), some (.int v2), some (.int v3), some (.int v4), some (.int v5), some (.int x5), some (.int x9), some (.int x4)])) G eX12_farOf_158 rfl rfl (by decide) rfl (fun _ => rfl) h (fun x9 h => ?_)
        refine V_goto G eX12_farOf_161 ?_
        exact V_sub (lS_s (lS_s (lS_s (lS_s (lS_s (lS_s (lS_s (lS_s (lS_n lS_0))))))))) (ih h K)
      replace h := hj
      clear hj
      refine V_icmp_ne G eX12_farOf_105 h (fun h => ?_) (fun h => ?_)
      · refine V_iconst (n := 1) (v := (nI 1)) G eX12_farOf_112 rfl ?_
        cases h; exact V_sub (lS_s (lS_s (lS_s (lS_s (lS_s (lS_s (lS_n (lS_s (lS_n lS_0))))))))) J
      · refine V_iconst (n := 0) (v := (nI 0)) G eX12_farOf_108 rfl ?_
        refine V_goto G eX12_farOf_109 ?_
        cases h; exact V_sub (lS_s (lS_s (lS_s (lS_s (lS_s (lS_s (lS_n (lS_s (lS_n lS_0))))))))) J
set_option maxRecDepth 100000 in
set_option maxHeartbeats 4000000 in
theorem M_farOf_l2_ok {p : Program} {l : Launch} {e : Env} {R : Room} {s : State} {m : MethodId} {args : Array Value} {below : List Frame} {meth : Method} {c : Code} {w : Wld} {Q : State → Prop} (G : Cxt p R s m args meth c w cX12_farOf 9 "PotBookModel" 3 0 0) {v1 : Int32} {v2 : Int32} {v3 : Int32} {v4 : Int32} {μo : Mem} : ∀ {n : Nat} {v5 : Int32} {μ : Mem}, M_farOf_l2 v1 v2 v3 v4 n v5 μ = some μo → Vj p l e R s m args below meth c w 9 0 0 Q 170 [some (.ref (wad w 12 0)), some (.int v1), some (.int v2), none, some (.int v4), none, none, none, none] [] μo → Vj p l e R s m args below meth c w 9 0 0 Q 43 [some (.ref (wad w 12 0)), some (.int v1), some (.int v2), some (.int v3), some (.int v4), some (.int v5), none, none, none] [] μ := by
  intro n
  induction n with
  | zero => intro v5 μ h K; exact noS h
  | succ n ih =>
    intro v5 μ h K
    replace h : M_farOf_l2b v1 v2 v3 v4 (M_farOf_l2 v1 v2 v3 v4 n) v5 μ = some μo := h
    unfold M_farOf_l2b at h
    refine V_iload G eX12_farOf_43 rfl ?_
    refine V_iload_n (i := 3) G eX12_farOf_45 rfl rfl ?_
    refine V_icmp_gt G eX12_farOf_46 h (fun h => ?_) (fun h => ?_)
    · cases h; exact V_sub (lS_s (lS_s (lS_s (lS_n (lS_s (lS_n (lS_n (lS_n (lS_n lS_0))))))))) K
    · refine V_aload_n (i := 0) G eX12_farOf_49 rfl rfl ?_
      refine V_get (v := .ref (wad w 1377 0)) G fgX12_160 rfl eX12_farOf_50 ?_
      refine V_iconst (n := 0) (v := (nI 0)) G eX12_farOf_53 rfl ?_
      refine V_iald G al_1377 (by decide) eX12_farOf_54 h (fun x1 h => ?_)
      refine V_istoreA (i := 6) (L' := [some (.ref (wad w 12 0)), some (.int v1), some (.int v2), some (.int v3), some (.int v4), some (.int v5), some (.int x1), none, none]) G eX12_farOf_55 (by decide) rfl rfl ?_
      refine V_aload_n (i := 0) G eX12_farOf_57 rfl rfl ?_
      refine V_get (v := .ref (wad w 1377 0)) G fgX12_160 rfl eX12_farOf_58 ?_
      refine V_iconst (n := 0) (v := (nI 0)) G eX12_farOf_61 rfl ?_
      refine V_iload G eX12_farOf_62 rfl ?_
      refine V_iast G al_1377 (by decide) eX12_farOf_64 h (fun μ2 h => ?_)
      refine V_iconst (n := 1) (v := (nI 1)) G eX12_farOf_65 rfl ?_
      refine V_istoreA (i := 7) (L' := [some (.ref (wad w 12 0)), some (.int v1), some (.int v2), some (.int v3), some (.int v4), some (.int v5), some (.int x1), some (.int (nI 1)), none]) G eX12_farOf_66 (by decide) rfl rfl ?_
      obtain ⟨μ3, h1, h⟩ := bdS h
      refine M_farOf_l3_ok G h1 ?_
      refine V_iinc (z := (nI 1)) (L' := (fun x4 => [some (.ref (wad w 12 0)), some (.int v1), some (.int v2), some (.int v3), some (.int v4), some (.int x4), none, none, none])) G eX12_farOf_164 rfl rfl (by decide) rfl (fun _ => rfl) h (fun x4 h => ?_)
      refine V_goto G eX12_farOf_167 ?_
      exact (ih h K)
set_option maxRecDepth 100000 in
set_option maxHeartbeats 4000000 in
theorem M_farOf_run {p : Program} {l : Launch} {e : Env} {R : Room} {s : State} {m : MethodId} {args : Array Value} {below : List Frame} {meth : Method} {c : Code} {w : Wld} (G : Cxt p R s m args meth c w cX12_farOf 9 "PotBookModel" 3 0 0) (hr : meth.sig.returnType = some .int) {a1 : Int32} {a2 : Int32} {μ : Mem} {r : Int32} {μ' : Mem} (h : M_farOf a1 a2 μ = some (r, μ')) : Vj p l e R s m args below meth c w 9 0 0 (MQ below (QI w r μ') args s 0 0 w.2.2.2) 0 [some (.ref (wad w 12 0)), some (.int a1), some (.int a2), none, none, none, none, none, none] [] μ := by
  unfold M_farOf at h
  refine V_aload_n (i := 0) G eX12_farOf_0 rfl rfl ?_
  refine V_get (v := .ref (wad w 1319 0)) G fgX12_50 rfl eX12_farOf_1 ?_
  refine V_iload_n (i := 1) G eX12_farOf_4 rfl rfl ?_
  refine V_iald G al_1319 (by decide) eX12_farOf_5 h (fun x1 h => ?_)
  refine V_istoreA_n (i := 3) (L' := [some (.ref (wad w 12 0)), some (.int a1), some (.int a2), some (.int x1), none, none, none, none, none]) G rfl eX12_farOf_6 (by decide) rfl rfl ?_
  refine V_aload_n (i := 0) G eX12_farOf_7 rfl rfl ?_
  refine V_get (v := .ref (wad w 1319 0)) G fgX12_50 rfl eX12_farOf_8 ?_
  refine V_iload_n (i := 2) G eX12_farOf_11 rfl rfl ?_
  refine V_iald G al_1319 (by decide) eX12_farOf_12 h (fun x2 h => ?_)
  refine V_istoreA (i := 4) (L' := [some (.ref (wad w 12 0)), some (.int a1), some (.int a2), some (.int x1), some (.int x2), none, none, none, none]) G eX12_farOf_13 (by decide) rfl rfl ?_
  refine V_iconst (n := 0) (v := (nI 0)) G eX12_farOf_15 rfl ?_
  refine V_istoreA (i := 5) (L' := [some (.ref (wad w 12 0)), some (.int a1), some (.int a2), some (.int x1), some (.int x2), some (.int (nI 0)), none, none, none]) G eX12_farOf_16 (by decide) rfl rfl ?_
  obtain ⟨μ3, h1, h⟩ := bdS h
  refine M_farOf_l1_ok G h1 ?_
  refine V_iconst (n := 1) (v := (nI 1)) G eX12_farOf_40 rfl ?_
  refine V_istoreA (i := 5) (L' := [some (.ref (wad w 12 0)), some (.int a1), some (.int a2), some (.int x1), some (.int x2), some (.int (nI 1)), none, none, none]) G eX12_farOf_41 (by decide) rfl rfl ?_
  obtain ⟨μ4, h1, h⟩ := bdS h
  refine M_farOf_l2_ok G h1 ?_
  refine V_aload_n (i := 0) G eX12_farOf_170 rfl rfl ?_
  refine V_iload_n (i := 1) G eX12_farOf_171 rfl rfl ?_
  obtain ⟨x5, h1, h⟩ := bdS h
  refine V_callI (As := [.int a1]) (st := []) G lkX12_335 (M_thingsOf_ok h1) (by decide) rfl rfl (Nat.le_of_ble_eq_true rfl) eX12_farOf_172 ?_
  refine V_aload_n (i := 0) G eX12_farOf_175 rfl rfl ?_
  refine V_iload_n (i := 2) G eX12_farOf_176 rfl rfl ?_
  obtain ⟨x6, h1, h⟩ := bdS h
  refine V_callI (As := [.int a2]) (st := [.int x5]) G lkX12_335 (M_thingsOf_ok h1) (by decide) rfl rfl (Nat.le_of_ble_eq_true rfl) eX12_farOf_177 ?_
  refine V_ixor G eX12_farOf_180 ?_
  obtain ⟨x7, h1, h⟩ := bdS h
  refine V_callIS (As := [.int (x5 ^^^ x6)]) (st := []) G lkX12_432 (M_bits_ok (μ := μ4) h1) (by decide) rfl rfl (Nat.le_of_ble_eq_true rfl) eX12_farOf_181 ?_
  refine V_aload_n (i := 0) G eX12_farOf_184 rfl rfl ?_
  refine V_get (v := .ref (wad w 1377 0)) G fgX12_160 rfl eX12_farOf_185 ?_
  refine V_iload G eX12_farOf_188 rfl ?_
  refine V_iald G al_1377 (by decide) eX12_farOf_190 h (fun x8 h => ?_)
  refine V_iadd G eX12_farOf_191 ?_
  exact V_riM G hr eX12_farOf_192 h
theorem M_farOf_ok {l : Launch} {w : Wld} {a1 : Int32} {a2 : Int32} {μ : Mem} {r : Int32} {μ' : Mem} (h : M_farOf a1 a2 μ = some (r, μ')) : CtI l w yX12_farOf cX12_farOf 9 .int 3 [.ref (wad w 12 0), .int a1, .int a2] μ r μ' :=
  Ct_of (own := "PotBookModel") [some (.ref (wad w 12 0)), some (.int a1), some (.int a2), none, none, none, none, none, none] (by decide +kernel) rfl rfl (Nat.le_of_ble_eq_true rfl) fun p e s m args below meth c G hr => M_farOf_run G hr h
set_option maxRecDepth 100000 in
set_option maxHeartbeats 4000000 in
theorem M_far_run {p : Program} {l : Launch} {e : Env} {R : Room} {s : State} {m : MethodId} {args : Array Value} {below : List Frame} {meth : Method} {c : Code} {w : Wld} (G : Cxt p R s m args meth c w cX12_far 3 "PotBookModel" 4 0 0) (hr : meth.sig.returnType = some .int) {a1 : Int32} {a2 : Int32} {μ : Mem} {r : Int32} {μ' : Mem} (h : M_far a1 a2 μ = some (r, μ')) : Vj p l e R s m args below meth c w 3 0 0 (MQ below (QI w r μ') args s 0 0 w.2.2.2) 0 [some (.ref (wad w 12 0)), some (.int a1), some (.int a2)] [] μ := by
  unfold M_far at h
  refine V_aload_n (i := 0) G eX12_far_0 rfl rfl ?_
  refine V_iload_n (i := 1) G eX12_far_1 rfl rfl ?_
  obtain ⟨x1, h1, h⟩ := bdS h
  refine V_callI (As := [.int a1]) (st := []) G lkX12_332 (M_isPage_ok h1) (by decide) rfl rfl (Nat.le_of_ble_eq_true rfl) eX12_far_2 ?_
  refine V_if_eq G eX12_far_5 h (fun h => ?_) (fun h => ?_)
  · refine V_iconst (n := -1) (v := (-1)) G eX12_far_25 rfl ?_
    exact V_riM G hr eX12_far_26 h
  · refine V_aload_n (i := 0) G eX12_far_8 rfl rfl ?_
    refine V_iload_n (i := 2) G eX12_far_9 rfl rfl ?_
    obtain ⟨x2, h1, h⟩ := bdS h
    refine V_callI (As := [.int a2]) (st := []) G lkX12_332 (M_isPage_ok h1) (by decide) rfl rfl (Nat.le_of_ble_eq_true rfl) eX12_far_10 ?_
    refine V_if_eq G eX12_far_13 h (fun h => ?_) (fun h => ?_)
    · refine V_iconst (n := -1) (v := (-1)) G eX12_far_25 rfl ?_
      exact V_riM G hr eX12_far_26 h
    · refine V_aload_n (i := 0) G eX12_far_16 rfl rfl ?_
      refine V_iload_n (i := 1) G eX12_far_17 rfl rfl ?_
      refine V_iload_n (i := 2) G eX12_far_18 rfl rfl ?_
      obtain ⟨⟨x3, μ4⟩, h1, h⟩ := bdS h
      refine V_callI (As := [.int a1, .int a2]) (st := []) G lkX12_492 (M_farOf_ok h1) (by decide) rfl rfl (Nat.le_of_ble_eq_true rfl) eX12_far_19 ?_
      refine V_goto G eX12_far_22 ?_
      exact V_riM G hr eX12_far_26 h
theorem M_far_ok {l : Launch} {w : Wld} {a1 : Int32} {a2 : Int32} {μ : Mem} {r : Int32} {μ' : Mem} (h : M_far a1 a2 μ = some (r, μ')) : CtI l w yX12_far cX12_far 3 .int 4 [.ref (wad w 12 0), .int a1, .int a2] μ r μ' :=
  Ct_of (own := "PotBookModel") [some (.ref (wad w 12 0)), some (.int a1), some (.int a2)] (by decide +kernel) rfl rfl (Nat.le_of_ble_eq_true rfl) fun p e s m args below meth c G hr => M_far_run G hr h
set_option maxRecDepth 100000 in
set_option maxHeartbeats 4000000 in
theorem M_came_l1_ok {p : Program} {l : Launch} {e : Env} {R : Room} {s : State} {m : MethodId} {args : Array Value} {below : List Frame} {meth : Method} {c : Code} {w : Wld} {Q : State → Prop} (G : Cxt p R s m args meth c w cX12_came 4 "PotBookModel" 4 0 0) {v1 : Int32} {o1 : Int32} {μo : Mem} : ∀ {n : Nat} {v2 : Int32} {v3 : Int32} {μ : Mem}, M_came_l1 v1 n v2 v3 μ = some (o1, μo) → Vj p l e R s m args below meth c w 4 0 0 Q 51 [none, none, some (.int o1), none] [] μo → Vj p l e R s m args below meth c w 4 0 0 Q 14 [some (.ref (wad w 12 0)), some (.int v1), some (.int v2), some (.int v3)] [] μ := by
  intro n
  induction n with
  | zero => intro v2 v3 μ h K; exact noS h
  | succ n ih =>
    intro v2 v3 μ h K
    replace h : M_came_l1b v1 (M_came_l1 v1 n) v2 v3 μ = some (o1, μo) := h
    unfold M_came_l1b at h
    refine V_iload_n (i := 3) G eX12_came_14 rfl rfl ?_
    refine V_iload_n (i := 1) G eX12_came_15 rfl rfl ?_
    refine V_icmp_ge G eX12_came_16 h (fun h => ?_) (fun h => ?_)
    · cases h; exact V_sub (lS_n (lS_n (lS_s (lS_n lS_0)))) K
    · refine V_iload_n (i := 2) G eX12_came_19 rfl rfl ?_
      refine V_iconst (n := -1) (v := (-1)) G eX12_came_20 rfl ?_
      obtain ⟨⟨x5, μ6⟩, hj, h⟩ := bdS h
      have J : Vj p l e R s m args below meth c w 4 0 0 Q 44 [some (.ref (wad w 12 0)), some (.int v1), none, some (.int v3)] [.int x5] μ6 := by
        clear hj
        refine V_istoreA_n (i := 2) (L' := [some (.ref (wad w 12 0)), some (.int v1), some (.int x5), some (.int v3)]) G rfl eX12_came_44 (by decide) rfl rfl ?_
        refine V_iinc (z := (nI 1)) (L' := (fun x7 => [some (.ref (wad w 12 0)), some (.int v1), some (.int x5), some (.int x7)])) G eX12_came_45 rfl rfl (by decide) rfl (fun _ => rfl) h (fun x7 h => ?_)
        refine V_goto G eX12_came_48 ?_
        exact (ih h K)
      replace h := hj
      clear hj
      refine V_icmp_eq G eX12_came_21 h (fun h => ?_) (fun h => ?_)
      · refine V_iload_n (i := 3) G eX12_came_39 rfl rfl ?_
        refine V_goto G eX12_came_40 ?_
        cases h; exact V_sub (lS_s (lS_s (lS_n (lS_s lS_0)))) J
      · refine V_aload_n (i := 0) G eX12_came_24 rfl rfl ?_
        refine V_iload_n (i := 1) G eX12_came_25 rfl rfl ?_
        refine V_iload_n (i := 3) G eX12_came_26 rfl rfl ?_
        obtain ⟨⟨x1, μ2⟩, h1, h⟩ := bdS h
        refine V_callI (As := [.int v1, .int v3]) (st := []) G lkX12_492 (M_farOf_ok h1) (by decide) rfl rfl (Nat.le_of_ble_eq_true rfl) eX12_came_27 ?_
        refine V_aload_n (i := 0) G eX12_came_30 rfl rfl ?_
        refine V_iload_n (i := 1) G eX12_came_31 rfl rfl ?_
        refine V_iload_n (i := 2) G eX12_came_32 rfl rfl ?_
        obtain ⟨⟨x3, μ4⟩, h1, h⟩ := bdS h
        refine V_callI (As := [.int v1, .int v2]) (st := [.int x1]) G lkX12_492 (M_farOf_ok h1) (by decide) rfl rfl (Nat.le_of_ble_eq_true rfl) eX12_came_33 ?_
        refine V_icmp_ge G eX12_came_36 h (fun h => ?_) (fun h => ?_)
        · refine V_iload_n (i := 2) G eX12_came_43 rfl rfl ?_
          cases h; exact V_sub (lS_s (lS_s (lS_n (lS_s lS_0)))) J
        · refine V_iload_n (i := 3) G eX12_came_39 rfl rfl ?_
          refine V_goto G eX12_came_40 ?_
          cases h; exact V_sub (lS_s (lS_s (lS_n (lS_s lS_0)))) J
set_option maxRecDepth 100000 in
set_option maxHeartbeats 4000000 in
theorem M_came_run {p : Program} {l : Launch} {e : Env} {R : Room} {s : State} {m : MethodId} {args : Array Value} {below : List Frame} {meth : Method} {c : Code} {w : Wld} (G : Cxt p R s m args meth c w cX12_came 4 "PotBookModel" 4 0 0) (hr : meth.sig.returnType = some .int) {a1 : Int32} {μ : Mem} {r : Int32} {μ' : Mem} (h : M_came a1 μ = some (r, μ')) : Vj p l e R s m args below meth c w 4 0 0 (MQ below (QI w r μ') args s 0 0 w.2.2.2) 0 [some (.ref (wad w 12 0)), some (.int a1), none, none] [] μ := by
  unfold M_came at h
  refine V_aload_n (i := 0) G eX12_came_0 rfl rfl ?_
  refine V_iload_n (i := 1) G eX12_came_1 rfl rfl ?_
  obtain ⟨x1, h1, h⟩ := bdS h
  refine V_callI (As := [.int a1]) (st := []) G lkX12_332 (M_isPage_ok h1) (by decide) rfl rfl (Nat.le_of_ble_eq_true rfl) eX12_came_2 ?_
  refine V_if_ne G eX12_came_5 h (fun h => ?_) (fun h => ?_)
  · refine V_iconst (n := -1) (v := (-1)) G eX12_came_10 rfl ?_
    refine V_istoreA_n (i := 2) (L' := [some (.ref (wad w 12 0)), some (.int a1), some (.int (-1)), none]) G rfl eX12_came_11 (by decide) rfl rfl ?_
    refine V_iconst (n := 0) (v := (nI 0)) G eX12_came_12 rfl ?_
    refine V_istoreA_n (i := 3) (L' := [some (.ref (wad w 12 0)), some (.int a1), some (.int (-1)), some (.int (nI 0))]) G rfl eX12_came_13 (by decide) rfl rfl ?_
    obtain ⟨⟨x2, μ3⟩, h1, h⟩ := bdS h
    refine M_came_l1_ok G h1 ?_
    refine V_iload_n (i := 2) G eX12_came_51 rfl rfl ?_
    exact V_riM G hr eX12_came_52 h
  · refine V_iconst (n := -1) (v := (-1)) G eX12_came_8 rfl ?_
    exact V_riM G hr eX12_came_9 h
theorem M_came_ok {l : Launch} {w : Wld} {a1 : Int32} {μ : Mem} {r : Int32} {μ' : Mem} (h : M_came a1 μ = some (r, μ')) : CtI l w yX12_came cX12_came 4 .int 4 [.ref (wad w 12 0), .int a1] μ r μ' :=
  Ct_of (own := "PotBookModel") [some (.ref (wad w 12 0)), some (.int a1), none, none] (by decide +kernel) rfl rfl (Nat.le_of_ble_eq_true rfl) fun p e s m args below meth c G hr => M_came_run G hr h
set_option maxRecDepth 100000 in
set_option maxHeartbeats 4000000 in
theorem M_tree_l1_ok {p : Program} {l : Launch} {e : Env} {R : Room} {s : State} {m : MethodId} {args : Array Value} {below : List Frame} {meth : Method} {c : Code} {w : Wld} {Q : State → Prop} (G : Cxt p R s m args meth c w cX12_tree 5 "PotBookModel" 4 0 0) {μo : Mem} : ∀ {n : Nat} {v1 : Int32} {μ : Mem}, M_tree_l1 n v1 μ = some μo → Vj p l e R s m args below meth c w 5 0 0 Q 36 [some (.ref (wad w 12 0)), none, none, none, none] [] μo → Vj p l e R s m args below meth c w 5 0 0 Q 2 [some (.ref (wad w 12 0)), some (.int v1), none, none, none] [] μ := by
  intro n
  induction n with
  | zero => intro v1 μ h K; exact noS h
  | succ n ih =>
    intro v1 μ h K
    replace h : M_tree_l1b (M_tree_l1 n) v1 μ = some μo := h
    unfold M_tree_l1b at h
    refine V_iload_n (i := 1) G eX12_tree_2 rfl rfl ?_
    refine V_aload_n (i := 0) G eX12_tree_3 rfl rfl ?_
    refine V_get (v := .int (mI μ 1322 0 0)) G fgX12_299 rfl eX12_tree_4 ?_
    refine V_icmp_ge G eX12_tree_7 h (fun h => ?_) (fun h => ?_)
    · cases h; exact V_sub (lS_s (lS_n (lS_n (lS_n (lS_n lS_0))))) K
    · refine V_aload_n (i := 0) G eX12_tree_10 rfl rfl ?_
      refine V_get (v := .ref (wad w 1378 0)) G fgX12_163 rfl eX12_tree_11 ?_
      refine V_iload_n (i := 1) G eX12_tree_14 rfl rfl ?_
      refine V_iload_n (i := 1) G eX12_tree_15 rfl rfl ?_
      obtain ⟨⟨x3, μ4⟩, hj, h⟩ := bdS h
      have J : Vj p l e R s m args below meth c w 5 0 0 Q 29 [some (.ref (wad w 12 0)), some (.int v1), none, none, none] [.int x3, .int v1, .ref (wad w 1378 0)] μ4 := by
        clear hj
        refine V_iast G al_1378 (by decide) eX12_tree_29 h (fun μ5 h => ?_)
        refine V_iinc (z := (nI 1)) (L' := (fun x6 => [some (.ref (wad w 12 0)), some (.int x6), none, none, none])) G eX12_tree_30 rfl rfl (by decide) rfl (fun _ => rfl) h (fun x6 h => ?_)
        refine V_goto G eX12_tree_33 ?_
        exact (ih h K)
      replace h := hj
      clear hj
      refine V_if_ne G eX12_tree_16 h (fun h => ?_) (fun h => ?_)
      · refine V_aload_n (i := 0) G eX12_tree_23 rfl rfl ?_
        refine V_iconst (n := 0) (v := (nI 0)) G eX12_tree_24 rfl ?_
        refine V_iload_n (i := 1) G eX12_tree_25 rfl rfl ?_
        obtain ⟨⟨x1, μ2⟩, h1, h⟩ := bdS h
        refine V_callI (As := [.int (nI 0), .int v1]) (st := [.int v1, .ref (wad w 1378 0)]) G lkX12_492 (M_farOf_ok h1) (by decide) rfl rfl (Nat.le_of_ble_eq_true rfl) eX12_tree_26 ?_
        cases h; exact J
      · refine V_iconst (n := -1) (v := (-1)) G eX12_tree_19 rfl ?_
        refine V_goto G eX12_tree_20 ?_
        cases h; exact J
set_option maxRecDepth 100000 in
set_option maxHeartbeats 4000000 in
theorem M_tree_l3_ok {p : Program} {l : Launch} {e : Env} {R : Room} {s : State} {m : MethodId} {args : Array Value} {below : List Frame} {meth : Method} {c : Code} {w : Wld} {Q : State → Prop} (G : Cxt p R s m args meth c w cX12_tree 5 "PotBookModel" 4 0 0) {v1 : Int32} {v2 : Int32} {μ : Mem} {o1 : Int32} : ∀ {n : Nat} {v3 : Int32} {v4 : Int32}, M_tree_l3 v1 v2 μ n v3 v4 = some o1 → Vj p l e R s m args below meth c w 5 0 0 Q 107 [some (.ref (wad w 12 0)), some (.int v1), some (.int v2), some (.int o1), none] [] μ → Vj p l e R s m args below meth c w 5 0 0 Q 53 [some (.ref (wad w 12 0)), some (.int v1), some (.int v2), some (.int v3), some (.int v4)] [] μ := by
  intro n
  induction n with
  | zero => intro v3 v4 h K; exact noS h
  | succ n ih =>
    intro v3 v4 h K
    replace h : M_tree_l3b v1 v2 μ (M_tree_l3 v1 v2 μ n) v3 v4 = some o1 := h
    unfold M_tree_l3b at h
    refine V_iload G eX12_tree_53 rfl ?_
    refine V_aload_n (i := 0) G eX12_tree_55 rfl rfl ?_
    refine V_get (v := .int (mI μ 1322 0 0)) G fgX12_299 rfl eX12_tree_56 ?_
    refine V_icmp_ge G eX12_tree_59 h (fun h => ?_) (fun h => ?_)
    · cases h; exact V_sub (lS_s (lS_s (lS_s (lS_s (lS_n lS_0))))) K
    · refine V_aload_n (i := 0) G eX12_tree_62 rfl rfl ?_
      refine V_get (v := .ref (wad w 1378 0)) G fgX12_163 rfl eX12_tree_63 ?_
      refine V_iload G eX12_tree_66 rfl ?_
      refine V_iald G al_1378 (by decide) eX12_tree_68 h (fun x1 h => ?_)
      refine V_iconst (n := -1) (v := (-1)) G eX12_tree_69 rfl ?_
      obtain ⟨x4, hj, h⟩ := bdS h
      have J : Vj p l e R s m args below meth c w 5 0 0 Q 100 [some (.ref (wad w 12 0)), some (.int v1), some (.int v2), none, some (.int v4)] [.int x4] μ := by
        clear hj
        refine V_istoreA_n (i := 3) (L' := [some (.ref (wad w 12 0)), some (.int v1), some (.int v2), some (.int x4), some (.int v4)]) G rfl eX12_tree_100 (by decide) rfl rfl ?_
        refine V_iinc (z := (nI 1)) (L' := (fun x5 => [some (.ref (wad w 12 0)), some (.int v1), some (.int v2), some (.int x4), some (.int x5)])) G eX12_tree_101 rfl rfl (by decide) rfl (fun _ => rfl) h (fun x5 h => ?_)
        refine V_goto G eX12_tree_104 ?_
        exact (ih h K)
      replace h := hj
      clear hj
      refine V_icmp_eq G eX12_tree_70 h (fun h => ?_) (fun h => ?_)
      · refine V_iload_n (i := 3) G eX12_tree_99 rfl rfl ?_
        cases h; exact V_sub (lS_s (lS_s (lS_s (lS_n (lS_s lS_0))))) J
      · refine V_iload_n (i := 3) G eX12_tree_73 rfl rfl ?_
        refine V_iconst (n := -1) (v := (-1)) G eX12_tree_74 rfl ?_
        refine V_icmp_eq G eX12_tree_75 h (fun h => ?_) (fun h => ?_)
        · refine V_iload G eX12_tree_94 rfl ?_
          refine V_goto G eX12_tree_96 ?_
          cases h; exact V_sub (lS_s (lS_s (lS_s (lS_n (lS_s lS_0))))) J
        · refine V_aload_n (i := 0) G eX12_tree_78 rfl rfl ?_
          refine V_get (v := .ref (wad w 1378 0)) G fgX12_163 rfl eX12_tree_79 ?_
          refine V_iload G eX12_tree_82 rfl ?_
          refine V_iald G al_1378 (by decide) eX12_tree_84 h (fun x2 h => ?_)
          refine V_aload_n (i := 0) G eX12_tree_85 rfl rfl ?_
          refine V_get (v := .ref (wad w 1378 0)) G fgX12_163 rfl eX12_tree_86 ?_
          refine V_iload_n (i := 3) G eX12_tree_89 rfl rfl ?_
          refine V_iald G al_1378 (by decide) eX12_tree_90 h (fun x3 h => ?_)
          refine V_icmp_ge G eX12_tree_91 h (fun h => ?_) (fun h => ?_)
          · refine V_iload_n (i := 3) G eX12_tree_99 rfl rfl ?_
            cases h; exact V_sub (lS_s (lS_s (lS_s (lS_n (lS_s lS_0))))) J
          · refine V_iload G eX12_tree_94 rfl ?_
            refine V_goto G eX12_tree_96 ?_
            cases h; exact V_sub (lS_s (lS_s (lS_s (lS_n (lS_s lS_0))))) J
set_option maxRecDepth 100000 in
set_option maxHeartbeats 4000000 in
theorem M_tree_l4_ok {p : Program} {l : Launch} {e : Env} {R : Room} {s : State} {m : MethodId} {args : Array Value} {below : List Frame} {meth : Method} {c : Code} {w : Wld} {Q : State → Prop} (G : Cxt p R s m args meth c w cX12_tree 5 "PotBookModel" 4 0 0) {v1 : Int32} {v2 : Int32} {v3 : Int32} {μo : Mem} : ∀ {n : Nat} {v4 : Int32} {μ : Mem}, M_tree_l4 v1 v2 v3 n v4 μ = some μo → Vj p l e R s m args below meth c w 5 0 0 Q 180 [some (.ref (wad w 12 0)), some (.int v1), some (.int v2), none, none] [] μo → Vj p l e R s m args below meth c w 5 0 0 Q 126 [some (.ref (wad w 12 0)), some (.int v1), some (.int v2), some (.int v3), some (.int v4)] [] μ := by
  intro n
  induction n with
  | zero => intro v4 μ h K; exact noS h
  | succ n ih =>
    intro v4 μ h K
    replace h : M_tree_l4b v1 v2 v3 (M_tree_l4 v1 v2 v3 n) v4 μ = some μo := h
    unfold M_tree_l4b at h
    refine V_iload G eX12_tree_126 rfl ?_
    refine V_aload_n (i := 0) G eX12_tree_128 rfl rfl ?_
    refine V_get (v := .int (mI μ 1322 0 0)) G fgX12_299 rfl eX12_tree_129 ?_
    refine V_icmp_ge G eX12_tree_132 h (fun h => ?_) (fun h => ?_)
    · cases h; exact V_sub (lS_s (lS_s (lS_s (lS_n (lS_n lS_0))))) K
    · refine V_aload_n (i := 0) G eX12_tree_135 rfl rfl ?_
      refine V_get (v := .ref (wad w 1378 0)) G fgX12_163 rfl eX12_tree_136 ?_
      refine V_iload G eX12_tree_139 rfl ?_
      refine V_aload_n (i := 0) G eX12_tree_141 rfl rfl ?_
      refine V_get (v := .ref (wad w 1378 0)) G fgX12_163 rfl eX12_tree_142 ?_
      refine V_iload G eX12_tree_145 rfl ?_
      refine V_iald G al_1378 (by decide) eX12_tree_147 h (fun x1 h => ?_)
      refine V_iconst (n := -1) (v := (-1)) G eX12_tree_148 rfl ?_
      obtain ⟨⟨x5, μ6⟩, hj, h⟩ := bdS h
      have J : Vj p l e R s m args below meth c w 5 0 0 Q 173 [some (.ref (wad w 12 0)), some (.int v1), some (.int v2), some (.int v3), some (.int v4)] [.int x5, .int v4, .ref (wad w 1378 0)] μ6 := by
        clear hj
        refine V_iast G al_1378 (by decide) eX12_tree_173 h (fun μ7 h => ?_)
        refine V_iinc (z := (nI 1)) (L' := (fun x8 => [some (.ref (wad w 12 0)), some (.int v1), some (.int v2), some (.int v3), some (.int x8)])) G eX12_tree_174 rfl rfl (by decide) rfl (fun _ => rfl) h (fun x8 h => ?_)
        refine V_goto G eX12_tree_177 ?_
        exact (ih h K)
      replace h := hj
      clear hj
      refine V_icmp_ne G eX12_tree_149 h (fun h => ?_) (fun h => ?_)
      · refine V_aload_n (i := 0) G eX12_tree_156 rfl rfl ?_
        refine V_get (v := .ref (wad w 1378 0)) G fgX12_163 rfl eX12_tree_157 ?_
        refine V_iload G eX12_tree_160 rfl ?_
        refine V_iald G al_1378 (by decide) eX12_tree_162 h (fun x2 h => ?_)
        refine V_aload_n (i := 0) G eX12_tree_163 rfl rfl ?_
        refine V_iload_n (i := 3) G eX12_tree_164 rfl rfl ?_
        refine V_iload G eX12_tree_165 rfl ?_
        obtain ⟨⟨x3, μ4⟩, h1, h⟩ := bdS h
        refine V_callI (As := [.int v3, .int v4]) (st := [.int x2, .int v4, .ref (wad w 1378 0)]) G lkX12_492 (M_farOf_ok h1) (by decide) rfl rfl (Nat.le_of_ble_eq_true rfl) eX12_tree_167 ?_
        refine V_jMin G mkX12_382 (by decide) (Nat.le_of_ble_eq_true rfl) eX12_tree_170 ?_
        cases h; exact J
      · refine V_iconst (n := -1) (v := (-1)) G eX12_tree_152 rfl ?_
        refine V_goto G eX12_tree_153 ?_
        cases h; exact J
set_option maxRecDepth 100000 in
set_option maxHeartbeats 4000000 in
theorem M_tree_l2_ok {p : Program} {l : Launch} {e : Env} {R : Room} {s : State} {m : MethodId} {args : Array Value} {below : List Frame} {meth : Method} {c : Code} {w : Wld} {Q : State → Prop} (G : Cxt p R s m args meth c w cX12_tree 5 "PotBookModel" 4 0 0) {o1 : Int32} {μo : Mem} : ∀ {n : Nat} {v1 : Int32} {v2 : Int32} {μ : Mem}, M_tree_l2 n v1 v2 μ = some (o1, μo) → Vj p l e R s m args below meth c w 5 0 0 Q 186 [none, some (.int o1), none, none, none] [] μo → Vj p l e R s m args below meth c w 5 0 0 Q 40 [some (.ref (wad w 12 0)), some (.int v1), some (.int v2), none, none] [] μ := by
  intro n
  induction n with
  | zero => intro v1 v2 μ h K; exact noS h
  | succ n ih =>
    intro v1 v2 μ h K
    replace h : M_tree_l2b (M_tree_l2 n) v1 v2 μ = some (o1, μo) := h
    unfold M_tree_l2b at h
    refine V_iload_n (i := 2) G eX12_tree_40 rfl rfl ?_
    refine V_aload_n (i := 0) G eX12_tree_41 rfl rfl ?_
    refine V_get (v := .int (mI μ 1322 0 0)) G fgX12_299 rfl eX12_tree_42 ?_
    refine V_icmp_ge G eX12_tree_45 h (fun h => ?_) (fun h => ?_)
    · cases h; exact V_sub (lS_n (lS_s (lS_n (lS_n (lS_n lS_0))))) K
    · refine V_iconst (n := -1) (v := (-1)) G eX12_tree_48 rfl ?_
      refine V_istoreA_n (i := 3) (L' := [some (.ref (wad w 12 0)), some (.int v1), some (.int v2), some (.int (-1)), none]) G rfl eX12_tree_49 (by decide) rfl rfl ?_
      refine V_iconst (n := 0) (v := (nI 0)) G eX12_tree_50 rfl ?_
      refine V_istoreA (i := 4) (L' := [some (.ref (wad w 12 0)), some (.int v1), some (.int v2), some (.int (-1)), some (.int (nI 0))]) G eX12_tree_51 (by decide) rfl rfl ?_
      obtain ⟨x1, h1, h⟩ := bdS h
      refine M_tree_l3_ok G h1 ?_
      refine V_iload_n (i := 1) G eX12_tree_107 rfl rfl ?_
      refine V_aload_n (i := 0) G eX12_tree_108 rfl rfl ?_
      refine V_get (v := .ref (wad w 1378 0)) G fgX12_163 rfl eX12_tree_109 ?_
      refine V_iload_n (i := 3) G eX12_tree_112 rfl rfl ?_
      refine V_iald G al_1378 (by decide) eX12_tree_113 h (fun x2 h => ?_)
      refine V_iadd G eX12_tree_114 ?_
      refine V_istore_n (i := 1) (L' := (fun x3 => [some (.ref (wad w 12 0)), some (.int x3), some (.int v2), some (.int x1), none])) G rfl eX12_tree_115 (by decide) rfl (fun _ => rfl) h (fun x3 h => ?_)
      refine V_aload_n (i := 0) G eX12_tree_116 rfl rfl ?_
      refine V_get (v := .ref (wad w 1378 0)) G fgX12_163 rfl eX12_tree_117 ?_
      refine V_iload_n (i := 3) G eX12_tree_120 rfl rfl ?_
      refine V_iconst (n := -1) (v := (-1)) G eX12_tree_121 rfl ?_
      refine V_iast G al_1378 (by decide) eX12_tree_122 h (fun μ4 h => ?_)
      refine V_iconst (n := 0) (v := (nI 0)) G eX12_tree_123 rfl ?_
      refine V_istoreA (i := 4) (L' := [some (.ref (wad w 12 0)), some (.int x3), some (.int v2), some (.int x1), some (.int (nI 0))]) G eX12_tree_124 (by decide) rfl rfl ?_
      obtain ⟨μ5, h1, h⟩ := bdS h
      refine M_tree_l4_ok G h1 ?_
      refine V_iinc (z := (nI 1)) (L' := (fun x6 => [some (.ref (wad w 12 0)), some (.int x3), some (.int x6), none, none])) G eX12_tree_180 rfl rfl (by decide) rfl (fun _ => rfl) h (fun x6 h => ?_)
      refine V_goto G eX12_tree_183 ?_
      exact (ih h K)
set_option maxRecDepth 100000 in
set_option maxHeartbeats 4000000 in
theorem M_tree_run {p : Program} {l : Launch} {e : Env} {R : Room} {s : State} {m : MethodId} {args : Array Value} {below : List Frame} {meth : Method} {c : Code} {w : Wld} (G : Cxt p R s m args meth c w cX12_tree 5 "PotBookModel" 4 0 0) (hr : meth.sig.returnType = some .int) {μ : Mem} {r : Int32} {μ' : Mem} (h : M_tree μ = some (r, μ')) : Vj p l e R s m args below meth c w 5 0 0 (MQ below (QI w r μ') args s 0 0 w.2.2.2) 0 [some (.ref (wad w 12 0)), none, none, none, none] [] μ := by
  unfold M_tree at h
  refine V_iconst (n := 0) (v := (nI 0)) G eX12_tree_0 rfl ?_
  refine V_istoreA_n (i := 1) (L' := [some (.ref (wad w 12 0)), some (.int (nI 0)), none, none, none]) G rfl eX12_tree_1 (by decide) rfl rfl ?_
  obtain ⟨μ1, h1, h⟩ := bdS h
  refine M_tree_l1_ok G h1 ?_
  refine V_iconst (n := 0) (v := (nI 0)) G eX12_tree_36 rfl ?_
  refine V_istoreA_n (i := 1) (L' := [some (.ref (wad w 12 0)), some (.int (nI 0)), none, none, none]) G rfl eX12_tree_37 (by decide) rfl rfl ?_
  refine V_iconst (n := 1) (v := (nI 1)) G eX12_tree_38 rfl ?_
  refine V_istoreA_n (i := 2) (L' := [some (.ref (wad w 12 0)), some (.int (nI 0)), some (.int (nI 1)), none, none]) G rfl eX12_tree_39 (by decide) rfl rfl ?_
  obtain ⟨⟨x2, μ3⟩, h1, h⟩ := bdS h
  refine M_tree_l2_ok G h1 ?_
  refine V_iload_n (i := 1) G eX12_tree_186 rfl rfl ?_
  exact V_riM G hr eX12_tree_187 h
theorem M_tree_ok {l : Launch} {w : Wld} {μ : Mem} {r : Int32} {μ' : Mem} (h : M_tree μ = some (r, μ')) : CtI l w yX12_tree cX12_tree 5 .int 4 [.ref (wad w 12 0)] μ r μ' :=
  Ct_of (own := "PotBookModel") [some (.ref (wad w 12 0)), none, none, none, none] (by decide +kernel) rfl rfl (Nat.le_of_ble_eq_true rfl) fun p e s m args below meth c G hr => M_tree_run G hr h
set_option maxRecDepth 100000 in
set_option maxHeartbeats 4000000 in
theorem M_wrote_run {p : Program} {l : Launch} {e : Env} {R : Room} {s : State} {m : MethodId} {args : Array Value} {below : List Frame} {meth : Method} {c : Code} {w : Wld} (G : Cxt p R s m args meth c w cX12_wrote 3 "PotBookModel" 3 0 0) (hr : meth.sig.returnType = some .boolean) {a1 : Int32} {a2 : Int32} {μ : Mem} {r : Int32} {μ' : Mem} (h : M_wrote a1 a2 μ = some (r, μ')) : Vj p l e R s m args below meth c w 3 0 0 (MQ below (QI w r μ') args s 0 0 w.2.2.2) 0 [some (.ref (wad w 12 0)), some (.int a1), some (.int a2)] [] μ := by
  unfold M_wrote at h
  refine V_aload_n (i := 0) G eX12_wrote_0 rfl rfl ?_
  refine V_iload_n (i := 1) G eX12_wrote_1 rfl rfl ?_
  obtain ⟨x1, h1, h⟩ := bdS h
  refine V_callI (As := [.int a1]) (st := []) G lkX12_332 (M_isPage_ok h1) (by decide) rfl rfl (Nat.le_of_ble_eq_true rfl) eX12_wrote_2 ?_
  refine V_if_eq G eX12_wrote_5 h (fun h => ?_) (fun h => ?_)
  · refine V_iconst (n := 0) (v := (nI 0)) G eX12_wrote_17 rfl ?_
    exact V_rzM G hr eX12_wrote_18 h
  · refine V_iload_n (i := 2) G eX12_wrote_8 rfl rfl ?_
    refine V_iconst (n := 0) (v := (nI 0)) G eX12_wrote_9 rfl ?_
    refine V_iconst (n := 5) (v := (nI 5)) G eX12_wrote_10 rfl ?_
    obtain ⟨x2, h1, h⟩ := bdS h
    refine V_callIS (As := [.int a2, .int (nI 0), .int (nI 5)]) (st := []) G lkX12_198 (M_in_ok (μ := μ) h1) (by decide) rfl rfl (Nat.le_of_ble_eq_true rfl) eX12_wrote_11 ?_
    refine V_if_ne G eX12_wrote_14 h (fun h => ?_) (fun h => ?_)
    · refine V_aload_n (i := 0) G eX12_wrote_19 rfl rfl ?_
      refine V_get (v := .ref (wad w 1321 0)) G fgX12_56 rfl eX12_wrote_20 ?_
      refine V_iload_n (i := 1) G eX12_wrote_23 rfl rfl ?_
      refine V_iload_n (i := 2) G eX12_wrote_24 rfl rfl ?_
      refine V_iast G al_1321 (by decide) eX12_wrote_25 h (fun μ3 h => ?_)
      refine V_iconst (n := 1) (v := (nI 1)) G eX12_wrote_26 rfl ?_
      exact V_rzM G hr eX12_wrote_27 h
    · refine V_iconst (n := 0) (v := (nI 0)) G eX12_wrote_17 rfl ?_
      exact V_rzM G hr eX12_wrote_18 h
theorem M_wrote_ok {l : Launch} {w : Wld} {a1 : Int32} {a2 : Int32} {μ : Mem} {r : Int32} {μ' : Mem} (h : M_wrote a1 a2 μ = some (r, μ')) : CtI l w yX12_wrote cX12_wrote 3 .boolean 3 [.ref (wad w 12 0), .int a1, .int a2] μ r μ' :=
  Ct_of (own := "PotBookModel") [some (.ref (wad w 12 0)), some (.int a1), some (.int a2)] (by decide +kernel) rfl rfl (Nat.le_of_ble_eq_true rfl) fun p e s m args below meth c G hr => M_wrote_run G hr h
set_option maxRecDepth 100000 in
set_option maxHeartbeats 4000000 in
theorem M_leaves_l1_ok {p : Program} {l : Launch} {e : Env} {R : Room} {s : State} {m : MethodId} {args : Array Value} {below : List Frame} {meth : Method} {c : Code} {w : Wld} {Q : State → Prop} (G : Cxt p R s m args meth c w cX12_leaves 6 "PotBookModel" 3 0 0) {v1 : Int32} {v2 : Int32} {v3 : Int32} {μ : Mem} {o1 : Int32} : ∀ {n : Nat} {v4 : Int32} {v5 : Int32}, M_leaves_l1 v1 v2 v3 μ n v4 v5 = some o1 → Vj p l e R s m args below meth c w 6 0 0 Q 105 [none, none, none, none, some (.int o1), none] [] μ → Vj p l e R s m args below meth c w 6 0 0 Q 34 [some (.ref (wad w 12 0)), some (.int v1), some (.int v2), some (.int v3), some (.int v4), some (.int v5)] [] μ := by
  intro n
  induction n with
  | zero => intro v4 v5 h K; exact noS h
  | succ n ih =>
    intro v4 v5 h K
    replace h : M_leaves_l1b v1 v2 v3 μ (M_leaves_l1 v1 v2 v3 μ n) v4 v5 = some o1 := h
    unfold M_leaves_l1b at h
    refine V_iload G eX12_leaves_34 rfl ?_
    refine V_aload_n (i := 0) G eX12_leaves_36 rfl rfl ?_
    refine V_get (v := .int (mI μ 1322 0 0)) G fgX12_299 rfl eX12_leaves_37 ?_
    refine V_icmp_ge G eX12_leaves_40 h (fun h => ?_) (fun h => ?_)
    · cases h; exact V_sub (lS_n (lS_n (lS_n (lS_n (lS_s (lS_n lS_0)))))) K
    · refine V_iload G eX12_leaves_43 rfl ?_
      refine V_aload_n (i := 0) G eX12_leaves_45 rfl rfl ?_
      refine V_get (v := .ref (wad w 1321 0)) G fgX12_56 rfl eX12_leaves_46 ?_
      refine V_iload G eX12_leaves_49 rfl ?_
      refine V_iald G al_1321 (by decide) eX12_leaves_51 h (fun x1 h => ?_)
      refine V_iload_n (i := 1) G eX12_leaves_52 rfl rfl ?_
      obtain ⟨x7, hj, h⟩ := bdS h
      have J : Vj p l e R s m args below meth c w 6 0 0 Q 96 [some (.ref (wad w 12 0)), some (.int v1), some (.int v2), some (.int v3), none, some (.int v5)] [.int x7, .int v4] μ := by
        clear hj
        refine V_iadd G eX12_leaves_96 ?_
        refine V_istore (i := 4) (L' := (fun x8 => [some (.ref (wad w 12 0)), some (.int v1), some (.int v2), some (.int v3), some (.int x8), some (.int v5)])) G eX12_leaves_97 (by decide) rfl (fun _ => rfl) h (fun x8 h => ?_)
        refine V_iinc (z := (nI 1)) (L' := (fun x9 => [some (.ref (wad w 12 0)), some (.int v1), some (.int v2), some (.int v3), some (.int x8), some (.int x9)])) G eX12_leaves_99 rfl rfl (by decide) rfl (fun _ => rfl) h (fun x9 h => ?_)
        refine V_goto G eX12_leaves_102 ?_
        exact (ih h K)
      replace h := hj
      clear hj
      refine V_icmp_ne G eX12_leaves_53 h (fun h => ?_) (fun h => ?_)
      · refine V_iconst (n := 0) (v := (nI 0)) G eX12_leaves_95 rfl ?_
        cases h; exact V_sub (lS_s (lS_s (lS_s (lS_s (lS_n (lS_s lS_0)))))) J
      · refine V_aload_n (i := 0) G eX12_leaves_56 rfl rfl ?_
        refine V_iload G eX12_leaves_57 rfl ?_
        obtain ⟨x2, h1, h⟩ := bdS h
        refine V_callI (As := [.int v5]) (st := [.int v4]) G lkX12_335 (M_thingsOf_ok h1) (by decide) rfl rfl (Nat.le_of_ble_eq_true rfl) eX12_leaves_59 ?_
        refine V_iload_n (i := 2) G eX12_leaves_62 rfl rfl ?_
        obtain ⟨x3, h1, h⟩ := bdS h
        refine V_callIS (As := [.int x2, .int v2]) (st := [.int v4]) G lkX12_422 (M_has_ok (μ := μ) h1) (by decide) rfl rfl (Nat.le_of_ble_eq_true rfl) eX12_leaves_63 ?_
        refine V_if_eq G eX12_leaves_66 h (fun h => ?_) (fun h => ?_)
        · refine V_iconst (n := 0) (v := (nI 0)) G eX12_leaves_95 rfl ?_
          cases h; exact V_sub (lS_s (lS_s (lS_s (lS_s (lS_n (lS_s lS_0)))))) J
        · refine V_aload_n (i := 0) G eX12_leaves_69 rfl rfl ?_
          refine V_iload G eX12_leaves_70 rfl ?_
          obtain ⟨x4, h1, h⟩ := bdS h
          refine V_callI (As := [.int v5]) (st := [.int v4]) G lkX12_338 (M_leftOut_ok h1) (by decide) rfl rfl (Nat.le_of_ble_eq_true rfl) eX12_leaves_72 ?_
          refine V_iload_n (i := 2) G eX12_leaves_75 rfl rfl ?_
          obtain ⟨x5, h1, h⟩ := bdS h
          refine V_callIS (As := [.int x4, .int v2]) (st := [.int v4]) G lkX12_422 (M_has_ok (μ := μ) h1) (by decide) rfl rfl (Nat.le_of_ble_eq_true rfl) eX12_leaves_76 ?_
          refine V_iload_n (i := 3) G eX12_leaves_79 rfl rfl ?_
          obtain ⟨x6, hj, h⟩ := bdS h
          have J : Vj p l e R s m args below meth c w 6 0 0 Q 88 [some (.ref (wad w 12 0)), some (.int v1), some (.int v2), some (.int v3), none, some (.int v5)] [.int x6, .int x5, .int v4] μ := by
            clear hj
            refine V_icmp_ne G eX12_leaves_88 h (fun h => ?_) (fun h => ?_)
            · refine V_iconst (n := 0) (v := (nI 0)) G eX12_leaves_95 rfl ?_
              cases h; exact J
            · refine V_iconst (n := 1) (v := (nI 1)) G eX12_leaves_91 rfl ?_
              refine V_goto G eX12_leaves_92 ?_
              cases h; exact J
          replace h := hj
          clear hj
          refine V_if_ne G eX12_leaves_80 h (fun h => ?_) (fun h => ?_)
          · refine V_iconst (n := 0) (v := (nI 0)) G eX12_leaves_87 rfl ?_
            cases h; exact V_sub (lS_s (lS_s (lS_s (lS_s (lS_n (lS_s lS_0)))))) J
          · refine V_iconst (n := 1) (v := (nI 1)) G eX12_leaves_83 rfl ?_
            refine V_goto G eX12_leaves_84 ?_
            cases h; exact V_sub (lS_s (lS_s (lS_s (lS_s (lS_n (lS_s lS_0)))))) J
set_option maxRecDepth 100000 in
set_option maxHeartbeats 4000000 in
theorem M_leaves_run {p : Program} {l : Launch} {e : Env} {R : Room} {s : State} {m : MethodId} {args : Array Value} {below : List Frame} {meth : Method} {c : Code} {w : Wld} (G : Cxt p R s m args meth c w cX12_leaves 6 "PotBookModel" 3 0 0) (hr : meth.sig.returnType = some .int) {a1 : Int32} {a2 : Int32} {a3 : Int32} {μ : Mem} {r : Int32} (h : M_leaves a1 a2 a3 μ = some r) : Vj p l e R s m args below meth c w 6 0 0 (MQ below (QI w r μ) args s 0 0 w.2.2.2) 0 [some (.ref (wad w 12 0)), some (.int a1), some (.int a2), some (.int a3), none, none] [] μ := by
  unfold M_leaves at h
  refine V_iload_n (i := 1) G eX12_leaves_0 rfl rfl ?_
  refine V_iconst (n := 0) (v := (nI 0)) G eX12_leaves_1 rfl ?_
  refine V_iconst (n := 5) (v := (nI 5)) G eX12_leaves_2 rfl ?_
  obtain ⟨x1, h1, h⟩ := bdS h
  refine V_callIS (As := [.int a1, .int (nI 0), .int (nI 5)]) (st := []) G lkX12_198 (M_in_ok (μ := μ) h1) (by decide) rfl rfl (Nat.le_of_ble_eq_true rfl) eX12_leaves_3 ?_
  refine V_if_eq G eX12_leaves_6 h (fun h => ?_) (fun h => ?_)
  · refine V_iconst (n := -1) (v := (-1)) G eX12_leaves_26 rfl ?_
    exact V_ri G hr eX12_leaves_27 h
  · refine V_aload_n (i := 0) G eX12_leaves_9 rfl rfl ?_
    refine V_iload_n (i := 2) G eX12_leaves_10 rfl rfl ?_
    obtain ⟨x2, h1, h⟩ := bdS h
    refine V_callI (As := [.int a2]) (st := []) G lkX12_202 (M_isThing_ok h1) (by decide) rfl rfl (Nat.le_of_ble_eq_true rfl) eX12_leaves_11 ?_
    refine V_if_eq G eX12_leaves_14 h (fun h => ?_) (fun h => ?_)
    · refine V_iconst (n := -1) (v := (-1)) G eX12_leaves_26 rfl ?_
      exact V_ri G hr eX12_leaves_27 h
    · refine V_iload_n (i := 3) G eX12_leaves_17 rfl rfl ?_
      refine V_iconst (n := 0) (v := (nI 0)) G eX12_leaves_18 rfl ?_
      refine V_iconst (n := 1) (v := (nI 1)) G eX12_leaves_19 rfl ?_
      obtain ⟨x3, h1, h⟩ := bdS h
      refine V_callIS (As := [.int a3, .int (nI 0), .int (nI 1)]) (st := []) G lkX12_198 (M_in_ok (μ := μ) h1) (by decide) rfl rfl (Nat.le_of_ble_eq_true rfl) eX12_leaves_20 ?_
      refine V_if_ne G eX12_leaves_23 h (fun h => ?_) (fun h => ?_)
      · refine V_iconst (n := 0) (v := (nI 0)) G eX12_leaves_28 rfl ?_
        refine V_istoreA (i := 4) (L' := [some (.ref (wad w 12 0)), some (.int a1), some (.int a2), some (.int a3), some (.int (nI 0)), none]) G eX12_leaves_29 (by decide) rfl rfl ?_
        refine V_iconst (n := 0) (v := (nI 0)) G eX12_leaves_31 rfl ?_
        refine V_istoreA (i := 5) (L' := [some (.ref (wad w 12 0)), some (.int a1), some (.int a2), some (.int a3), some (.int (nI 0)), some (.int (nI 0))]) G eX12_leaves_32 (by decide) rfl rfl ?_
        obtain ⟨x4, h1, h⟩ := bdS h
        refine M_leaves_l1_ok G h1 ?_
        refine V_iload G eX12_leaves_105 rfl ?_
        exact V_ri G hr eX12_leaves_107 h
      · refine V_iconst (n := -1) (v := (-1)) G eX12_leaves_26 rfl ?_
        exact V_ri G hr eX12_leaves_27 h
theorem M_leaves_ok {l : Launch} {w : Wld} {a1 : Int32} {a2 : Int32} {a3 : Int32} {μ : Mem} {r : Int32} (h : M_leaves a1 a2 a3 μ = some r) : CtI l w yX12_leaves cX12_leaves 6 .int 3 [.ref (wad w 12 0), .int a1, .int a2, .int a3] μ r μ :=
  Ct_of (own := "PotBookModel") [some (.ref (wad w 12 0)), some (.int a1), some (.int a2), some (.int a3), none, none] (by decide +kernel) rfl rfl (Nat.le_of_ble_eq_true rfl) fun p e s m args below meth c G hr => M_leaves_run G hr h
set_option maxRecDepth 100000 in
set_option maxHeartbeats 4000000 in
theorem M_twice_l2_ok {p : Program} {l : Launch} {e : Env} {R : Room} {s : State} {m : MethodId} {args : Array Value} {below : List Frame} {meth : Method} {c : Code} {w : Wld} {Q : State → Prop} (G : Cxt p R s m args meth c w cX12_twice 5 "PotBookModel" 2 0 0) {v1 : Int32} {v3 : Int32} {μ : Mem} {o1 : Int32} : ∀ {n : Nat} {v2 : Int32} {v4 : Int32}, M_twice_l2 v1 v3 μ n v2 v4 = some o1 → Vj p l e R s m args below meth c w 5 0 0 Q 95 [some (.ref (wad w 12 0)), some (.int v1), some (.int o1), some (.int v3), none] [] μ → Vj p l e R s m args below meth c w 5 0 0 Q 26 [some (.ref (wad w 12 0)), some (.int v1), some (.int v2), some (.int v3), some (.int v4)] [] μ := by
  intro n
  induction n with
  | zero => intro v2 v4 h K; exact noS h
  | succ n ih =>
    intro v2 v4 h K
    replace h : M_twice_l2b v1 v3 μ (M_twice_l2 v1 v3 μ n) v2 v4 = some o1 := h
    unfold M_twice_l2b at h
    refine V_iload G eX12_twice_26 rfl ?_
    refine V_iload_n (i := 3) G eX12_twice_28 rfl rfl ?_
    refine V_icmp_ge G eX12_twice_29 h (fun h => ?_) (fun h => ?_)
    · cases h; exact V_sub (lS_s (lS_s (lS_s (lS_s (lS_n lS_0))))) K
    · refine V_iload_n (i := 2) G eX12_twice_32 rfl rfl ?_
      refine V_aload_n (i := 0) G eX12_twice_33 rfl rfl ?_
      refine V_get (v := .ref (wad w 1321 0)) G fgX12_56 rfl eX12_twice_34 ?_
      refine V_iload_n (i := 3) G eX12_twice_37 rfl rfl ?_
      refine V_iald G al_1321 (by decide) eX12_twice_38 h (fun x1 h => ?_)
      refine V_iload_n (i := 1) G eX12_twice_39 rfl rfl ?_
      obtain ⟨x7, hj, h⟩ := bdS h
      have J : Vj p l e R s m args below meth c w 5 0 0 Q 87 [some (.ref (wad w 12 0)), some (.int v1), none, some (.int v3), some (.int v4)] [.int x7, .int v2] μ := by
        clear hj
        refine V_iadd G eX12_twice_87 ?_
        refine V_istore_n (i := 2) (L' := (fun x8 => [some (.ref (wad w 12 0)), some (.int v1), some (.int x8), some (.int v3), some (.int v4)])) G rfl eX12_twice_88 (by decide) rfl (fun _ => rfl) h (fun x8 h => ?_)
        refine V_iinc (z := (nI 1)) (L' := (fun x9 => [some (.ref (wad w 12 0)), some (.int v1), some (.int x8), some (.int v3), some (.int x9)])) G eX12_twice_89 rfl rfl (by decide) rfl (fun _ => rfl) h (fun x9 h => ?_)
        refine V_goto G eX12_twice_92 ?_
        exact (ih h K)
      replace h := hj
      clear hj
      refine V_icmp_ne G eX12_twice_40 h (fun h => ?_) (fun h => ?_)
      · refine V_iconst (n := 0) (v := (nI 0)) G eX12_twice_86 rfl ?_
        cases h; exact V_sub (lS_s (lS_s (lS_n (lS_s (lS_s lS_0))))) J
      · refine V_aload_n (i := 0) G eX12_twice_43 rfl rfl ?_
        refine V_get (v := .ref (wad w 1321 0)) G fgX12_56 rfl eX12_twice_44 ?_
        refine V_iload G eX12_twice_47 rfl ?_
        refine V_iald G al_1321 (by decide) eX12_twice_49 h (fun x2 h => ?_)
        refine V_iload_n (i := 1) G eX12_twice_50 rfl rfl ?_
        refine V_icmp_ne G eX12_twice_51 h (fun h => ?_) (fun h => ?_)
        · refine V_iconst (n := 0) (v := (nI 0)) G eX12_twice_86 rfl ?_
          cases h; exact V_sub (lS_s (lS_s (lS_n (lS_s (lS_s lS_0))))) J
        · refine V_aload_n (i := 0) G eX12_twice_54 rfl rfl ?_
          refine V_iload_n (i := 3) G eX12_twice_55 rfl rfl ?_
          obtain ⟨x3, h1, h⟩ := bdS h
          refine V_callI (As := [.int v3]) (st := [.int v2]) G lkX12_335 (M_thingsOf_ok h1) (by decide) rfl rfl (Nat.le_of_ble_eq_true rfl) eX12_twice_56 ?_
          refine V_aload_n (i := 0) G eX12_twice_59 rfl rfl ?_
          refine V_iload G eX12_twice_60 rfl ?_
          obtain ⟨x4, h1, h⟩ := bdS h
          refine V_callI (As := [.int v4]) (st := [.int x3, .int v2]) G lkX12_335 (M_thingsOf_ok h1) (by decide) rfl rfl (Nat.le_of_ble_eq_true rfl) eX12_twice_62 ?_
          refine V_icmp_ne G eX12_twice_65 h (fun h => ?_) (fun h => ?_)
          · refine V_iconst (n := 0) (v := (nI 0)) G eX12_twice_86 rfl ?_
            cases h; exact V_sub (lS_s (lS_s (lS_n (lS_s (lS_s lS_0))))) J
          · refine V_aload_n (i := 0) G eX12_twice_68 rfl rfl ?_
            refine V_iload_n (i := 3) G eX12_twice_69 rfl rfl ?_
            obtain ⟨x5, h1, h⟩ := bdS h
            refine V_callI (As := [.int v3]) (st := [.int v2]) G lkX12_338 (M_leftOut_ok h1) (by decide) rfl rfl (Nat.le_of_ble_eq_true rfl) eX12_twice_70 ?_
            refine V_aload_n (i := 0) G eX12_twice_73 rfl rfl ?_
            refine V_iload G eX12_twice_74 rfl ?_
            obtain ⟨x6, h1, h⟩ := bdS h
            refine V_callI (As := [.int v4]) (st := [.int x5, .int v2]) G lkX12_338 (M_leftOut_ok h1) (by decide) rfl rfl (Nat.le_of_ble_eq_true rfl) eX12_twice_76 ?_
            refine V_icmp_eq G eX12_twice_79 h (fun h => ?_) (fun h => ?_)
            · refine V_iconst (n := 0) (v := (nI 0)) G eX12_twice_86 rfl ?_
              cases h; exact V_sub (lS_s (lS_s (lS_n (lS_s (lS_s lS_0))))) J
            · refine V_iconst (n := 1) (v := (nI 1)) G eX12_twice_82 rfl ?_
              refine V_goto G eX12_twice_83 ?_
              cases h; exact V_sub (lS_s (lS_s (lS_n (lS_s (lS_s lS_0))))) J
set_option maxRecDepth 100000 in
set_option maxHeartbeats 4000000 in
theorem M_twice_l1_ok {p : Program} {l : Launch} {e : Env} {R : Room} {s : State} {m : MethodId} {args : Array Value} {below : List Frame} {meth : Method} {c : Code} {w : Wld} {Q : State → Prop} (G : Cxt p R s m args meth c w cX12_twice 5 "PotBookModel" 2 0 0) {v1 : Int32} {μ : Mem} {o1 : Int32} : ∀ {n : Nat} {v2 : Int32} {v3 : Int32}, M_twice_l1 v1 μ n v2 v3 = some o1 → Vj p l e R s m args below meth c w 5 0 0 Q 101 [none, none, some (.int o1), none, none] [] μ → Vj p l e R s m args below meth c w 5 0 0 Q 15 [some (.ref (wad w 12 0)), some (.int v1), some (.int v2), some (.int v3), none] [] μ := by
  intro n
  induction n with
  | zero => intro v2 v3 h K; exact noS h
  | succ n ih =>
    intro v2 v3 h K
    replace h : M_twice_l1b v1 μ (M_twice_l1 v1 μ n) v2 v3 = some o1 := h
    unfold M_twice_l1b at h
    refine V_iload_n (i := 3) G eX12_twice_15 rfl rfl ?_
    refine V_aload_n (i := 0) G eX12_twice_16 rfl rfl ?_
    refine V_get (v := .int (mI μ 1322 0 0)) G fgX12_299 rfl eX12_twice_17 ?_
    refine V_icmp_ge G eX12_twice_20 h (fun h => ?_) (fun h => ?_)
    · cases h; exact V_sub (lS_n (lS_n (lS_s (lS_n (lS_n lS_0))))) K
    · refine V_iconst (n := 0) (v := (nI 0)) G eX12_twice_23 rfl ?_
      refine V_istoreA (i := 4) (L' := [some (.ref (wad w 12 0)), some (.int v1), some (.int v2), some (.int v3), some (.int (nI 0))]) G eX12_twice_24 (by decide) rfl rfl ?_
      obtain ⟨x1, h1, h⟩ := bdS h
      refine M_twice_l2_ok G h1 ?_
      refine V_iinc (z := (nI 1)) (L' := (fun x2 => [some (.ref (wad w 12 0)), some (.int v1), some (.int x1), some (.int x2), none])) G eX12_twice_95 rfl rfl (by decide) rfl (fun _ => rfl) h (fun x2 h => ?_)
      refine V_goto G eX12_twice_98 ?_
      exact (ih h K)
set_option maxRecDepth 100000 in
set_option maxHeartbeats 4000000 in
theorem M_twice_run {p : Program} {l : Launch} {e : Env} {R : Room} {s : State} {m : MethodId} {args : Array Value} {below : List Frame} {meth : Method} {c : Code} {w : Wld} (G : Cxt p R s m args meth c w cX12_twice 5 "PotBookModel" 2 0 0) (hr : meth.sig.returnType = some .int) {a1 : Int32} {μ : Mem} {r : Int32} (h : M_twice a1 μ = some r) : Vj p l e R s m args below meth c w 5 0 0 (MQ below (QI w r μ) args s 0 0 w.2.2.2) 0 [some (.ref (wad w 12 0)), some (.int a1), none, none, none] [] μ := by
  unfold M_twice at h
  refine V_iload_n (i := 1) G eX12_twice_0 rfl rfl ?_
  refine V_iconst (n := 0) (v := (nI 0)) G eX12_twice_1 rfl ?_
  refine V_iconst (n := 5) (v := (nI 5)) G eX12_twice_2 rfl ?_
  obtain ⟨x1, h1, h⟩ := bdS h
  refine V_callIS (As := [.int a1, .int (nI 0), .int (nI 5)]) (st := []) G lkX12_198 (M_in_ok (μ := μ) h1) (by decide) rfl rfl (Nat.le_of_ble_eq_true rfl) eX12_twice_3 ?_
  refine V_if_ne G eX12_twice_6 h (fun h => ?_) (fun h => ?_)
  · refine V_iconst (n := 0) (v := (nI 0)) G eX12_twice_11 rfl ?_
    refine V_istoreA_n (i := 2) (L' := [some (.ref (wad w 12 0)), some (.int a1), some (.int (nI 0)), none, none]) G rfl eX12_twice_12 (by decide) rfl rfl ?_
    refine V_iconst (n := 0) (v := (nI 0)) G eX12_twice_13 rfl ?_
    refine V_istoreA_n (i := 3) (L' := [some (.ref (wad w 12 0)), some (.int a1), some (.int (nI 0)), some (.int (nI 0)), none]) G rfl eX12_twice_14 (by decide) rfl rfl ?_
    obtain ⟨x2, h1, h⟩ := bdS h
    refine M_twice_l1_ok G h1 ?_
    refine V_iload_n (i := 2) G eX12_twice_101 rfl rfl ?_
    exact V_ri G hr eX12_twice_102 h
  · refine V_iconst (n := -1) (v := (-1)) G eX12_twice_9 rfl ?_
    exact V_ri G hr eX12_twice_10 h
theorem M_twice_ok {l : Launch} {w : Wld} {a1 : Int32} {μ : Mem} {r : Int32} (h : M_twice a1 μ = some r) : CtI l w yX12_twice cX12_twice 5 .int 2 [.ref (wad w 12 0), .int a1] μ r μ :=
  Ct_of (own := "PotBookModel") [some (.ref (wad w 12 0)), some (.int a1), none, none, none] (by decide +kernel) rfl rfl (Nat.le_of_ble_eq_true rfl) fun p e s m args below meth c G hr => M_twice_run G hr h
set_option maxRecDepth 100000 in
set_option maxHeartbeats 4000000 in
theorem M_weightOf_l1_ok {p : Program} {l : Launch} {e : Env} {R : Room} {s : State} {m : MethodId} {args : Array Value} {below : List Frame} {meth : Method} {c : Code} {w : Wld} {Q : State → Prop} (G : Cxt p R s m args meth c w cX12_weightOf 5 "PotBookModel" 3 0 0) {v1 : Int32} {v2 : Int32} {μ : Mem} {o1 : Int32} : ∀ {n : Nat} {v3 : Int32} {v4 : Int32}, M_weightOf_l1 v1 v2 μ n v3 v4 = some o1 → Vj p l e R s m args below meth c w 5 0 0 Q 50 [none, none, none, some (.int o1), none] [] μ → Vj p l e R s m args below meth c w 5 0 0 Q 5 [some (.ref (wad w 12 0)), some (.int v1), some (.int v2), some (.int v3), some (.int v4)] [] μ := by
  intro n
  induction n with
  | zero => intro v3 v4 h K; exact noS h
  | succ n ih =>
    intro v3 v4 h K
    replace h : M_weightOf_l1b v1 v2 μ (M_weightOf_l1 v1 v2 μ n) v3 v4 = some o1 := h
    unfold M_weightOf_l1b at h
    refine V_iload G eX12_weightOf_5 rfl ?_
    refine V_aload_n (i := 0) G eX12_weightOf_7 rfl rfl ?_
    refine V_get (v := .ref (wad w 1315 0)) G fgX12_38 rfl eX12_weightOf_8 ?_
    refine V_iload_n (i := 1) G eX12_weightOf_11 rfl rfl ?_
    refine V_iald G al_1315 (by decide) eX12_weightOf_12 h (fun x1 h => ?_)
    refine V_icmp_ge G eX12_weightOf_13 h (fun h => ?_) (fun h => ?_)
    · cases h; exact V_sub (lS_n (lS_n (lS_n (lS_s (lS_n lS_0))))) K
    · refine V_iload_n (i := 3) G eX12_weightOf_16 rfl rfl ?_
      refine V_aload_n (i := 0) G eX12_weightOf_17 rfl rfl ?_
      refine V_get (v := .ref (wad w 1340 0)) G fgX12_102 rfl eX12_weightOf_18 ?_
      refine V_iload G eX12_weightOf_21 rfl ?_
      refine V_iald G al_1340 (by decide) eX12_weightOf_23 h (fun x2 h => ?_)
      refine V_aload_n (i := 0) G eX12_weightOf_24 rfl rfl ?_
      refine V_aload_n (i := 0) G eX12_weightOf_25 rfl rfl ?_
      refine V_get (v := .ref (wad w 1316 0)) G fgX12_41 rfl eX12_weightOf_26 ?_
      refine V_bipush (n := 8) (v := (nI 8)) G eX12_weightOf_29 rfl ?_
      refine V_iload_n (i := 1) G eX12_weightOf_31 rfl rfl ?_
      refine V_imul G eX12_weightOf_32 ?_
      refine V_iload G eX12_weightOf_33 rfl ?_
      refine V_iadd G eX12_weightOf_35 ?_
      refine V_iald G al_1316 (by decide) eX12_weightOf_36 h (fun x3 h => ?_)
      refine V_iload_n (i := 2) G eX12_weightOf_37 rfl rfl ?_
      obtain ⟨x4, h1, h⟩ := bdS h
      refine V_callI (As := [.int x3, .int v2]) (st := [.int x2, .int v3]) G lkX12_215 (M_sizeIn_ok h1) (by decide) rfl rfl (Nat.le_of_ble_eq_true rfl) eX12_weightOf_38 ?_
      refine V_imul G eX12_weightOf_41 ?_
      refine V_iadd G eX12_weightOf_42 ?_
      refine V_istore_n (i := 3) (L' := (fun x5 => [some (.ref (wad w 12 0)), some (.int v1), some (.int v2), some (.int x5), some (.int v4)])) G rfl eX12_weightOf_43 (by decide) rfl (fun _ => rfl) h (fun x5 h => ?_)
      refine V_iinc (z := (nI 1)) (L' := (fun x6 => [some (.ref (wad w 12 0)), some (.int v1), some (.int v2), some (.int x5), some (.int x6)])) G eX12_weightOf_44 rfl rfl (by decide) rfl (fun _ => rfl) h (fun x6 h => ?_)
      refine V_goto G eX12_weightOf_47 ?_
      exact (ih h K)
set_option maxRecDepth 100000 in
set_option maxHeartbeats 4000000 in
theorem M_weightOf_run {p : Program} {l : Launch} {e : Env} {R : Room} {s : State} {m : MethodId} {args : Array Value} {below : List Frame} {meth : Method} {c : Code} {w : Wld} (G : Cxt p R s m args meth c w cX12_weightOf 5 "PotBookModel" 3 0 0) (hr : meth.sig.returnType = some .int) {a1 : Int32} {a2 : Int32} {μ : Mem} {r : Int32} (h : M_weightOf a1 a2 μ = some r) : Vj p l e R s m args below meth c w 5 0 0 (MQ below (QI w r μ) args s 0 0 w.2.2.2) 0 [some (.ref (wad w 12 0)), some (.int a1), some (.int a2), none, none] [] μ := by
  unfold M_weightOf at h
  refine V_iconst (n := 0) (v := (nI 0)) G eX12_weightOf_0 rfl ?_
  refine V_istoreA_n (i := 3) (L' := [some (.ref (wad w 12 0)), some (.int a1), some (.int a2), some (.int (nI 0)), none]) G rfl eX12_weightOf_1 (by decide) rfl rfl ?_
  refine V_iconst (n := 0) (v := (nI 0)) G eX12_weightOf_2 rfl ?_
  refine V_istoreA (i := 4) (L' := [some (.ref (wad w 12 0)), some (.int a1), some (.int a2), some (.int (nI 0)), some (.int (nI 0))]) G eX12_weightOf_3 (by decide) rfl rfl ?_
  obtain ⟨x1, h1, h⟩ := bdS h
  refine M_weightOf_l1_ok G h1 ?_
  refine V_iload_n (i := 3) G eX12_weightOf_50 rfl rfl ?_
  exact V_ri G hr eX12_weightOf_51 h
theorem M_weightOf_ok {l : Launch} {w : Wld} {a1 : Int32} {a2 : Int32} {μ : Mem} {r : Int32} (h : M_weightOf a1 a2 μ = some r) : CtI l w yX12_weightOf cX12_weightOf 5 .int 3 [.ref (wad w 12 0), .int a1, .int a2] μ r μ :=
  Ct_of (own := "PotBookModel") [some (.ref (wad w 12 0)), some (.int a1), some (.int a2), none, none] (by decide +kernel) rfl rfl (Nat.le_of_ble_eq_true rfl) fun p e s m args below meth c G hr => M_weightOf_run G hr h
set_option maxRecDepth 100000 in
set_option maxHeartbeats 4000000 in
theorem M_weight_run {p : Program} {l : Launch} {e : Env} {R : Room} {s : State} {m : MethodId} {args : Array Value} {below : List Frame} {meth : Method} {c : Code} {w : Wld} (G : Cxt p R s m args meth c w cX12_weight 4 "PotBookModel" 9 0 0) (hr : meth.sig.returnType = some .int) {a1 : Int32} {a2 : Int32} {a3 : Int32} {μ : Mem} {r : Int32} {μ' : Mem} (h : M_weight a1 a2 a3 μ = some (r, μ')) : Vj p l e R s m args below meth c w 4 0 0 (MQ below (QI w r μ') args s 0 0 w.2.2.2) 0 [some (.ref (wad w 12 0)), some (.int a1), some (.int a2), some (.int a3)] [] μ := by
  unfold M_weight at h
  refine V_iload_n (i := 3) G eX12_weight_0 rfl rfl ?_
  obtain ⟨x1, h1, h⟩ := bdS h
  refine V_callIS (As := [.int a3]) (st := []) G lkX12_206 (M_isYear_ok (μ := μ) h1) (by decide) rfl rfl (Nat.le_of_ble_eq_true rfl) eX12_weight_1 ?_
  refine V_if_eq G eX12_weight_4 h (fun h => ?_) (fun h => ?_)
  · refine V_iconst (n := -1) (v := (-1)) G eX12_weight_29 rfl ?_
    exact V_riM G hr eX12_weight_30 h
  · refine V_aload_n (i := 0) G eX12_weight_7 rfl rfl ?_
    refine V_iload_n (i := 1) G eX12_weight_8 rfl rfl ?_
    obtain ⟨⟨x2, μ3⟩, h1, h⟩ := bdS h
    refine V_callI (As := [.int a1]) (st := []) G lkX12_376 (M_isTold_ok h1) (by decide) rfl rfl (Nat.le_of_ble_eq_true rfl) eX12_weight_9 ?_
    refine V_if_eq G eX12_weight_12 h (fun h => ?_) (fun h => ?_)
    · refine V_iconst (n := -1) (v := (-1)) G eX12_weight_29 rfl ?_
      exact V_riM G hr eX12_weight_30 h
    · refine V_iload_n (i := 2) G eX12_weight_15 rfl rfl ?_
      refine V_iconst (n := 0) (v := (nI 0)) G eX12_weight_16 rfl ?_
      refine V_aload_n (i := 0) G eX12_weight_17 rfl rfl ?_
      refine V_get (v := .int (mI μ3 1342 0 0)) G fgX12_361 rfl eX12_weight_18 ?_
      refine V_iconst (n := 1) (v := (nI 1)) G eX12_weight_21 rfl ?_
      refine V_isub G eX12_weight_22 ?_
      obtain ⟨x4, h1, h⟩ := bdS h
      refine V_callIS (As := [.int a2, .int (nI 0), .int ((mI μ3 1342 0 0) - (nI 1))]) (st := []) G lkX12_198 (M_in_ok (μ := μ3) h1) (by decide) rfl rfl (Nat.le_of_ble_eq_true rfl) eX12_weight_23 ?_
      refine V_if_ne G eX12_weight_26 h (fun h => ?_) (fun h => ?_)
      · refine V_aload_n (i := 0) G eX12_weight_31 rfl rfl ?_
        refine V_iload_n (i := 1) G eX12_weight_32 rfl rfl ?_
        refine V_iload_n (i := 2) G eX12_weight_33 rfl rfl ?_
        obtain ⟨μ5, h1, h⟩ := bdS h
        refine V_callV (As := [.int a1, .int a2]) (st := []) G lkX12_379 (M_go_ok h1) (by decide) rfl rfl (Nat.le_of_ble_eq_true rfl) eX12_weight_34 ?_
        refine V_aload_n (i := 0) G eX12_weight_37 rfl rfl ?_
        refine V_iload_n (i := 1) G eX12_weight_38 rfl rfl ?_
        refine V_iload_n (i := 3) G eX12_weight_39 rfl rfl ?_
        obtain ⟨x6, h1, h⟩ := bdS h
        refine V_callI (As := [.int a1, .int a3]) (st := []) G lkX12_495 (M_weightOf_ok h1) (by decide) rfl rfl (Nat.le_of_ble_eq_true rfl) eX12_weight_40 ?_
        exact V_riM G hr eX12_weight_43 h
      · refine V_iconst (n := -1) (v := (-1)) G eX12_weight_29 rfl ?_
        exact V_riM G hr eX12_weight_30 h
theorem M_weight_ok {l : Launch} {w : Wld} {a1 : Int32} {a2 : Int32} {a3 : Int32} {μ : Mem} {r : Int32} {μ' : Mem} (h : M_weight a1 a2 a3 μ = some (r, μ')) : CtI l w yX12_weight cX12_weight 4 .int 9 [.ref (wad w 12 0), .int a1, .int a2, .int a3] μ r μ' :=
  Ct_of (own := "PotBookModel") [some (.ref (wad w 12 0)), some (.int a1), some (.int a2), some (.int a3)] (by decide +kernel) rfl rfl (Nat.le_of_ble_eq_true rfl) fun p e s m args below meth c G hr => M_weight_run G hr h
set_option maxRecDepth 100000 in
set_option maxHeartbeats 4000000 in
theorem M_serves_l1_ok {p : Program} {l : Launch} {e : Env} {R : Room} {s : State} {m : MethodId} {args : Array Value} {below : List Frame} {meth : Method} {c : Code} {w : Wld} {Q : State → Prop} (G : Cxt p R s m args meth c w cX12_serves 8 "PotBookModel" 9 0 0) {v1 : Int32} {v2 : Int32} {v3 : Int32} {v4 : Int32} {o1 : Int32} {μo : Mem} : ∀ {n : Nat} {v5 : Int32} {v6 : Int32} {μ : Mem}, M_serves_l1 v1 v2 v3 v4 n v5 v6 μ = some (o1, μo) → Vj p l e R s m args below meth c w 8 0 0 Q 118 [none, none, none, none, none, some (.int o1), none, none] [] μo → Vj p l e R s m args below meth c w 8 0 0 Q 51 [some (.ref (wad w 12 0)), some (.int v1), some (.int v2), some (.int v3), some (.int v4), some (.int v5), some (.int v6), none] [] μ := by
  intro n
  induction n with
  | zero => intro v5 v6 μ h K; exact noS h
  | succ n ih =>
    intro v5 v6 μ h K
    replace h : M_serves_l1b v1 v2 v3 v4 (M_serves_l1 v1 v2 v3 v4 n) v5 v6 μ = some (o1, μo) := h
    unfold M_serves_l1b at h
    refine V_iload G eX12_serves_51 rfl ?_
    refine V_aload_n (i := 0) G eX12_serves_53 rfl rfl ?_
    refine V_get (v := .int (mI μ 1342 0 0)) G fgX12_361 rfl eX12_serves_54 ?_
    refine V_icmp_ge G eX12_serves_57 h (fun h => ?_) (fun h => ?_)
    · cases h; exact V_sub (lS_n (lS_n (lS_n (lS_n (lS_n (lS_s (lS_n (lS_n lS_0)))))))) K
    · refine V_aload_n (i := 0) G eX12_serves_60 rfl rfl ?_
      refine V_iload_n (i := 1) G eX12_serves_61 rfl rfl ?_
      refine V_iload G eX12_serves_62 rfl ?_
      obtain ⟨μ1, h1, h⟩ := bdS h
      refine V_callV (As := [.int v1, .int v6]) (st := []) G lkX12_379 (M_go_ok h1) (by decide) rfl rfl (Nat.le_of_ble_eq_true rfl) eX12_serves_64 ?_
      refine V_aload_n (i := 0) G eX12_serves_67 rfl rfl ?_
      refine V_iload_n (i := 1) G eX12_serves_68 rfl rfl ?_
      refine V_iload_n (i := 2) G eX12_serves_69 rfl rfl ?_
      obtain ⟨x2, h1, h⟩ := bdS h
      refine V_callI (As := [.int v1, .int v2]) (st := []) G lkX12_495 (M_weightOf_ok h1) (by decide) rfl rfl (Nat.le_of_ble_eq_true rfl) eX12_serves_70 ?_
      refine V_iload_n (i := 3) G eX12_serves_73 rfl rfl ?_
      refine V_idiv G eX12_serves_74 h (fun x3 h => ?_)
      refine V_istoreA (i := 7) (L' := [some (.ref (wad w 12 0)), some (.int v1), some (.int v2), some (.int v3), some (.int v4), some (.int v5), some (.int v6), some (.int x3)]) G eX12_serves_75 (by decide) rfl rfl ?_
      refine V_iload G eX12_serves_77 rfl ?_
      refine V_iconst (n := -1) (v := (-1)) G eX12_serves_79 rfl ?_
      obtain ⟨x4, hj, h⟩ := bdS h
      have J : Vj p l e R s m args below meth c w 8 0 0 Q 110 [some (.ref (wad w 12 0)), some (.int v1), some (.int v2), some (.int v3), some (.int v4), none, some (.int v6), none] [.int x4] μ1 := by
        clear hj
        refine V_istoreA (i := 5) (L' := [some (.ref (wad w 12 0)), some (.int v1), some (.int v2), some (.int v3), some (.int v4), some (.int x4), some (.int v6), none]) G eX12_serves_110 (by decide) rfl rfl ?_
        refine V_iinc (z := (nI 1)) (L' := (fun x5 => [some (.ref (wad w 12 0)), some (.int v1), some (.int v2), some (.int v3), some (.int v4), some (.int x4), some (.int x5), none])) G eX12_serves_112 rfl rfl (by decide) rfl (fun _ => rfl) h (fun x5 h => ?_)
        refine V_goto G eX12_serves_115 ?_
        exact (ih h K)
      replace h := hj
      clear hj
      refine V_icmp_ne G eX12_serves_80 h (fun h => ?_) (fun h => ?_)
      · refine V_iload G eX12_serves_88 rfl ?_
        refine V_if_ne G eX12_serves_90 h (fun h => ?_) (fun h => ?_)
        · refine V_iload G eX12_serves_103 rfl ?_
          refine V_iload G eX12_serves_105 rfl ?_
          refine V_jMax G mkX12_209 (by decide) (Nat.le_of_ble_eq_true rfl) eX12_serves_107 ?_
          cases h; exact V_sub (lS_s (lS_s (lS_s (lS_s (lS_s (lS_n (lS_s (lS_n lS_0)))))))) J
        · refine V_iload G eX12_serves_93 rfl ?_
          refine V_iload G eX12_serves_95 rfl ?_
          refine V_jMin G mkX12_382 (by decide) (Nat.le_of_ble_eq_true rfl) eX12_serves_97 ?_
          refine V_goto G eX12_serves_100 ?_
          cases h; exact V_sub (lS_s (lS_s (lS_s (lS_s (lS_s (lS_n (lS_s (lS_n lS_0)))))))) J
      · refine V_iload G eX12_serves_83 rfl ?_
        refine V_goto G eX12_serves_85 ?_
        cases h; exact V_sub (lS_s (lS_s (lS_s (lS_s (lS_s (lS_n (lS_s (lS_n lS_0)))))))) J
set_option maxRecDepth 100000 in
set_option maxHeartbeats 4000000 in
theorem M_serves_run {p : Program} {l : Launch} {e : Env} {R : Room} {s : State} {m : MethodId} {args : Array Value} {below : List Frame} {meth : Method} {c : Code} {w : Wld} (G : Cxt p R s m args meth c w cX12_serves 8 "PotBookModel" 9 0 0) (hr : meth.sig.returnType = some .int) {a1 : Int32} {a2 : Int32} {a3 : Int32} {a4 : Int32} {μ : Mem} {r : Int32} {μ' : Mem} (h : M_serves a1 a2 a3 a4 μ = some (r, μ')) : Vj p l e R s m args below meth c w 8 0 0 (MQ below (QI w r μ') args s 0 0 w.2.2.2) 0 [some (.ref (wad w 12 0)), some (.int a1), some (.int a2), some (.int a3), some (.int a4), none, none, none] [] μ := by
  unfold M_serves at h
  refine V_iload_n (i := 2) G eX12_serves_0 rfl rfl ?_
  obtain ⟨x1, h1, h⟩ := bdS h
  refine V_callIS (As := [.int a2]) (st := []) G lkX12_206 (M_isYear_ok (μ := μ) h1) (by decide) rfl rfl (Nat.le_of_ble_eq_true rfl) eX12_serves_1 ?_
  refine V_if_eq G eX12_serves_4 h (fun h => ?_) (fun h => ?_)
  · refine V_iconst (n := -1) (v := (-1)) G eX12_serves_43 rfl ?_
    exact V_riM G hr eX12_serves_44 h
  · refine V_iload_n (i := 3) G eX12_serves_7 rfl rfl ?_
    refine V_iconst (n := 1) (v := (nI 1)) G eX12_serves_8 rfl ?_
    refine V_sipush (n := 9999) (v := (nI 9999)) G eX12_serves_9 rfl ?_
    obtain ⟨x2, h1, h⟩ := bdS h
    refine V_callIS (As := [.int a3, .int (nI 1), .int (nI 9999)]) (st := []) G lkX12_198 (M_in_ok (μ := μ) h1) (by decide) rfl rfl (Nat.le_of_ble_eq_true rfl) eX12_serves_12 ?_
    refine V_if_eq G eX12_serves_15 h (fun h => ?_) (fun h => ?_)
    · refine V_iconst (n := -1) (v := (-1)) G eX12_serves_43 rfl ?_
      exact V_riM G hr eX12_serves_44 h
    · refine V_iload G eX12_serves_18 rfl ?_
      refine V_iconst (n := 0) (v := (nI 0)) G eX12_serves_20 rfl ?_
      refine V_iconst (n := 1) (v := (nI 1)) G eX12_serves_21 rfl ?_
      obtain ⟨x3, h1, h⟩ := bdS h
      refine V_callIS (As := [.int a4, .int (nI 0), .int (nI 1)]) (st := []) G lkX12_198 (M_in_ok (μ := μ) h1) (by decide) rfl rfl (Nat.le_of_ble_eq_true rfl) eX12_serves_22 ?_
      refine V_if_eq G eX12_serves_25 h (fun h => ?_) (fun h => ?_)
      · refine V_iconst (n := -1) (v := (-1)) G eX12_serves_43 rfl ?_
        exact V_riM G hr eX12_serves_44 h
      · refine V_aload_n (i := 0) G eX12_serves_28 rfl rfl ?_
        refine V_iload_n (i := 1) G eX12_serves_29 rfl rfl ?_
        obtain ⟨⟨x4, μ5⟩, h1, h⟩ := bdS h
        refine V_callI (As := [.int a1]) (st := []) G lkX12_376 (M_isTold_ok h1) (by decide) rfl rfl (Nat.le_of_ble_eq_true rfl) eX12_serves_30 ?_
        refine V_if_eq G eX12_serves_33 h (fun h => ?_) (fun h => ?_)
        · refine V_iconst (n := -1) (v := (-1)) G eX12_serves_43 rfl ?_
          exact V_riM G hr eX12_serves_44 h
        · refine V_aload_n (i := 0) G eX12_serves_36 rfl rfl ?_
          refine V_get (v := .int (mI μ5 1342 0 0)) G fgX12_361 rfl eX12_serves_37 ?_
          refine V_if_ne G eX12_serves_40 h (fun h => ?_) (fun h => ?_)
          · refine V_iconst (n := -1) (v := (-1)) G eX12_serves_45 rfl ?_
            refine V_istoreA (i := 5) (L' := [some (.ref (wad w 12 0)), some (.int a1), some (.int a2), some (.int a3), some (.int a4), some (.int (-1)), none, none]) G eX12_serves_46 (by decide) rfl rfl ?_
            refine V_iconst (n := 0) (v := (nI 0)) G eX12_serves_48 rfl ?_
            refine V_istoreA (i := 6) (L' := [some (.ref (wad w 12 0)), some (.int a1), some (.int a2), some (.int a3), some (.int a4), some (.int (-1)), some (.int (nI 0)), none]) G eX12_serves_49 (by decide) rfl rfl ?_
            obtain ⟨⟨x6, μ7⟩, h1, h⟩ := bdS h
            refine M_serves_l1_ok G h1 ?_
            refine V_iload G eX12_serves_118 rfl ?_
            exact V_riM G hr eX12_serves_120 h
          · refine V_iconst (n := -1) (v := (-1)) G eX12_serves_43 rfl ?_
            exact V_riM G hr eX12_serves_44 h
theorem M_serves_ok {l : Launch} {w : Wld} {a1 : Int32} {a2 : Int32} {a3 : Int32} {a4 : Int32} {μ : Mem} {r : Int32} {μ' : Mem} (h : M_serves a1 a2 a3 a4 μ = some (r, μ')) : CtI l w yX12_serves cX12_serves 8 .int 9 [.ref (wad w 12 0), .int a1, .int a2, .int a3, .int a4] μ r μ' :=
  Ct_of (own := "PotBookModel") [some (.ref (wad w 12 0)), some (.int a1), some (.int a2), some (.int a3), some (.int a4), none, none, none] (by decide +kernel) rfl rfl (Nat.le_of_ble_eq_true rfl) fun p e s m args below meth c G hr => M_serves_run G hr h
set_option maxRecDepth 100000 in
set_option maxHeartbeats 4000000 in
theorem M_boil_l1_ok {p : Program} {l : Launch} {e : Env} {R : Room} {s : State} {m : MethodId} {args : Array Value} {below : List Frame} {meth : Method} {c : Code} {w : Wld} (G : Cxt p R s m args meth c w cX12_boil 7 "PotBookModel" 9 0 0) (hr : meth.sig.returnType = some .int) {v3 : Int32} {v4 : Int32} {μ : Mem} {r : Int32} {μ' : Mem} : ∀ {n : Nat} {v5 : Int32} {v6 : Int32}, M_boil_l1 v3 v4 μ n v5 v6 = some (r, μ') → Vj p l e R s m args below meth c w 7 0 0 (MQ below (QI w r μ') args s 0 0 w.2.2.2) 58 [some (.ref (wad w 12 0)), none, none, some (.int v3), some (.int v4), some (.int v5), some (.int v6)] [] μ := by
  intro n
  induction n with
  | zero => intro v5 v6 h; exact noS h
  | succ n ih =>
    intro v5 v6 h
    replace h : M_boil_l1b v3 v4 μ (M_boil_l1 v3 v4 μ n) v5 v6 = some (r, μ') := h
    unfold M_boil_l1b at h
    refine V_iload G eX12_boil_58 rfl ?_
    refine V_sipush (n := 200) (v := (nI 200)) G eX12_boil_60 rfl ?_
    refine V_icmp_gt G eX12_boil_63 h (fun h => ?_) (fun h => ?_)
    · refine V_iconst (n := -1) (v := (-1)) G eX12_boil_110 rfl ?_
      exact V_riM G hr eX12_boil_111 h
    · refine V_iload G eX12_boil_66 rfl ?_
      refine V_bipush (n := 100) (v := (nI 100)) G eX12_boil_68 rfl ?_
      refine V_iload G eX12_boil_70 rfl ?_
      refine V_imul G eX12_boil_72 ?_
      refine V_bipush (n := 10) (v := (nI 10)) G eX12_boil_73 rfl ?_
      refine V_iload_n (i := 3) G eX12_boil_75 rfl rfl ?_
      refine V_imul G eX12_boil_76 ?_
      refine V_aload_n (i := 0) G eX12_boil_77 rfl rfl ?_
      refine V_get (v := .ref (wad w 1332 0)) G fgX12_80 rfl eX12_boil_78 ?_
      refine V_iconst (n := 0) (v := (nI 0)) G eX12_boil_81 rfl ?_
      refine V_iald G al_1332 (by decide) eX12_boil_82 h (fun x1 h => ?_)
      refine V_iadd G eX12_boil_83 ?_
      refine V_idiv G eX12_boil_84 h (fun x2 h => ?_)
      refine V_iadd G eX12_boil_85 ?_
      refine V_iload G eX12_boil_86 rfl ?_
      refine V_bipush (n := 25) (v := (nI 25)) G eX12_boil_88 rfl ?_
      refine V_idiv G eX12_boil_90 h (fun x3 h => ?_)
      refine V_isub G eX12_boil_91 ?_
      refine V_istore (i := 5) (L' := (fun x4 => [some (.ref (wad w 12 0)), none, none, some (.int v3), some (.int v4), some (.int x4), some (.int v6)])) G eX12_boil_92 (by decide) rfl (fun _ => rfl) h (fun x4 h => ?_)
      refine V_iload G eX12_boil_94 rfl ?_
      refine V_bipush (n := 100) (v := (nI 100)) G eX12_boil_96 rfl ?_
      refine V_icmp_lt G eX12_boil_98 h (fun h => ?_) (fun h => ?_)
      · refine V_iinc (z := (nI 1)) (L' := (fun x5 => [some (.ref (wad w 12 0)), none, none, some (.int v3), some (.int v4), some (.int x4), some (.int x5)])) G eX12_boil_104 rfl rfl (by decide) rfl (fun _ => rfl) h (fun x5 h => ?_)
        refine V_goto G eX12_boil_107 ?_
        exact (ih h)
      · refine V_iload G eX12_boil_101 rfl ?_
        exact V_riM G hr eX12_boil_103 h
set_option maxRecDepth 100000 in
set_option maxHeartbeats 4000000 in
theorem M_boil_run {p : Program} {l : Launch} {e : Env} {R : Room} {s : State} {m : MethodId} {args : Array Value} {below : List Frame} {meth : Method} {c : Code} {w : Wld} (G : Cxt p R s m args meth c w cX12_boil 7 "PotBookModel" 9 0 0) (hr : meth.sig.returnType = some .int) {a1 : Int32} {a2 : Int32} {a3 : Int32} {a4 : Int32} {μ : Mem} {r : Int32} {μ' : Mem} (h : M_boil a1 a2 a3 a4 μ = some (r, μ')) : Vj p l e R s m args below meth c w 7 0 0 (MQ below (QI w r μ') args s 0 0 w.2.2.2) 0 [some (.ref (wad w 12 0)), some (.int a1), some (.int a2), some (.int a3), some (.int a4), none, none] [] μ := by
  unfold M_boil at h
  refine V_iload_n (i := 3) G eX12_boil_0 rfl rfl ?_
  refine V_iconst (n := 1) (v := (nI 1)) G eX12_boil_1 rfl ?_
  refine V_bipush (n := 99) (v := (nI 99)) G eX12_boil_2 rfl ?_
  obtain ⟨x1, h1, h⟩ := bdS h
  refine V_callIS (As := [.int a3, .int (nI 1), .int (nI 99)]) (st := []) G lkX12_198 (M_in_ok (μ := μ) h1) (by decide) rfl rfl (Nat.le_of_ble_eq_true rfl) eX12_boil_4 ?_
  refine V_if_eq G eX12_boil_7 h (fun h => ?_) (fun h => ?_)
  · refine V_iconst (n := -1) (v := (-1)) G eX12_boil_43 rfl ?_
    exact V_riM G hr eX12_boil_44 h
  · refine V_iload G eX12_boil_10 rfl ?_
    refine V_iconst (n := 1) (v := (nI 1)) G eX12_boil_12 rfl ?_
    refine V_bipush (n := 99) (v := (nI 99)) G eX12_boil_13 rfl ?_
    obtain ⟨x2, h1, h⟩ := bdS h
    refine V_callIS (As := [.int a4, .int (nI 1), .int (nI 99)]) (st := []) G lkX12_198 (M_in_ok (μ := μ) h1) (by decide) rfl rfl (Nat.le_of_ble_eq_true rfl) eX12_boil_15 ?_
    refine V_if_eq G eX12_boil_18 h (fun h => ?_) (fun h => ?_)
    · refine V_iconst (n := -1) (v := (-1)) G eX12_boil_43 rfl ?_
      exact V_riM G hr eX12_boil_44 h
    · refine V_aload_n (i := 0) G eX12_boil_21 rfl rfl ?_
      refine V_iload_n (i := 1) G eX12_boil_22 rfl rfl ?_
      obtain ⟨⟨x3, μ4⟩, h1, h⟩ := bdS h
      refine V_callI (As := [.int a1]) (st := []) G lkX12_376 (M_isTold_ok h1) (by decide) rfl rfl (Nat.le_of_ble_eq_true rfl) eX12_boil_23 ?_
      refine V_if_eq G eX12_boil_26 h (fun h => ?_) (fun h => ?_)
      · refine V_iconst (n := -1) (v := (-1)) G eX12_boil_43 rfl ?_
        exact V_riM G hr eX12_boil_44 h
      · refine V_iload_n (i := 2) G eX12_boil_29 rfl rfl ?_
        refine V_iconst (n := 0) (v := (nI 0)) G eX12_boil_30 rfl ?_
        refine V_aload_n (i := 0) G eX12_boil_31 rfl rfl ?_
        refine V_get (v := .int (mI μ4 1342 0 0)) G fgX12_361 rfl eX12_boil_32 ?_
        refine V_iconst (n := 1) (v := (nI 1)) G eX12_boil_35 rfl ?_
        refine V_isub G eX12_boil_36 ?_
        obtain ⟨x5, h1, h⟩ := bdS h
        refine V_callIS (As := [.int a2, .int (nI 0), .int ((mI μ4 1342 0 0) - (nI 1))]) (st := []) G lkX12_198 (M_in_ok (μ := μ4) h1) (by decide) rfl rfl (Nat.le_of_ble_eq_true rfl) eX12_boil_37 ?_
        refine V_if_ne G eX12_boil_40 h (fun h => ?_) (fun h => ?_)
        · refine V_aload_n (i := 0) G eX12_boil_45 rfl rfl ?_
          refine V_iload_n (i := 1) G eX12_boil_46 rfl rfl ?_
          refine V_iload_n (i := 2) G eX12_boil_47 rfl rfl ?_
          obtain ⟨μ6, h1, h⟩ := bdS h
          refine V_callV (As := [.int a1, .int a2]) (st := []) G lkX12_379 (M_go_ok h1) (by decide) rfl rfl (Nat.le_of_ble_eq_true rfl) eX12_boil_48 ?_
          refine V_bipush (n := 10) (v := (nI 10)) G eX12_boil_51 rfl ?_
          refine V_istoreA (i := 5) (L' := [some (.ref (wad w 12 0)), some (.int a1), some (.int a2), some (.int a3), some (.int a4), some (.int (nI 10)), none]) G eX12_boil_53 (by decide) rfl rfl ?_
          refine V_iconst (n := 1) (v := (nI 1)) G eX12_boil_55 rfl ?_
          refine V_istoreA (i := 6) (L' := [some (.ref (wad w 12 0)), some (.int a1), some (.int a2), some (.int a3), some (.int a4), some (.int (nI 10)), some (.int (nI 1))]) G eX12_boil_56 (by decide) rfl rfl ?_
          refine V_sub (lS_s (lS_n (lS_n (lS_s (lS_s (lS_s (lS_s lS_0))))))) ?_
          exact M_boil_l1_ok G hr h
        · refine V_iconst (n := -1) (v := (-1)) G eX12_boil_43 rfl ?_
          exact V_riM G hr eX12_boil_44 h
theorem M_boil_ok {l : Launch} {w : Wld} {a1 : Int32} {a2 : Int32} {a3 : Int32} {a4 : Int32} {μ : Mem} {r : Int32} {μ' : Mem} (h : M_boil a1 a2 a3 a4 μ = some (r, μ')) : CtI l w yX12_boil cX12_boil 7 .int 9 [.ref (wad w 12 0), .int a1, .int a2, .int a3, .int a4] μ r μ' :=
  Ct_of (own := "PotBookModel") [some (.ref (wad w 12 0)), some (.int a1), some (.int a2), some (.int a3), some (.int a4), none, none] (by decide +kernel) rfl rfl (Nat.le_of_ble_eq_true rfl) fun p e s m args below meth c G hr => M_boil_run G hr h
set_option maxRecDepth 100000 in
set_option maxHeartbeats 4000000 in
theorem M_isOtherwise_run {p : Program} {l : Launch} {e : Env} {R : Room} {s : State} {m : MethodId} {args : Array Value} {below : List Frame} {meth : Method} {c : Code} {w : Wld} (G : Cxt p R s m args meth c w cX12_isOtherwise 6 "PotBookModel" 2 0 0) (hr : meth.sig.returnType = some .boolean) {a1 : Int32} {a2 : Int32} {a3 : Int32} {μ : Mem} {r : Int32} (h : M_isOtherwise a1 a2 a3 μ = some r) : Vj p l e R s m args below meth c w 6 0 0 (MQ below (QI w r μ) args s 0 0 w.2.2.2) 0 [some (.ref (wad w 12 0)), some (.int a1), some (.int a2), some (.int a3), none, none] [] μ := by
  unfold M_isOtherwise at h
  refine V_bipush (n := 8) (v := (nI 8)) G eX12_isOtherwise_0 rfl ?_
  refine V_iload_n (i := 1) G eX12_isOtherwise_2 rfl rfl ?_
  refine V_imul G eX12_isOtherwise_3 ?_
  refine V_aload_n (i := 0) G eX12_isOtherwise_4 rfl rfl ?_
  refine V_iload_n (i := 1) G eX12_isOtherwise_5 rfl rfl ?_
  refine V_iload_n (i := 3) G eX12_isOtherwise_6 rfl rfl ?_
  obtain ⟨x1, h1, h⟩ := bdS h
  refine V_callI (As := [.int a1, .int a3]) (st := [.int ((nI 8) * a1)]) G lkX12_227 (M_onPage_ok h1) (by decide) rfl rfl (Nat.le_of_ble_eq_true rfl) eX12_isOtherwise_7 ?_
  refine V_iadd G eX12_isOtherwise_10 ?_
  refine V_istore (i := 4) (L' := (fun x2 => [some (.ref (wad w 12 0)), some (.int a1), some (.int a2), some (.int a3), some (.int x2), none])) G eX12_isOtherwise_11 (by decide) rfl (fun _ => rfl) h (fun x2 h => ?_)
  refine V_bipush (n := 8) (v := (nI 8)) G eX12_isOtherwise_13 rfl ?_
  refine V_iload_n (i := 2) G eX12_isOtherwise_15 rfl rfl ?_
  refine V_imul G eX12_isOtherwise_16 ?_
  refine V_aload_n (i := 0) G eX12_isOtherwise_17 rfl rfl ?_
  refine V_iload_n (i := 2) G eX12_isOtherwise_18 rfl rfl ?_
  refine V_iload_n (i := 3) G eX12_isOtherwise_19 rfl rfl ?_
  obtain ⟨x3, h1, h⟩ := bdS h
  refine V_callI (As := [.int a2, .int a3]) (st := [.int ((nI 8) * a2)]) G lkX12_227 (M_onPage_ok h1) (by decide) rfl rfl (Nat.le_of_ble_eq_true rfl) eX12_isOtherwise_20 ?_
  refine V_iadd G eX12_isOtherwise_23 ?_
  refine V_istore (i := 5) (L' := (fun x4 => [some (.ref (wad w 12 0)), some (.int a1), some (.int a2), some (.int a3), some (.int x2), some (.int x4)])) G eX12_isOtherwise_24 (by decide) rfl (fun _ => rfl) h (fun x4 h => ?_)
  refine V_aload_n (i := 0) G eX12_isOtherwise_26 rfl rfl ?_
  refine V_get (v := .ref (wad w 1317 0)) G fgX12_44 rfl eX12_isOtherwise_27 ?_
  refine V_iload G eX12_isOtherwise_30 rfl ?_
  refine V_iald G al_1317 (by decide) eX12_isOtherwise_32 h (fun x5 h => ?_)
  refine V_aload_n (i := 0) G eX12_isOtherwise_33 rfl rfl ?_
  refine V_get (v := .ref (wad w 1317 0)) G fgX12_44 rfl eX12_isOtherwise_34 ?_
  refine V_iload G eX12_isOtherwise_37 rfl ?_
  refine V_iald G al_1317 (by decide) eX12_isOtherwise_39 h (fun x6 h => ?_)
  refine V_icmp_ne G eX12_isOtherwise_40 h (fun h => ?_) (fun h => ?_)
  · refine V_iconst (n := 1) (v := (nI 1)) G eX12_isOtherwise_60 rfl ?_
    refine V_goto G eX12_isOtherwise_61 ?_
    exact V_rz G hr eX12_isOtherwise_65 h
  · refine V_aload_n (i := 0) G eX12_isOtherwise_43 rfl rfl ?_
    refine V_get (v := .ref (wad w 1318 0)) G fgX12_47 rfl eX12_isOtherwise_44 ?_
    refine V_iload G eX12_isOtherwise_47 rfl ?_
    refine V_iald G al_1318 (by decide) eX12_isOtherwise_49 h (fun x7 h => ?_)
    refine V_aload_n (i := 0) G eX12_isOtherwise_50 rfl rfl ?_
    refine V_get (v := .ref (wad w 1318 0)) G fgX12_47 rfl eX12_isOtherwise_51 ?_
    refine V_iload G eX12_isOtherwise_54 rfl ?_
    refine V_iald G al_1318 (by decide) eX12_isOtherwise_56 h (fun x8 h => ?_)
    refine V_icmp_eq G eX12_isOtherwise_57 h (fun h => ?_) (fun h => ?_)
    · refine V_iconst (n := 0) (v := (nI 0)) G eX12_isOtherwise_64 rfl ?_
      exact V_rz G hr eX12_isOtherwise_65 h
    · refine V_iconst (n := 1) (v := (nI 1)) G eX12_isOtherwise_60 rfl ?_
      refine V_goto G eX12_isOtherwise_61 ?_
      exact V_rz G hr eX12_isOtherwise_65 h
theorem M_isOtherwise_ok {l : Launch} {w : Wld} {a1 : Int32} {a2 : Int32} {a3 : Int32} {μ : Mem} {r : Int32} (h : M_isOtherwise a1 a2 a3 μ = some r) : CtI l w yX12_isOtherwise cX12_isOtherwise 6 .boolean 2 [.ref (wad w 12 0), .int a1, .int a2, .int a3] μ r μ :=
  Ct_of (own := "PotBookModel") [some (.ref (wad w 12 0)), some (.int a1), some (.int a2), some (.int a3), none, none] (by decide +kernel) rfl rfl (Nat.le_of_ble_eq_true rfl) fun p e s m args below meth c G hr => M_isOtherwise_run G hr h
set_option maxRecDepth 100000 in
set_option maxHeartbeats 4000000 in
theorem M_changed_l1_ok {p : Program} {l : Launch} {e : Env} {R : Room} {s : State} {m : MethodId} {args : Array Value} {below : List Frame} {meth : Method} {c : Code} {w : Wld} {Q : State → Prop} (G : Cxt p R s m args meth c w cX12_changed 8 "PotBookModel" 5 0 0) {v1 : Int32} {v3 : Int32} {v4 : Int32} {v5 : Int32} {μ : Mem} {o1 : Int32} : ∀ {n : Nat} {v6 : Int32} {v7 : Int32}, M_changed_l1 v1 v3 v4 v5 μ n v6 v7 = some o1 → Vj p l e R s m args below meth c w 8 0 0 Q 142 [none, none, none, none, none, none, some (.int o1), none] [] μ → Vj p l e R s m args below meth c w 8 0 0 Q 90 [some (.ref (wad w 12 0)), some (.int v1), none, some (.int v3), some (.int v4), some (.int v5), some (.int v6), some (.int v7)] [] μ := by
  intro n
  induction n with
  | zero => intro v6 v7 h K; exact noS h
  | succ n ih =>
    intro v6 v7 h K
    replace h : M_changed_l1b v1 v3 v4 v5 μ (M_changed_l1 v1 v3 v4 v5 μ n) v6 v7 = some o1 := h
    unfold M_changed_l1b at h
    refine V_iload G eX12_changed_90 rfl ?_
    refine V_aload_n (i := 0) G eX12_changed_92 rfl rfl ?_
    refine V_get (v := .int (mI μ 1314 0 0)) G fgX12_195 rfl eX12_changed_93 ?_
    refine V_icmp_ge G eX12_changed_96 h (fun h => ?_) (fun h => ?_)
    · cases h; exact V_sub (lS_n (lS_n (lS_n (lS_n (lS_n (lS_n (lS_s (lS_n lS_0)))))))) K
    · refine V_iload G eX12_changed_99 rfl ?_
      refine V_iload G eX12_changed_101 rfl ?_
      refine V_iload G eX12_changed_103 rfl ?_
      refine V_iand G eX12_changed_105 ?_
      refine V_iload G eX12_changed_106 rfl ?_
      obtain ⟨x1, h1, h⟩ := bdS h
      refine V_callIS (As := [.int (v4 &&& v5), .int v7]) (st := [.int v6]) G lkX12_422 (M_has_ok (μ := μ) h1) (by decide) rfl rfl (Nat.le_of_ble_eq_true rfl) eX12_changed_108 ?_
      obtain ⟨x3, hj, h⟩ := bdS h
      have J : Vj p l e R s m args below meth c w 8 0 0 Q 133 [some (.ref (wad w 12 0)), some (.int v1), none, some (.int v3), some (.int v4), some (.int v5), none, some (.int v7)] [.int x3, .int v6] μ := by
        clear hj
        refine V_ior G eX12_changed_133 ?_
        refine V_istore (i := 6) (L' := (fun x4 => [some (.ref (wad w 12 0)), some (.int v1), none, some (.int v3), some (.int v4), some (.int v5), some (.int x4), some (.int v7)])) G eX12_changed_134 (by decide) rfl (fun _ => rfl) h (fun x4 h => ?_)
        refine V_iinc (z := (nI 1)) (L' := (fun x5 => [some (.ref (wad w 12 0)), some (.int v1), none, some (.int v3), some (.int v4), some (.int v5), some (.int x4), some (.int x5)])) G eX12_changed_136 rfl rfl (by decide) rfl (fun _ => rfl) h (fun x5 h => ?_)
        refine V_goto G eX12_changed_139 ?_
        exact (ih h K)
      replace h := hj
      clear hj
      refine V_if_eq G eX12_changed_111 h (fun h => ?_) (fun h => ?_)
      · refine V_iconst (n := 0) (v := (nI 0)) G eX12_changed_132 rfl ?_
        cases h; exact V_sub (lS_s (lS_s (lS_n (lS_s (lS_s (lS_s (lS_n (lS_s lS_0)))))))) J
      · refine V_aload_n (i := 0) G eX12_changed_114 rfl rfl ?_
        refine V_iload_n (i := 1) G eX12_changed_115 rfl rfl ?_
        refine V_iload_n (i := 3) G eX12_changed_116 rfl rfl ?_
        refine V_iload G eX12_changed_117 rfl ?_
        obtain ⟨x2, h1, h⟩ := bdS h
        refine V_callI (As := [.int v1, .int v3, .int v7]) (st := [.int v6]) G lkX12_501 (M_isOtherwise_ok h1) (by decide) rfl rfl (Nat.le_of_ble_eq_true rfl) eX12_changed_119 ?_
        refine V_if_eq G eX12_changed_122 h (fun h => ?_) (fun h => ?_)
        · refine V_iconst (n := 0) (v := (nI 0)) G eX12_changed_132 rfl ?_
          cases h; exact V_sub (lS_s (lS_s (lS_n (lS_s (lS_s (lS_s (lS_n (lS_s lS_0)))))))) J
        · refine V_iconst (n := 1) (v := (nI 1)) G eX12_changed_125 rfl ?_
          refine V_iload G eX12_changed_126 rfl ?_
          refine V_ishl G eX12_changed_128 ?_
          refine V_goto G eX12_changed_129 ?_
          cases h; exact V_sub (lS_s (lS_s (lS_n (lS_s (lS_s (lS_s (lS_n (lS_s lS_0)))))))) J
set_option maxRecDepth 100000 in
set_option maxHeartbeats 4000000 in
theorem M_changed_run {p : Program} {l : Launch} {e : Env} {R : Room} {s : State} {m : MethodId} {args : Array Value} {below : List Frame} {meth : Method} {c : Code} {w : Wld} (G : Cxt p R s m args meth c w cX12_changed 8 "PotBookModel" 5 0 0) (hr : meth.sig.returnType = some .int) {a1 : Int32} {a2 : Int32} {μ : Mem} {r : Int32} {μ' : Mem} (h : M_changed a1 a2 μ = some (r, μ')) : Vj p l e R s m args below meth c w 8 0 0 (MQ below (QI w r μ') args s 0 0 w.2.2.2) 0 [some (.ref (wad w 12 0)), some (.int a1), some (.int a2), none, none, none, none, none] [] μ := by
  unfold M_changed at h
  refine V_aload_n (i := 0) G eX12_changed_0 rfl rfl ?_
  refine V_iload_n (i := 1) G eX12_changed_1 rfl rfl ?_
  obtain ⟨⟨x1, μ2⟩, h1, h⟩ := bdS h
  refine V_callI (As := [.int a1]) (st := []) G lkX12_498 (M_came_ok h1) (by decide) rfl rfl (Nat.le_of_ble_eq_true rfl) eX12_changed_2 ?_
  refine V_istoreA_n (i := 3) (L' := [some (.ref (wad w 12 0)), some (.int a1), some (.int a2), some (.int x1), none, none, none, none]) G rfl eX12_changed_5 (by decide) rfl rfl ?_
  refine V_iload_n (i := 3) G eX12_changed_6 rfl rfl ?_
  refine V_iconst (n := -1) (v := (-1)) G eX12_changed_7 rfl ?_
  refine V_icmp_eq G eX12_changed_8 h (fun h => ?_) (fun h => ?_)
  · refine V_iconst (n := -1) (v := (-1)) G eX12_changed_20 rfl ?_
    exact V_riM G hr eX12_changed_21 h
  · refine V_iload_n (i := 2) G eX12_changed_11 rfl rfl ?_
    refine V_iconst (n := 0) (v := (nI 0)) G eX12_changed_12 rfl ?_
    refine V_iconst (n := 3) (v := (nI 3)) G eX12_changed_13 rfl ?_
    obtain ⟨x3, h1, h⟩ := bdS h
    refine V_callIS (As := [.int a2, .int (nI 0), .int (nI 3)]) (st := []) G lkX12_198 (M_in_ok (μ := μ2) h1) (by decide) rfl rfl (Nat.le_of_ble_eq_true rfl) eX12_changed_14 ?_
    refine V_if_ne G eX12_changed_17 h (fun h => ?_) (fun h => ?_)
    · refine V_aload_n (i := 0) G eX12_changed_22 rfl rfl ?_
      refine V_iload_n (i := 1) G eX12_changed_23 rfl rfl ?_
      obtain ⟨x4, h1, h⟩ := bdS h
      refine V_callI (As := [.int a1]) (st := []) G lkX12_335 (M_thingsOf_ok h1) (by decide) rfl rfl (Nat.le_of_ble_eq_true rfl) eX12_changed_24 ?_
      refine V_istoreA (i := 4) (L' := [some (.ref (wad w 12 0)), some (.int a1), some (.int a2), some (.int x1), some (.int x4), none, none, none]) G eX12_changed_27 (by decide) rfl rfl ?_
      refine V_aload_n (i := 0) G eX12_changed_29 rfl rfl ?_
      refine V_iload_n (i := 3) G eX12_changed_30 rfl rfl ?_
      obtain ⟨x5, h1, h⟩ := bdS h
      refine V_callI (As := [.int x1]) (st := []) G lkX12_335 (M_thingsOf_ok h1) (by decide) rfl rfl (Nat.le_of_ble_eq_true rfl) eX12_changed_31 ?_
      refine V_istoreA (i := 5) (L' := [some (.ref (wad w 12 0)), some (.int a1), some (.int a2), some (.int x1), some (.int x4), some (.int x5), none, none]) G eX12_changed_34 (by decide) rfl rfl ?_
      refine V_iload_n (i := 2) G eX12_changed_36 rfl rfl ?_
      refine V_iconst (n := 2) (v := (nI 2)) G eX12_changed_37 rfl ?_
      refine V_icmp_ge G eX12_changed_38 h (fun h => ?_) (fun h => ?_)
      · refine V_iload_n (i := 2) G eX12_changed_63 rfl rfl ?_
        refine V_iconst (n := 3) (v := (nI 3)) G eX12_changed_64 rfl ?_
        refine V_icmp_ne G eX12_changed_65 h (fun h => ?_) (fun h => ?_)
        · refine V_iconst (n := 0) (v := (nI 0)) G eX12_changed_84 rfl ?_
          refine V_istoreA (i := 6) (L' := [some (.ref (wad w 12 0)), some (.int a1), some (.int a2), some (.int x1), some (.int x4), some (.int x5), some (.int (nI 0)), none]) G eX12_changed_85 (by decide) rfl rfl ?_
          refine V_iconst (n := 0) (v := (nI 0)) G eX12_changed_87 rfl ?_
          refine V_istoreA (i := 7) (L' := [some (.ref (wad w 12 0)), some (.int a1), some (.int a2), some (.int x1), some (.int x4), some (.int x5), some (.int (nI 0)), some (.int (nI 0))]) G eX12_changed_88 (by decide) rfl rfl ?_
          obtain ⟨x6, h1, h⟩ := bdS h
          refine V_sub (lS_s (lS_s (lS_n (lS_s (lS_s (lS_s (lS_s (lS_s lS_0)))))))) ?_
          refine M_changed_l1_ok G h1 ?_
          refine V_iload G eX12_changed_142 rfl ?_
          exact V_riM G hr eX12_changed_144 h
        · refine V_aload_n (i := 0) G eX12_changed_68 rfl rfl ?_
          refine V_iload_n (i := 1) G eX12_changed_69 rfl rfl ?_
          refine V_iload_n (i := 3) G eX12_changed_70 rfl rfl ?_
          obtain ⟨⟨x7, μ8⟩, h1, h⟩ := bdS h
          refine V_callI (As := [.int a1, .int x1]) (st := []) G lkX12_492 (M_farOf_ok h1) (by decide) rfl rfl (Nat.le_of_ble_eq_true rfl) eX12_changed_71 ?_
          refine V_iload G eX12_changed_74 rfl ?_
          refine V_iload G eX12_changed_76 rfl ?_
          refine V_ixor G eX12_changed_78 ?_
          obtain ⟨x9, h1, h⟩ := bdS h
          refine V_callIS (As := [.int (x4 ^^^ x5)]) (st := [.int x7]) G lkX12_432 (M_bits_ok (μ := μ8) h1) (by decide) rfl rfl (Nat.le_of_ble_eq_true rfl) eX12_changed_79 ?_
          refine V_isub G eX12_changed_82 ?_
          exact V_riM G hr eX12_changed_83 h
      · refine V_iload_n (i := 2) G eX12_changed_41 rfl rfl ?_
        refine V_if_ne G eX12_changed_42 h (fun h => ?_) (fun h => ?_)
        · refine V_iload G eX12_changed_55 rfl ?_
          refine V_iload G eX12_changed_57 rfl ?_
          refine V_iconst (n := -1) (v := (-1)) G eX12_changed_59 rfl ?_
          refine V_ixor G eX12_changed_60 ?_
          refine V_iand G eX12_changed_61 ?_
          exact V_riM G hr eX12_changed_62 h
        · refine V_iload G eX12_changed_45 rfl ?_
          refine V_iload G eX12_changed_47 rfl ?_
          refine V_iconst (n := -1) (v := (-1)) G eX12_changed_49 rfl ?_
          refine V_ixor G eX12_changed_50 ?_
          refine V_iand G eX12_changed_51 ?_
          refine V_goto G eX12_changed_52 ?_
          exact V_riM G hr eX12_changed_62 h
    · refine V_iconst (n := -1) (v := (-1)) G eX12_changed_20 rfl ?_
      exact V_riM G hr eX12_changed_21 h
theorem M_changed_ok {l : Launch} {w : Wld} {a1 : Int32} {a2 : Int32} {μ : Mem} {r : Int32} {μ' : Mem} (h : M_changed a1 a2 μ = some (r, μ')) : CtI l w yX12_changed cX12_changed 8 .int 5 [.ref (wad w 12 0), .int a1, .int a2] μ r μ' :=
  Ct_of (own := "PotBookModel") [some (.ref (wad w 12 0)), some (.int a1), some (.int a2), none, none, none, none, none] (by decide +kernel) rfl rfl (Nat.le_of_ble_eq_true rfl) fun p e s m args below meth c G hr => M_changed_run G hr h
set_option maxRecDepth 100000 in
set_option maxHeartbeats 4000000 in
theorem M_line_l1_ok {p : Program} {l : Launch} {e : Env} {R : Room} {s : State} {m : MethodId} {args : Array Value} {below : List Frame} {meth : Method} {c : Code} {w : Wld} {Q : State → Prop} (G : Cxt p R s m args meth c w cX12_line 4 "PotBookModel" 5 0 0) {o1 : Int32} {μo : Mem} : ∀ {n : Nat} {v2 : Int32} {v3 : Int32} {μ : Mem}, M_line_l1 n v2 v3 μ = some (o1, μo) → Vj p l e R s m args below meth c w 4 0 0 Q 35 [none, none, some (.int o1), none] [] μo → Vj p l e R s m args below meth c w 4 0 0 Q 18 [some (.ref (wad w 12 0)), none, some (.int v2), some (.int v3)] [] μ := by
  intro n
  induction n with
  | zero => intro v2 v3 μ h K; exact noS h
  | succ n ih =>
    intro v2 v3 μ h K
    replace h : M_line_l1b (M_line_l1 n) v2 v3 μ = some (o1, μo) := h
    unfold M_line_l1b at h
    refine V_iload_n (i := 3) G eX12_line_18 rfl rfl ?_
    refine V_iconst (n := -1) (v := (-1)) G eX12_line_19 rfl ?_
    refine V_icmp_eq G eX12_line_20 h (fun h => ?_) (fun h => ?_)
    · cases h; exact V_sub (lS_n (lS_n (lS_s (lS_n lS_0)))) K
    · refine V_iinc (z := (nI 1)) (L' := (fun x1 => [some (.ref (wad w 12 0)), none, some (.int x1), some (.int v3)])) G eX12_line_23 rfl rfl (by decide) rfl (fun _ => rfl) h (fun x1 h => ?_)
      refine V_aload_n (i := 0) G eX12_line_26 rfl rfl ?_
      refine V_iload_n (i := 3) G eX12_line_27 rfl rfl ?_
      obtain ⟨⟨x2, μ3⟩, h1, h⟩ := bdS h
      refine V_callI (As := [.int v3]) (st := []) G lkX12_498 (M_came_ok h1) (by decide) rfl rfl (Nat.le_of_ble_eq_true rfl) eX12_line_28 ?_
      refine V_istoreA_n (i := 3) (L' := [some (.ref (wad w 12 0)), none, some (.int x1), some (.int x2)]) G rfl eX12_line_31 (by decide) rfl rfl ?_
      refine V_goto G eX12_line_32 ?_
      exact (ih h K)
set_option maxRecDepth 100000 in
set_option maxHeartbeats 4000000 in
theorem M_line_run {p : Program} {l : Launch} {e : Env} {R : Room} {s : State} {m : MethodId} {args : Array Value} {below : List Frame} {meth : Method} {c : Code} {w : Wld} (G : Cxt p R s m args meth c w cX12_line 4 "PotBookModel" 5 0 0) (hr : meth.sig.returnType = some .int) {a1 : Int32} {μ : Mem} {r : Int32} {μ' : Mem} (h : M_line a1 μ = some (r, μ')) : Vj p l e R s m args below meth c w 4 0 0 (MQ below (QI w r μ') args s 0 0 w.2.2.2) 0 [some (.ref (wad w 12 0)), some (.int a1), none, none] [] μ := by
  unfold M_line at h
  refine V_aload_n (i := 0) G eX12_line_0 rfl rfl ?_
  refine V_iload_n (i := 1) G eX12_line_1 rfl rfl ?_
  obtain ⟨x1, h1, h⟩ := bdS h
  refine V_callI (As := [.int a1]) (st := []) G lkX12_332 (M_isPage_ok h1) (by decide) rfl rfl (Nat.le_of_ble_eq_true rfl) eX12_line_2 ?_
  refine V_if_ne G eX12_line_5 h (fun h => ?_) (fun h => ?_)
  · refine V_iconst (n := 0) (v := (nI 0)) G eX12_line_10 rfl ?_
    refine V_istoreA_n (i := 2) (L' := [some (.ref (wad w 12 0)), some (.int a1), some (.int (nI 0)), none]) G rfl eX12_line_11 (by decide) rfl rfl ?_
    refine V_aload_n (i := 0) G eX12_line_12 rfl rfl ?_
    refine V_iload_n (i := 1) G eX12_line_13 rfl rfl ?_
    obtain ⟨⟨x2, μ3⟩, h1, h⟩ := bdS h
    refine V_callI (As := [.int a1]) (st := []) G lkX12_498 (M_came_ok h1) (by decide) rfl rfl (Nat.le_of_ble_eq_true rfl) eX12_line_14 ?_
    refine V_istoreA_n (i := 3) (L' := [some (.ref (wad w 12 0)), some (.int a1), some (.int (nI 0)), some (.int x2)]) G rfl eX12_line_17 (by decide) rfl rfl ?_
    obtain ⟨⟨x4, μ5⟩, h1, h⟩ := bdS h
    refine V_sub (lS_s (lS_n (lS_s (lS_s lS_0)))) ?_
    refine M_line_l1_ok G h1 ?_
    refine V_iload_n (i := 2) G eX12_line_35 rfl rfl ?_
    exact V_riM G hr eX12_line_36 h
  · refine V_iconst (n := -1) (v := (-1)) G eX12_line_8 rfl ?_
    exact V_riM G hr eX12_line_9 h
theorem M_line_ok {l : Launch} {w : Wld} {a1 : Int32} {μ : Mem} {r : Int32} {μ' : Mem} (h : M_line a1 μ = some (r, μ')) : CtI l w yX12_line cX12_line 4 .int 5 [.ref (wad w 12 0), .int a1] μ r μ' :=
  Ct_of (own := "PotBookModel") [some (.ref (wad w 12 0)), some (.int a1), none, none] (by decide +kernel) rfl rfl (Nat.le_of_ble_eq_true rfl) fun p e s m args below meth c G hr => M_line_run G hr h
set_option maxRecDepth 100000 in
set_option maxHeartbeats 4000000 in
theorem M_stem_l1_ok {p : Program} {l : Launch} {e : Env} {R : Room} {s : State} {m : MethodId} {args : Array Value} {below : List Frame} {meth : Method} {c : Code} {w : Wld} {Q : State → Prop} (G : Cxt p R s m args meth c w cX12_stem 6 "PotBookModel" 5 0 0) {o1 : Int32} {μo : Mem} : ∀ {n : Nat} {v3 : Int32} {v4 : Int32} {μ : Mem}, M_stem_l1 n v3 v4 μ = some (o1, μo) → Vj p l e R s m args below meth c w 6 0 0 Q 55 [none, none, none, some (.int o1), none, none] [] μo → Vj p l e R s m args below meth c w 6 0 0 Q 23 [some (.ref (wad w 12 0)), none, none, some (.int v3), some (.int v4), none] [] μ := by
  intro n
  induction n with
  | zero => intro v3 v4 μ h K; exact noS h
  | succ n ih =>
    intro v3 v4 μ h K
    replace h : M_stem_l1b (M_stem_l1 n) v3 v4 μ = some (o1, μo) := h
    unfold M_stem_l1b at h
    refine V_iload_n (i := 3) G eX12_stem_23 rfl rfl ?_
    refine V_iload G eX12_stem_24 rfl ?_
    refine V_icmp_eq G eX12_stem_26 h (fun h => ?_) (fun h => ?_)
    · cases h; exact V_sub (lS_n (lS_n (lS_n (lS_s (lS_n (lS_n lS_0)))))) K
    · refine V_aload_n (i := 0) G eX12_stem_29 rfl rfl ?_
      refine V_iload_n (i := 3) G eX12_stem_30 rfl rfl ?_
      refine V_iload G eX12_stem_31 rfl ?_
      refine V_jMax G mkX12_209 (by decide) (Nat.le_of_ble_eq_true rfl) eX12_stem_33 ?_
      obtain ⟨⟨x1, μ2⟩, h1, h⟩ := bdS h
      refine V_callI (As := [.int (jMax v3 v4)]) (st := []) G lkX12_498 (M_came_ok h1) (by decide) rfl rfl (Nat.le_of_ble_eq_true rfl) eX12_stem_36 ?_
      refine V_istoreA (i := 5) (L' := [some (.ref (wad w 12 0)), none, none, some (.int v3), some (.int v4), some (.int x1)]) G eX12_stem_39 (by decide) rfl rfl ?_
      refine V_iload_n (i := 3) G eX12_stem_41 rfl rfl ?_
      refine V_iload G eX12_stem_42 rfl ?_
      refine V_jMin G mkX12_382 (by decide) (Nat.le_of_ble_eq_true rfl) eX12_stem_44 ?_
      refine V_istore_n (i := 3) (L' := (fun x3 => [some (.ref (wad w 12 0)), none, none, some (.int x3), some (.int v4), some (.int x1)])) G rfl eX12_stem_47 (by decide) rfl (fun _ => rfl) h (fun x3 h => ?_)
      refine V_iload G eX12_stem_48 rfl ?_
      refine V_istoreA (i := 4) (L' := [some (.ref (wad w 12 0)), none, none, some (.int x3), some (.int x1), some (.int x1)]) G eX12_stem_50 (by decide) rfl rfl ?_
      refine V_goto G eX12_stem_52 ?_
      exact V_sub (lS_s (lS_n (lS_n (lS_s (lS_s (lS_n lS_0)))))) (ih h K)
set_option maxRecDepth 100000 in
set_option maxHeartbeats 4000000 in
theorem M_stem_run {p : Program} {l : Launch} {e : Env} {R : Room} {s : State} {m : MethodId} {args : Array Value} {below : List Frame} {meth : Method} {c : Code} {w : Wld} (G : Cxt p R s m args meth c w cX12_stem 6 "PotBookModel" 5 0 0) (hr : meth.sig.returnType = some .int) {a1 : Int32} {a2 : Int32} {μ : Mem} {r : Int32} {μ' : Mem} (h : M_stem a1 a2 μ = some (r, μ')) : Vj p l e R s m args below meth c w 6 0 0 (MQ below (QI w r μ') args s 0 0 w.2.2.2) 0 [some (.ref (wad w 12 0)), some (.int a1), some (.int a2), none, none, none] [] μ := by
  unfold M_stem at h
  refine V_aload_n (i := 0) G eX12_stem_0 rfl rfl ?_
  refine V_iload_n (i := 1) G eX12_stem_1 rfl rfl ?_
  obtain ⟨x1, h1, h⟩ := bdS h
  refine V_callI (As := [.int a1]) (st := []) G lkX12_332 (M_isPage_ok h1) (by decide) rfl rfl (Nat.le_of_ble_eq_true rfl) eX12_stem_2 ?_
  refine V_if_eq G eX12_stem_5 h (fun h => ?_) (fun h => ?_)
  · refine V_iconst (n := -1) (v := (-1)) G eX12_stem_16 rfl ?_
    exact V_riM G hr eX12_stem_17 h
  · refine V_aload_n (i := 0) G eX12_stem_8 rfl rfl ?_
    refine V_iload_n (i := 2) G eX12_stem_9 rfl rfl ?_
    obtain ⟨x2, h1, h⟩ := bdS h
    refine V_callI (As := [.int a2]) (st := []) G lkX12_332 (M_isPage_ok h1) (by decide) rfl rfl (Nat.le_of_ble_eq_true rfl) eX12_stem_10 ?_
    refine V_if_ne G eX12_stem_13 h (fun h => ?_) (fun h => ?_)
    · refine V_iload_n (i := 1) G eX12_stem_18 rfl rfl ?_
      refine V_istoreA_n (i := 3) (L' := [some (.ref (wad w 12 0)), some (.int a1), some (.int a2), some (.int a1), none, none]) G rfl eX12_stem_19 (by decide) rfl rfl ?_
      refine V_iload_n (i := 2) G eX12_stem_20 rfl rfl ?_
      refine V_istoreA (i := 4) (L' := [some (.ref (wad w 12 0)), some (.int a1), some (.int a2), some (.int a1), some (.int a2), none]) G eX12_stem_21 (by decide) rfl rfl ?_
      obtain ⟨⟨x3, μ4⟩, h1, h⟩ := bdS h
      refine V_sub (lS_s (lS_n (lS_n (lS_s (lS_s (lS_n lS_0)))))) ?_
      refine M_stem_l1_ok G h1 ?_
      refine V_iload_n (i := 3) G eX12_stem_55 rfl rfl ?_
      exact V_riM G hr eX12_stem_56 h
    · refine V_iconst (n := -1) (v := (-1)) G eX12_stem_16 rfl ?_
      exact V_riM G hr eX12_stem_17 h
theorem M_stem_ok {l : Launch} {w : Wld} {a1 : Int32} {a2 : Int32} {μ : Mem} {r : Int32} {μ' : Mem} (h : M_stem a1 a2 μ = some (r, μ')) : CtI l w yX12_stem cX12_stem 6 .int 5 [.ref (wad w 12 0), .int a1, .int a2] μ r μ' :=
  Ct_of (own := "PotBookModel") [some (.ref (wad w 12 0)), some (.int a1), some (.int a2), none, none, none] (by decide +kernel) rfl rfl (Nat.le_of_ble_eq_true rfl) fun p e s m args below meth c G hr => M_stem_run G hr h
set_option maxRecDepth 100000 in
set_option maxHeartbeats 4000000 in
theorem M_guessOf_l1_ok {p : Program} {l : Launch} {e : Env} {R : Room} {s : State} {m : MethodId} {args : Array Value} {below : List Frame} {meth : Method} {c : Code} {w : Wld} {Q : State → Prop} (G : Cxt p R s m args meth c w cX12_guessOf 7 "PotBookModel" 2 0 0) {v1 : Int32} {v2 : Int32} {μ : Mem} {o1 : Int32} {o2 : Int32} : ∀ {n : Nat} {v3 : Int32} {v4 : Int32} {v5 : Int32}, M_guessOf_l1 v1 v2 μ n v3 v4 v5 = some (o1, o2) → Vj p l e R s m args below meth c w 7 0 0 Q 111 [none, none, none, some (.int o1), some (.int o2), none, none] [] μ → Vj p l e R s m args below meth c w 7 0 0 Q 8 [some (.ref (wad w 12 0)), some (.int v1), some (.int v2), some (.int v3), some (.int v4), some (.int v5), none] [] μ := by
  intro n
  induction n with
  | zero => intro v3 v4 v5 h K; exact noS h
  | succ n ih =>
    intro v3 v4 v5 h K
    replace h : M_guessOf_l1b v1 v2 μ (M_guessOf_l1 v1 v2 μ n) v3 v4 v5 = some (o1, o2) := h
    unfold M_guessOf_l1b at h
    refine V_iload G eX12_guessOf_8 rfl ?_
    refine V_aload_n (i := 0) G eX12_guessOf_10 rfl rfl ?_
    refine V_get (v := .int (mI μ 1322 0 0)) G fgX12_299 rfl eX12_guessOf_11 ?_
    refine V_icmp_ge G eX12_guessOf_14 h (fun h => ?_) (fun h => ?_)
    · cases h; exact V_sub (lS_n (lS_n (lS_n (lS_s (lS_s (lS_n (lS_n lS_0))))))) K
    · refine V_aload_n (i := 0) G eX12_guessOf_17 rfl rfl ?_
      refine V_iload G eX12_guessOf_18 rfl ?_
      refine V_iload_n (i := 2) G eX12_guessOf_20 rfl rfl ?_
      obtain ⟨x1, h1, h⟩ := bdS h
      refine V_callI (As := [.int v5, .int v2]) (st := []) G lkX12_227 (M_onPage_ok h1) (by decide) rfl rfl (Nat.le_of_ble_eq_true rfl) eX12_guessOf_21 ?_
      refine V_istoreA (i := 6) (L' := [some (.ref (wad w 12 0)), some (.int v1), some (.int v2), some (.int v3), some (.int v4), some (.int v5), some (.int x1)]) G eX12_guessOf_24 (by decide) rfl rfl ?_
      refine V_iload G eX12_guessOf_26 rfl ?_
      refine V_iload_n (i := 1) G eX12_guessOf_28 rfl rfl ?_
      obtain ⟨⟨x10, x11⟩, hj, h⟩ := bdS h
      have J : Vj p l e R s m args below meth c w 7 0 0 Q 105 [some (.ref (wad w 12 0)), some (.int v1), some (.int v2), some (.int x10), some (.int x11), some (.int v5), none] [] μ := by
        clear hj
        refine V_iinc (z := (nI 1)) (L' := (fun x12 => [some (.ref (wad w 12 0)), some (.int v1), some (.int v2), some (.int x10), some (.int x11), some (.int x12), none])) G eX12_guessOf_105 rfl rfl (by decide) rfl (fun _ => rfl) h (fun x12 h => ?_)
        refine V_goto G eX12_guessOf_108 ?_
        exact (ih h K)
      replace h := hj
      clear hj
      refine V_icmp_eq G eX12_guessOf_29 h (fun h => ?_) (fun h => ?_)
      · cases h; exact V_sub (lS_s (lS_s (lS_s (lS_s (lS_s (lS_s (lS_n lS_0))))))) J
      · refine V_aload_n (i := 0) G eX12_guessOf_32 rfl rfl ?_
        refine V_get (v := .ref (wad w 1321 0)) G fgX12_56 rfl eX12_guessOf_33 ?_
        refine V_iload G eX12_guessOf_36 rfl ?_
        refine V_iald G al_1321 (by decide) eX12_guessOf_38 h (fun x2 h => ?_)
        refine V_aload_n (i := 0) G eX12_guessOf_39 rfl rfl ?_
        refine V_get (v := .ref (wad w 1321 0)) G fgX12_56 rfl eX12_guessOf_40 ?_
        refine V_iload_n (i := 1) G eX12_guessOf_43 rfl rfl ?_
        refine V_iald G al_1321 (by decide) eX12_guessOf_44 h (fun x3 h => ?_)
        refine V_icmp_ne G eX12_guessOf_45 h (fun h => ?_) (fun h => ?_)
        · cases h; exact V_sub (lS_s (lS_s (lS_s (lS_s (lS_s (lS_s (lS_n lS_0))))))) J
        · refine V_iload G eX12_guessOf_48 rfl ?_
          refine V_iconst (n := -1) (v := (-1)) G eX12_guessOf_50 rfl ?_
          refine V_icmp_eq G eX12_guessOf_51 h (fun h => ?_) (fun h => ?_)
          · cases h; exact V_sub (lS_s (lS_s (lS_s (lS_s (lS_s (lS_s (lS_n lS_0))))))) J
          · refine V_aload_n (i := 0) G eX12_guessOf_54 rfl rfl ?_
            refine V_get (v := .ref (wad w 1317 0)) G fgX12_44 rfl eX12_guessOf_55 ?_
            refine V_bipush (n := 8) (v := (nI 8)) G eX12_guessOf_58 rfl ?_
            refine V_iload G eX12_guessOf_60 rfl ?_
            refine V_imul G eX12_guessOf_62 ?_
            refine V_iload G eX12_guessOf_63 rfl ?_
            refine V_iadd G eX12_guessOf_65 ?_
            refine V_iald G al_1317 (by decide) eX12_guessOf_66 h (fun x4 h => ?_)
            refine V_if_le G eX12_guessOf_67 h (fun h => ?_) (fun h => ?_)
            · cases h; exact V_sub (lS_s (lS_s (lS_s (lS_s (lS_s (lS_s (lS_n lS_0))))))) J
            · refine V_iload_n (i := 3) G eX12_guessOf_70 rfl rfl ?_
              refine V_aload_n (i := 0) G eX12_guessOf_71 rfl rfl ?_
              refine V_get (v := .ref (wad w 1317 0)) G fgX12_44 rfl eX12_guessOf_72 ?_
              refine V_bipush (n := 8) (v := (nI 8)) G eX12_guessOf_75 rfl ?_
              refine V_iload G eX12_guessOf_77 rfl ?_
              refine V_imul G eX12_guessOf_79 ?_
              refine V_iload G eX12_guessOf_80 rfl ?_
              refine V_iadd G eX12_guessOf_82 ?_
              refine V_iald G al_1317 (by decide) eX12_guessOf_83 h (fun x5 h => ?_)
              refine V_aload_n (i := 0) G eX12_guessOf_84 rfl rfl ?_
              refine V_get (v := .ref (wad w 1318 0)) G fgX12_47 rfl eX12_guessOf_85 ?_
              refine V_bipush (n := 8) (v := (nI 8)) G eX12_guessOf_88 rfl ?_
              refine V_iload G eX12_guessOf_90 rfl ?_
              refine V_imul G eX12_guessOf_92 ?_
              refine V_iload G eX12_guessOf_93 rfl ?_
              refine V_iadd G eX12_guessOf_95 ?_
              refine V_iald G al_1318 (by decide) eX12_guessOf_96 h (fun x6 h => ?_)
              refine V_iadd G eX12_guessOf_97 ?_
              refine V_iconst (n := 2) (v := (nI 2)) G eX12_guessOf_98 rfl ?_
              refine V_idiv G eX12_guessOf_99 h (fun x7 h => ?_)
              refine V_iadd G eX12_guessOf_100 ?_
              refine V_istore_n (i := 3) (L' := (fun x8 => [some (.ref (wad w 12 0)), some (.int v1), some (.int v2), some (.int x8), some (.int v4), some (.int v5), some (.int x1)])) G rfl eX12_guessOf_101 (by decide) rfl (fun _ => rfl) h (fun x8 h => ?_)
              refine V_iinc (z := (nI 1)) (L' := (fun x9 => [some (.ref (wad w 12 0)), some (.int v1), some (.int v2), some (.int x8), some (.int x9), some (.int v5), some (.int x1)])) G eX12_guessOf_102 rfl rfl (by decide) rfl (fun _ => rfl) h (fun x9 h => ?_)
              cases h; exact V_sub (lS_s (lS_s (lS_s (lS_s (lS_s (lS_s (lS_n lS_0))))))) J
set_option maxRecDepth 100000 in
set_option maxHeartbeats 4000000 in
theorem M_guessOf_run {p : Program} {l : Launch} {e : Env} {R : Room} {s : State} {m : MethodId} {args : Array Value} {below : List Frame} {meth : Method} {c : Code} {w : Wld} (G : Cxt p R s m args meth c w cX12_guessOf 7 "PotBookModel" 2 0 0) (hr : meth.sig.returnType = some .int) {a1 : Int32} {a2 : Int32} {μ : Mem} {r : Int32} (h : M_guessOf a1 a2 μ = some r) : Vj p l e R s m args below meth c w 7 0 0 (MQ below (QI w r μ) args s 0 0 w.2.2.2) 0 [some (.ref (wad w 12 0)), some (.int a1), some (.int a2), none, none, none, none] [] μ := by
  unfold M_guessOf at h
  refine V_iconst (n := 0) (v := (nI 0)) G eX12_guessOf_0 rfl ?_
  refine V_istoreA_n (i := 3) (L' := [some (.ref (wad w 12 0)), some (.int a1), some (.int a2), some (.int (nI 0)), none, none, none]) G rfl eX12_guessOf_1 (by decide) rfl rfl ?_
  refine V_iconst (n := 0) (v := (nI 0)) G eX12_guessOf_2 rfl ?_
  refine V_istoreA (i := 4) (L' := [some (.ref (wad w 12 0)), some (.int a1), some (.int a2), some (.int (nI 0)), some (.int (nI 0)), none, none]) G eX12_guessOf_3 (by decide) rfl rfl ?_
  refine V_iconst (n := 0) (v := (nI 0)) G eX12_guessOf_5 rfl ?_
  refine V_istoreA (i := 5) (L' := [some (.ref (wad w 12 0)), some (.int a1), some (.int a2), some (.int (nI 0)), some (.int (nI 0)), some (.int (nI 0)), none]) G eX12_guessOf_6 (by decide) rfl rfl ?_
  obtain ⟨⟨x1, x2⟩, h1, h⟩ := bdS h
  refine M_guessOf_l1_ok G h1 ?_
  refine V_iload G eX12_guessOf_111 rfl ?_
  refine V_if_ne G eX12_guessOf_113 h (fun h => ?_) (fun h => ?_)
  · refine V_iload_n (i := 3) G eX12_guessOf_120 rfl rfl ?_
    refine V_iload G eX12_guessOf_121 rfl ?_
    refine V_idiv G eX12_guessOf_123 h (fun x3 h => ?_)
    exact V_ri G hr eX12_guessOf_124 h
  · refine V_iconst (n := -1) (v := (-1)) G eX12_guessOf_116 rfl ?_
    refine V_goto G eX12_guessOf_117 ?_
    exact V_ri G hr eX12_guessOf_124 h
theorem M_guessOf_ok {l : Launch} {w : Wld} {a1 : Int32} {a2 : Int32} {μ : Mem} {r : Int32} (h : M_guessOf a1 a2 μ = some r) : CtI l w yX12_guessOf cX12_guessOf 7 .int 2 [.ref (wad w 12 0), .int a1, .int a2] μ r μ :=
  Ct_of (own := "PotBookModel") [some (.ref (wad w 12 0)), some (.int a1), some (.int a2), none, none, none, none] (by decide +kernel) rfl rfl (Nat.le_of_ble_eq_true rfl) fun p e s m args below meth c G hr => M_guessOf_run G hr h
set_option maxRecDepth 100000 in
set_option maxHeartbeats 4000000 in
theorem M_guess_run {p : Program} {l : Launch} {e : Env} {R : Room} {s : State} {m : MethodId} {args : Array Value} {below : List Frame} {meth : Method} {c : Code} {w : Wld} (G : Cxt p R s m args meth c w cX12_guess 3 "PotBookModel" 3 0 0) (hr : meth.sig.returnType = some .int) {a1 : Int32} {a2 : Int32} {μ : Mem} {r : Int32} (h : M_guess a1 a2 μ = some r) : Vj p l e R s m args below meth c w 3 0 0 (MQ below (QI w r μ) args s 0 0 w.2.2.2) 0 [some (.ref (wad w 12 0)), some (.int a1), some (.int a2)] [] μ := by
  unfold M_guess at h
  refine V_aload_n (i := 0) G eX12_guess_0 rfl rfl ?_
  refine V_iload_n (i := 1) G eX12_guess_1 rfl rfl ?_
  obtain ⟨x1, h1, h⟩ := bdS h
  refine V_callI (As := [.int a1]) (st := []) G lkX12_332 (M_isPage_ok h1) (by decide) rfl rfl (Nat.le_of_ble_eq_true rfl) eX12_guess_2 ?_
  refine V_if_eq G eX12_guess_5 h (fun h => ?_) (fun h => ?_)
  · refine V_iconst (n := -1) (v := (-1)) G eX12_guess_37 rfl ?_
    exact V_ri G hr eX12_guess_38 h
  · refine V_aload_n (i := 0) G eX12_guess_8 rfl rfl ?_
    refine V_iload_n (i := 2) G eX12_guess_9 rfl rfl ?_
    obtain ⟨x2, h1, h⟩ := bdS h
    refine V_callI (As := [.int a2]) (st := []) G lkX12_202 (M_isThing_ok h1) (by decide) rfl rfl (Nat.le_of_ble_eq_true rfl) eX12_guess_10 ?_
    refine V_if_eq G eX12_guess_13 h (fun h => ?_) (fun h => ?_)
    · refine V_iconst (n := -1) (v := (-1)) G eX12_guess_37 rfl ?_
      exact V_ri G hr eX12_guess_38 h
    · refine V_aload_n (i := 0) G eX12_guess_16 rfl rfl ?_
      refine V_iload_n (i := 1) G eX12_guess_17 rfl rfl ?_
      obtain ⟨x3, h1, h⟩ := bdS h
      refine V_callI (As := [.int a1]) (st := []) G lkX12_338 (M_leftOut_ok h1) (by decide) rfl rfl (Nat.le_of_ble_eq_true rfl) eX12_guess_18 ?_
      refine V_iload_n (i := 2) G eX12_guess_21 rfl rfl ?_
      obtain ⟨x4, h1, h⟩ := bdS h
      refine V_callIS (As := [.int x3, .int a2]) (st := []) G lkX12_422 (M_has_ok (μ := μ) h1) (by decide) rfl rfl (Nat.le_of_ble_eq_true rfl) eX12_guess_22 ?_
      refine V_if_eq G eX12_guess_25 h (fun h => ?_) (fun h => ?_)
      · refine V_iconst (n := -1) (v := (-1)) G eX12_guess_37 rfl ?_
        exact V_ri G hr eX12_guess_38 h
      · refine V_aload_n (i := 0) G eX12_guess_28 rfl rfl ?_
        refine V_iload_n (i := 1) G eX12_guess_29 rfl rfl ?_
        refine V_iload_n (i := 2) G eX12_guess_30 rfl rfl ?_
        obtain ⟨x5, h1, h⟩ := bdS h
        refine V_callI (As := [.int a1, .int a2]) (st := []) G lkX12_504 (M_guessOf_ok h1) (by decide) rfl rfl (Nat.le_of_ble_eq_true rfl) eX12_guess_31 ?_
        refine V_goto G eX12_guess_34 ?_
        exact V_ri G hr eX12_guess_38 h
theorem M_guess_ok {l : Launch} {w : Wld} {a1 : Int32} {a2 : Int32} {μ : Mem} {r : Int32} (h : M_guess a1 a2 μ = some r) : CtI l w yX12_guess cX12_guess 3 .int 3 [.ref (wad w 12 0), .int a1, .int a2] μ r μ :=
  Ct_of (own := "PotBookModel") [some (.ref (wad w 12 0)), some (.int a1), some (.int a2)] (by decide +kernel) rfl rfl (Nat.le_of_ble_eq_true rfl) fun p e s m args below meth c G hr => M_guess_run G hr h
set_option maxRecDepth 100000 in
set_option maxHeartbeats 4000000 in
theorem M_nearest_l1_ok {p : Program} {l : Launch} {e : Env} {R : Room} {s : State} {m : MethodId} {args : Array Value} {below : List Frame} {meth : Method} {c : Code} {w : Wld} {Q : State → Prop} (G : Cxt p R s m args meth c w cX12_nearest 8 "PotBookModel" 9 0 0) {v1 : Int32} {o1 : Int32} {μo : Mem} : ∀ {n : Nat} {v2 : Int32} {v3 : Int32} {μ : Mem}, M_nearest_l1 v1 n v2 v3 μ = some (o1, μo) → Vj p l e R s m args below meth c w 8 0 0 Q 90 [some (.ref (wad w 12 0)), some (.int v1), some (.int o1), none, none, none, none, none] [] μo → Vj p l e R s m args below meth c w 8 0 0 Q 14 [some (.ref (wad w 12 0)), some (.int v1), some (.int v2), some (.int v3), none, none, none, none] [] μ := by
  intro n
  induction n with
  | zero => intro v2 v3 μ h K; exact noS h
  | succ n ih =>
    intro v2 v3 μ h K
    replace h : M_nearest_l1b v1 (M_nearest_l1 v1 n) v2 v3 μ = some (o1, μo) := h
    unfold M_nearest_l1b at h
    refine V_iload_n (i := 3) G eX12_nearest_14 rfl rfl ?_
    refine V_aload_n (i := 0) G eX12_nearest_15 rfl rfl ?_
    refine V_get (v := .ref (wad w 1315 0)) G fgX12_38 rfl eX12_nearest_16 ?_
    refine V_iload_n (i := 1) G eX12_nearest_19 rfl rfl ?_
    refine V_iald G al_1315 (by decide) eX12_nearest_20 h (fun x1 h => ?_)
    refine V_icmp_ge G eX12_nearest_21 h (fun h => ?_) (fun h => ?_)
    · cases h; exact V_sub (lS_s (lS_s (lS_s (lS_n (lS_n (lS_n (lS_n (lS_n lS_0)))))))) K
    · refine V_aload_n (i := 0) G eX12_nearest_24 rfl rfl ?_
      refine V_get (v := .ref (wad w 1379 0)) G fgX12_166 rfl eX12_nearest_25 ?_
      refine V_iload_n (i := 3) G eX12_nearest_28 rfl rfl ?_
      refine V_aload_n (i := 0) G eX12_nearest_29 rfl rfl ?_
      refine V_get (v := .ref (wad w 1317 0)) G fgX12_44 rfl eX12_nearest_30 ?_
      refine V_bipush (n := 8) (v := (nI 8)) G eX12_nearest_33 rfl ?_
      refine V_iload_n (i := 1) G eX12_nearest_35 rfl rfl ?_
      refine V_imul G eX12_nearest_36 ?_
      refine V_iload_n (i := 3) G eX12_nearest_37 rfl rfl ?_
      refine V_iadd G eX12_nearest_38 ?_
      refine V_iald G al_1317 (by decide) eX12_nearest_39 h (fun x2 h => ?_)
      obtain ⟨x5, hj, h⟩ := bdS h
      have J : Vj p l e R s m args below meth c w 8 0 0 Q 63 [some (.ref (wad w 12 0)), some (.int v1), some (.int v2), some (.int v3), none, none, none, none] [.int x5, .int v3, .ref (wad w 1379 0)] μ := by
        clear hj
        refine V_iast G al_1379 (by decide) eX12_nearest_63 h (fun μ6 h => ?_)
        refine V_iload_n (i := 2) G eX12_nearest_64 rfl rfl ?_
        obtain ⟨x8, hj, h⟩ := bdS h
        have J : Vj p l e R s m args below meth c w 8 0 0 Q 83 [some (.ref (wad w 12 0)), some (.int v1), none, some (.int v3), none, none, none, none] [.int x8] μ6 := by
          clear hj
          refine V_istoreA_n (i := 2) (L' := [some (.ref (wad w 12 0)), some (.int v1), some (.int x8), some (.int v3), none, none, none, none]) G rfl eX12_nearest_83 (by decide) rfl rfl ?_
          refine V_iinc (z := (nI 1)) (L' := (fun x9 => [some (.ref (wad w 12 0)), some (.int v1), some (.int x8), some (.int x9), none, none, none, none])) G eX12_nearest_84 rfl rfl (by decide) rfl (fun _ => rfl) h (fun x9 h => ?_)
          refine V_goto G eX12_nearest_87 ?_
          exact (ih h K)
        replace h := hj
        clear hj
        refine V_if_ne G eX12_nearest_65 h (fun h => ?_) (fun h => ?_)
        · refine V_iconst (n := 1) (v := (nI 1)) G eX12_nearest_78 rfl ?_
          refine V_goto G eX12_nearest_79 ?_
          cases h; exact V_sub (lS_s (lS_s (lS_n (lS_s (lS_n (lS_n (lS_n (lS_n lS_0)))))))) J
        · refine V_aload_n (i := 0) G eX12_nearest_68 rfl rfl ?_
          refine V_get (v := .ref (wad w 1379 0)) G fgX12_166 rfl eX12_nearest_69 ?_
          refine V_iload_n (i := 3) G eX12_nearest_72 rfl rfl ?_
          refine V_iald G al_1379 (by decide) eX12_nearest_73 h (fun x7 h => ?_)
          refine V_iconst (n := -1) (v := (-1)) G eX12_nearest_74 rfl ?_
          refine V_icmp_eq G eX12_nearest_75 h (fun h => ?_) (fun h => ?_)
          · refine V_iconst (n := 0) (v := (nI 0)) G eX12_nearest_82 rfl ?_
            cases h; exact V_sub (lS_s (lS_s (lS_n (lS_s (lS_n (lS_n (lS_n (lS_n lS_0)))))))) J
          · refine V_iconst (n := 1) (v := (nI 1)) G eX12_nearest_78 rfl ?_
            refine V_goto G eX12_nearest_79 ?_
            cases h; exact V_sub (lS_s (lS_s (lS_n (lS_s (lS_n (lS_n (lS_n (lS_n lS_0)))))))) J
      replace h := hj
      clear hj
      refine V_if_ne G eX12_nearest_40 h (fun h => ?_) (fun h => ?_)
      · refine V_iconst (n := -1) (v := (-1)) G eX12_nearest_62 rfl ?_
        cases h; exact J
      · refine V_aload_n (i := 0) G eX12_nearest_43 rfl rfl ?_
        refine V_iload_n (i := 1) G eX12_nearest_44 rfl rfl ?_
        refine V_aload_n (i := 0) G eX12_nearest_45 rfl rfl ?_
        refine V_get (v := .ref (wad w 1316 0)) G fgX12_41 rfl eX12_nearest_46 ?_
        refine V_bipush (n := 8) (v := (nI 8)) G eX12_nearest_49 rfl ?_
        refine V_iload_n (i := 1) G eX12_nearest_51 rfl rfl ?_
        refine V_imul G eX12_nearest_52 ?_
        refine V_iload_n (i := 3) G eX12_nearest_53 rfl rfl ?_
        refine V_iadd G eX12_nearest_54 ?_
        refine V_iald G al_1316 (by decide) eX12_nearest_55 h (fun x3 h => ?_)
        obtain ⟨x4, h1, h⟩ := bdS h
        refine V_callI (As := [.int v1, .int x3]) (st := [.int v3, .ref (wad w 1379 0)]) G lkX12_504 (M_guessOf_ok h1) (by decide) rfl rfl (Nat.le_of_ble_eq_true rfl) eX12_nearest_56 ?_
        refine V_goto G eX12_nearest_59 ?_
        cases h; exact J
set_option maxRecDepth 100000 in
set_option maxHeartbeats 4000000 in
theorem M_nearest_l3_ok {p : Program} {l : Launch} {e : Env} {R : Room} {s : State} {m : MethodId} {args : Array Value} {below : List Frame} {meth : Method} {c : Code} {w : Wld} {Q : State → Prop} (G : Cxt p R s m args meth c w cX12_nearest 8 "PotBookModel" 9 0 0) {v1 : Int32} {v2 : Int32} {v3 : Int32} {v4 : Int32} {v5 : Int32} {μ : Mem} {o1 : Int32} : ∀ {n : Nat} {v6 : Int32} {v7 : Int32}, M_nearest_l3 v1 v2 v3 v4 v5 μ n v6 v7 = some o1 → Vj p l e R s m args below meth c w 8 0 0 Q 184 [some (.ref (wad w 12 0)), some (.int v1), some (.int v2), some (.int v3), some (.int v4), some (.int v5), some (.int o1), none] [] μ → Vj p l e R s m args below meth c w 8 0 0 Q 129 [some (.ref (wad w 12 0)), some (.int v1), some (.int v2), some (.int v3), some (.int v4), some (.int v5), some (.int v6), some (.int v7)] [] μ := by
  intro n
  induction n with
  | zero => intro v6 v7 h K; exact noS h
  | succ n ih =>
    intro v6 v7 h K
    replace h : M_nearest_l3b v1 v2 v3 v4 v5 μ (M_nearest_l3 v1 v2 v3 v4 v5 μ n) v6 v7 = some o1 := h
    unfold M_nearest_l3b at h
    refine V_iload G eX12_nearest_129 rfl ?_
    refine V_aload_n (i := 0) G eX12_nearest_131 rfl rfl ?_
    refine V_get (v := .ref (wad w 1315 0)) G fgX12_38 rfl eX12_nearest_132 ?_
    refine V_iload_n (i := 1) G eX12_nearest_135 rfl rfl ?_
    refine V_iald G al_1315 (by decide) eX12_nearest_136 h (fun x1 h => ?_)
    refine V_icmp_ge G eX12_nearest_137 h (fun h => ?_) (fun h => ?_)
    · cases h; exact V_sub (lS_s (lS_s (lS_s (lS_s (lS_s (lS_s (lS_s (lS_n lS_0)))))))) K
    · refine V_iload G eX12_nearest_140 rfl ?_
      refine V_aload_n (i := 0) G eX12_nearest_142 rfl rfl ?_
      refine V_get (v := .ref (wad w 1379 0)) G fgX12_166 rfl eX12_nearest_143 ?_
      refine V_iload G eX12_nearest_146 rfl ?_
      refine V_iald G al_1379 (by decide) eX12_nearest_148 h (fun x2 h => ?_)
      refine V_iconst (n := -1) (v := (-1)) G eX12_nearest_149 rfl ?_
      obtain ⟨x5, hj, h⟩ := bdS h
      have J : Vj p l e R s m args below meth c w 8 0 0 Q 175 [some (.ref (wad w 12 0)), some (.int v1), some (.int v2), some (.int v3), some (.int v4), some (.int v5), none, some (.int v7)] [.int x5, .int v6] μ := by
        clear hj
        refine V_iadd G eX12_nearest_175 ?_
        refine V_istore (i := 6) (L' := (fun x6 => [some (.ref (wad w 12 0)), some (.int v1), some (.int v2), some (.int v3), some (.int v4), some (.int v5), some (.int x6), some (.int v7)])) G eX12_nearest_176 (by decide) rfl (fun _ => rfl) h (fun x6 h => ?_)
        refine V_iinc (z := (nI 1)) (L' := (fun x7 => [some (.ref (wad w 12 0)), some (.int v1), some (.int v2), some (.int v3), some (.int v4), some (.int v5), some (.int x6), some (.int x7)])) G eX12_nearest_178 rfl rfl (by decide) rfl (fun _ => rfl) h (fun x7 h => ?_)
        refine V_goto G eX12_nearest_181 ?_
        exact (ih h K)
      replace h := hj
      clear hj
      refine V_icmp_ne G eX12_nearest_150 h (fun h => ?_) (fun h => ?_)
      · refine V_aload_n (i := 0) G eX12_nearest_157 rfl rfl ?_
        refine V_get (v := .ref (wad w 1340 0)) G fgX12_102 rfl eX12_nearest_158 ?_
        refine V_iload G eX12_nearest_161 rfl ?_
        refine V_iald G al_1340 (by decide) eX12_nearest_163 h (fun x3 h => ?_)
        refine V_aload_n (i := 0) G eX12_nearest_164 rfl rfl ?_
        refine V_get (v := .ref (wad w 1379 0)) G fgX12_166 rfl eX12_nearest_165 ?_
        refine V_iload G eX12_nearest_168 rfl ?_
        refine V_iald G al_1379 (by decide) eX12_nearest_170 h (fun x4 h => ?_)
        refine V_isub G eX12_nearest_171 ?_
        refine V_jAbs G mkX12_507 (by decide) (Nat.le_of_ble_eq_true rfl) eX12_nearest_172 ?_
        cases h; exact V_sub (lS_s (lS_s (lS_s (lS_s (lS_s (lS_s (lS_n (lS_s lS_0)))))))) J
      · refine V_iconst (n := 0) (v := (nI 0)) G eX12_nearest_153 rfl ?_
        refine V_goto G eX12_nearest_154 ?_
        cases h; exact V_sub (lS_s (lS_s (lS_s (lS_s (lS_s (lS_s (lS_n (lS_s lS_0)))))))) J
set_option maxRecDepth 100000 in
set_option maxHeartbeats 4000000 in
theorem M_nearest_l2_ok {p : Program} {l : Launch} {e : Env} {R : Room} {s : State} {m : MethodId} {args : Array Value} {below : List Frame} {meth : Method} {c : Code} {w : Wld} {Q : State → Prop} (G : Cxt p R s m args meth c w cX12_nearest 8 "PotBookModel" 9 0 0) {v1 : Int32} {v2 : Int32} {o1 : Int32} {μo : Mem} : ∀ {n : Nat} {v3 : Int32} {v4 : Int32} {v5 : Int32} {μ : Mem}, M_nearest_l2 v1 v2 n v3 v4 v5 μ = some (o1, μo) → Vj p l e R s m args below meth c w 8 0 0 Q 209 [none, none, none, some (.int o1), none, none, none, none] [] μo → Vj p l e R s m args below meth c w 8 0 0 Q 98 [some (.ref (wad w 12 0)), some (.int v1), some (.int v2), some (.int v3), some (.int v4), some (.int v5), none, none] [] μ := by
  intro n
  induction n with
  | zero => intro v3 v4 v5 μ h K; exact noS h
  | succ n ih =>
    intro v3 v4 v5 μ h K
    replace h : M_nearest_l2b v1 v2 (M_nearest_l2 v1 v2 n) v3 v4 v5 μ = some (o1, μo) := h
    unfold M_nearest_l2b at h
    refine V_iload G eX12_nearest_98 rfl ?_
    refine V_aload_n (i := 0) G eX12_nearest_100 rfl rfl ?_
    refine V_get (v := .int (mI μ 1342 0 0)) G fgX12_361 rfl eX12_nearest_101 ?_
    refine V_icmp_ge G eX12_nearest_104 h (fun h => ?_) (fun h => ?_)
    · cases h; exact V_sub (lS_n (lS_n (lS_n (lS_s (lS_n (lS_n (lS_n (lS_n lS_0)))))))) K
    · refine V_iload_n (i := 2) G eX12_nearest_107 rfl rfl ?_
      refine V_if_eq G eX12_nearest_108 h (fun h => ?_) (fun h => ?_)
      · cases h; exact V_sub (lS_n (lS_n (lS_n (lS_s (lS_n (lS_n (lS_n (lS_n lS_0)))))))) K
      · refine V_aload_n (i := 0) G eX12_nearest_111 rfl rfl ?_
        refine V_iload_n (i := 1) G eX12_nearest_112 rfl rfl ?_
        refine V_aload_n (i := 0) G eX12_nearest_113 rfl rfl ?_
        refine V_get (v := .ref (wad w 1341 0)) G fgX12_105 rfl eX12_nearest_114 ?_
        refine V_iload G eX12_nearest_117 rfl ?_
        refine V_iald G al_1341 (by decide) eX12_nearest_119 h (fun x1 h => ?_)
        obtain ⟨μ2, h1, h⟩ := bdS h
        refine V_callV (As := [.int v1, .int x1]) (st := []) G lkX12_364 (M_lay_ok h1) (by decide) rfl rfl (Nat.le_of_ble_eq_true rfl) eX12_nearest_120 ?_
        refine V_iconst (n := 0) (v := (nI 0)) G eX12_nearest_123 rfl ?_
        refine V_istoreA (i := 6) (L' := [some (.ref (wad w 12 0)), some (.int v1), some (.int v2), some (.int v3), some (.int v4), some (.int v5), some (.int (nI 0)), none]) G eX12_nearest_124 (by decide) rfl rfl ?_
        refine V_iconst (n := 0) (v := (nI 0)) G eX12_nearest_126 rfl ?_
        refine V_istoreA (i := 7) (L' := [some (.ref (wad w 12 0)), some (.int v1), some (.int v2), some (.int v3), some (.int v4), some (.int v5), some (.int (nI 0)), some (.int (nI 0))]) G eX12_nearest_127 (by decide) rfl rfl ?_
        obtain ⟨x3, h1, h⟩ := bdS h
        refine M_nearest_l3_ok G h1 ?_
        refine V_iload_n (i := 3) G eX12_nearest_184 rfl rfl ?_
        refine V_iconst (n := -1) (v := (-1)) G eX12_nearest_185 rfl ?_
        obtain ⟨⟨x4, x5⟩, hj, h⟩ := bdS h
        have J : Vj p l e R s m args below meth c w 8 0 0 Q 203 [some (.ref (wad w 12 0)), some (.int v1), some (.int v2), some (.int x4), some (.int x5), some (.int v5), none, none] [] μ2 := by
          clear hj
          refine V_iinc (z := (nI 1)) (L' := (fun x6 => [some (.ref (wad w 12 0)), some (.int v1), some (.int v2), some (.int x4), some (.int x5), some (.int x6), none, none])) G eX12_nearest_203 rfl rfl (by decide) rfl (fun _ => rfl) h (fun x6 h => ?_)
          refine V_goto G eX12_nearest_206 ?_
          exact (ih h K)
        replace h := hj
        clear hj
        refine V_icmp_eq G eX12_nearest_186 h (fun h => ?_) (fun h => ?_)
        · refine V_iload G eX12_nearest_196 rfl ?_
          refine V_istoreA_n (i := 3) (L' := [some (.ref (wad w 12 0)), some (.int v1), some (.int v2), some (.int v5), some (.int v4), some (.int v5), some (.int x3), none]) G rfl eX12_nearest_198 (by decide) rfl rfl ?_
          refine V_iload G eX12_nearest_199 rfl ?_
          refine V_istoreA (i := 4) (L' := [some (.ref (wad w 12 0)), some (.int v1), some (.int v2), some (.int v5), some (.int x3), some (.int v5), some (.int x3), none]) G eX12_nearest_201 (by decide) rfl rfl ?_
          cases h; exact V_sub (lS_s (lS_s (lS_s (lS_s (lS_s (lS_s (lS_n (lS_n lS_0)))))))) J
        · refine V_iload G eX12_nearest_189 rfl ?_
          refine V_iload G eX12_nearest_191 rfl ?_
          refine V_icmp_ge G eX12_nearest_193 h (fun h => ?_) (fun h => ?_)
          · cases h; exact V_sub (lS_s (lS_s (lS_s (lS_s (lS_s (lS_s (lS_n (lS_n lS_0)))))))) J
          · refine V_iload G eX12_nearest_196 rfl ?_
            refine V_istoreA_n (i := 3) (L' := [some (.ref (wad w 12 0)), some (.int v1), some (.int v2), some (.int v5), some (.int v4), some (.int v5), some (.int x3), none]) G rfl eX12_nearest_198 (by decide) rfl rfl ?_
            refine V_iload G eX12_nearest_199 rfl ?_
            refine V_istoreA (i := 4) (L' := [some (.ref (wad w 12 0)), some (.int v1), some (.int v2), some (.int v5), some (.int x3), some (.int v5), some (.int x3), none]) G eX12_nearest_201 (by decide) rfl rfl ?_
            cases h; exact V_sub (lS_s (lS_s (lS_s (lS_s (lS_s (lS_s (lS_n (lS_n lS_0)))))))) J
set_option maxRecDepth 100000 in
set_option maxHeartbeats 4000000 in
theorem M_nearest_run {p : Program} {l : Launch} {e : Env} {R : Room} {s : State} {m : MethodId} {args : Array Value} {below : List Frame} {meth : Method} {c : Code} {w : Wld} (G : Cxt p R s m args meth c w cX12_nearest 8 "PotBookModel" 9 0 0) (hr : meth.sig.returnType = some .int) {a1 : Int32} {μ : Mem} {r : Int32} {μ' : Mem} (h : M_nearest a1 μ = some (r, μ')) : Vj p l e R s m args below meth c w 8 0 0 (MQ below (QI w r μ') args s 0 0 w.2.2.2) 0 [some (.ref (wad w 12 0)), some (.int a1), none, none, none, none, none, none] [] μ := by
  unfold M_nearest at h
  refine V_aload_n (i := 0) G eX12_nearest_0 rfl rfl ?_
  refine V_iload_n (i := 1) G eX12_nearest_1 rfl rfl ?_
  obtain ⟨⟨x1, μ2⟩, h1, h⟩ := bdS h
  refine V_callI (As := [.int a1]) (st := []) G lkX12_376 (M_isTold_ok h1) (by decide) rfl rfl (Nat.le_of_ble_eq_true rfl) eX12_nearest_2 ?_
  refine V_if_ne G eX12_nearest_5 h (fun h => ?_) (fun h => ?_)
  · refine V_iconst (n := 0) (v := (nI 0)) G eX12_nearest_10 rfl ?_
    refine V_istoreA_n (i := 2) (L' := [some (.ref (wad w 12 0)), some (.int a1), some (.int (nI 0)), none, none, none, none, none]) G rfl eX12_nearest_11 (by decide) rfl rfl ?_
    refine V_iconst (n := 0) (v := (nI 0)) G eX12_nearest_12 rfl ?_
    refine V_istoreA_n (i := 3) (L' := [some (.ref (wad w 12 0)), some (.int a1), some (.int (nI 0)), some (.int (nI 0)), none, none, none, none]) G rfl eX12_nearest_13 (by decide) rfl rfl ?_
    obtain ⟨⟨x3, μ4⟩, h1, h⟩ := bdS h
    refine M_nearest_l1_ok G h1 ?_
    refine V_iconst (n := -1) (v := (-1)) G eX12_nearest_90 rfl ?_
    refine V_istoreA_n (i := 3) (L' := [some (.ref (wad w 12 0)), some (.int a1), some (.int x3), some (.int (-1)), none, none, none, none]) G rfl eX12_nearest_91 (by decide) rfl rfl ?_
    refine V_iconst (n := 0) (v := (nI 0)) G eX12_nearest_92 rfl ?_
    refine V_istoreA (i := 4) (L' := [some (.ref (wad w 12 0)), some (.int a1), some (.int x3), some (.int (-1)), some (.int (nI 0)), none, none, none]) G eX12_nearest_93 (by decide) rfl rfl ?_
    refine V_iconst (n := 0) (v := (nI 0)) G eX12_nearest_95 rfl ?_
    refine V_istoreA (i := 5) (L' := [some (.ref (wad w 12 0)), some (.int a1), some (.int x3), some (.int (-1)), some (.int (nI 0)), some (.int (nI 0)), none, none]) G eX12_nearest_96 (by decide) rfl rfl ?_
    obtain ⟨⟨x5, μ6⟩, h1, h⟩ := bdS h
    refine M_nearest_l2_ok G h1 ?_
    refine V_iload_n (i := 3) G eX12_nearest_209 rfl rfl ?_
    exact V_riM G hr eX12_nearest_210 h
  · refine V_iconst (n := -1) (v := (-1)) G eX12_nearest_8 rfl ?_
    exact V_riM G hr eX12_nearest_9 h
theorem M_nearest_ok {l : Launch} {w : Wld} {a1 : Int32} {μ : Mem} {r : Int32} {μ' : Mem} (h : M_nearest a1 μ = some (r, μ')) : CtI l w yX12_nearest cX12_nearest 8 .int 9 [.ref (wad w 12 0), .int a1] μ r μ' :=
  Ct_of (own := "PotBookModel") [some (.ref (wad w 12 0)), some (.int a1), none, none, none, none, none, none] (by decide +kernel) rfl rfl (Nat.le_of_ble_eq_true rfl) fun p e s m args below meth c G hr => M_nearest_run G hr h
set_option maxRecDepth 100000 in
set_option maxHeartbeats 4000000 in
theorem M_lackingBy_l1_ok {p : Program} {l : Launch} {e : Env} {R : Room} {s : State} {m : MethodId} {args : Array Value} {below : List Frame} {meth : Method} {c : Code} {w : Wld} {Q : State → Prop} (G : Cxt p R s m args meth c w cX12_lackingBy 7 "PotBookModel" 1 0 0) {v1 : Int32} {v2 : Int32} {v3 : Int32} {μ : Mem} {o1 : Int32} : ∀ {n : Nat} {v4 : Int32} {v5 : Int32}, M_lackingBy_l1 v1 v2 v3 μ n v4 v5 = some o1 → Vj p l e R s m args below meth c w 7 0 0 Q 74 [none, none, none, none, some (.int o1), none, none] [] μ → Vj p l e R s m args below meth c w 7 0 0 Q 6 [some (.ref (wad w 12 0)), some (.int v1), some (.int v2), some (.int v3), some (.int v4), some (.int v5), none] [] μ := by
  intro n
  induction n with
  | zero => intro v4 v5 h K; exact noS h
  | succ n ih =>
    intro v4 v5 h K
    replace h : M_lackingBy_l1b v1 v2 v3 μ (M_lackingBy_l1 v1 v2 v3 μ n) v4 v5 = some o1 := h
    unfold M_lackingBy_l1b at h
    refine V_iload G eX12_lackingBy_6 rfl ?_
    refine V_aload_n (i := 0) G eX12_lackingBy_8 rfl rfl ?_
    refine V_get (v := .ref (wad w 1315 0)) G fgX12_38 rfl eX12_lackingBy_9 ?_
    refine V_iload_n (i := 2) G eX12_lackingBy_12 rfl rfl ?_
    refine V_iald G al_1315 (by decide) eX12_lackingBy_13 h (fun x1 h => ?_)
    refine V_icmp_ge G eX12_lackingBy_14 h (fun h => ?_) (fun h => ?_)
    · cases h; exact V_sub (lS_n (lS_n (lS_n (lS_n (lS_s (lS_n (lS_n lS_0))))))) K
    · refine V_aload_n (i := 0) G eX12_lackingBy_17 rfl rfl ?_
      refine V_get (v := .ref (wad w 1316 0)) G fgX12_41 rfl eX12_lackingBy_18 ?_
      refine V_bipush (n := 8) (v := (nI 8)) G eX12_lackingBy_21 rfl ?_
      refine V_iload_n (i := 2) G eX12_lackingBy_23 rfl rfl ?_
      refine V_imul G eX12_lackingBy_24 ?_
      refine V_iload G eX12_lackingBy_25 rfl ?_
      refine V_iadd G eX12_lackingBy_27 ?_
      refine V_iald G al_1316 (by decide) eX12_lackingBy_28 h (fun x2 h => ?_)
      refine V_istoreA (i := 6) (L' := [some (.ref (wad w 12 0)), some (.int v1), some (.int v2), some (.int v3), some (.int v4), some (.int v5), some (.int x2)]) G eX12_lackingBy_29 (by decide) rfl rfl ?_
      refine V_iload G eX12_lackingBy_31 rfl ?_
      refine V_aload_n (i := 0) G eX12_lackingBy_33 rfl rfl ?_
      refine V_get (v := .ref (wad w 1340 0)) G fgX12_102 rfl eX12_lackingBy_34 ?_
      refine V_iload G eX12_lackingBy_37 rfl ?_
      refine V_iald G al_1340 (by decide) eX12_lackingBy_39 h (fun x3 h => ?_)
      refine V_iload_n (i := 3) G eX12_lackingBy_40 rfl rfl ?_
      refine V_imul G eX12_lackingBy_41 ?_
      refine V_aload_n (i := 0) G eX12_lackingBy_42 rfl rfl ?_
      refine V_get (v := .ref (wad w 1357 0)) G fgX12_142 rfl eX12_lackingBy_43 ?_
      refine V_bipush (n := 12) (v := (nI 12)) G eX12_lackingBy_46 rfl ?_
      refine V_iload_n (i := 1) G eX12_lackingBy_48 rfl rfl ?_
      refine V_imul G eX12_lackingBy_49 ?_
      refine V_iload G eX12_lackingBy_50 rfl ?_
      refine V_iadd G eX12_lackingBy_52 ?_
      refine V_iald G al_1357 (by decide) eX12_lackingBy_53 h (fun x4 h => ?_)
      obtain ⟨x5, hj, h⟩ := bdS h
      have J : Vj p l e R s m args below meth c w 7 0 0 Q 65 [some (.ref (wad w 12 0)), some (.int v1), some (.int v2), some (.int v3), none, some (.int v5), none] [.int x5, .int v4] μ := by
        clear hj
        refine V_ior G eX12_lackingBy_65 ?_
        refine V_istore (i := 4) (L' := (fun x6 => [some (.ref (wad w 12 0)), some (.int v1), some (.int v2), some (.int v3), some (.int x6), some (.int v5), none])) G eX12_lackingBy_66 (by decide) rfl (fun _ => rfl) h (fun x6 h => ?_)
        refine V_iinc (z := (nI 1)) (L' := (fun x7 => [some (.ref (wad w 12 0)), some (.int v1), some (.int v2), some (.int v3), some (.int x6), some (.int x7), none])) G eX12_lackingBy_68 rfl rfl (by decide) rfl (fun _ => rfl) h (fun x7 h => ?_)
        refine V_goto G eX12_lackingBy_71 ?_
        exact (ih h K)
      replace h := hj
      clear hj
      refine V_icmp_le G eX12_lackingBy_54 h (fun h => ?_) (fun h => ?_)
      · refine V_iconst (n := 0) (v := (nI 0)) G eX12_lackingBy_64 rfl ?_
        cases h; exact V_sub (lS_s (lS_s (lS_s (lS_s (lS_n (lS_s (lS_n lS_0))))))) J
      · refine V_iconst (n := 1) (v := (nI 1)) G eX12_lackingBy_57 rfl ?_
        refine V_iload G eX12_lackingBy_58 rfl ?_
        refine V_ishl G eX12_lackingBy_60 ?_
        refine V_goto G eX12_lackingBy_61 ?_
        cases h; exact V_sub (lS_s (lS_s (lS_s (lS_s (lS_n (lS_s (lS_n lS_0))))))) J
set_option maxRecDepth 100000 in
set_option maxHeartbeats 4000000 in
theorem M_lackingBy_run {p : Program} {l : Launch} {e : Env} {R : Room} {s : State} {m : MethodId} {args : Array Value} {below : List Frame} {meth : Method} {c : Code} {w : Wld} (G : Cxt p R s m args meth c w cX12_lackingBy 7 "PotBookModel" 1 0 0) (hr : meth.sig.returnType = some .int) {a1 : Int32} {a2 : Int32} {a3 : Int32} {μ : Mem} {r : Int32} (h : M_lackingBy a1 a2 a3 μ = some r) : Vj p l e R s m args below meth c w 7 0 0 (MQ below (QI w r μ) args s 0 0 w.2.2.2) 0 [some (.ref (wad w 12 0)), some (.int a1), some (.int a2), some (.int a3), none, none, none] [] μ := by
  unfold M_lackingBy at h
  refine V_iconst (n := 0) (v := (nI 0)) G eX12_lackingBy_0 rfl ?_
  refine V_istoreA (i := 4) (L' := [some (.ref (wad w 12 0)), some (.int a1), some (.int a2), some (.int a3), some (.int (nI 0)), none, none]) G eX12_lackingBy_1 (by decide) rfl rfl ?_
  refine V_iconst (n := 0) (v := (nI 0)) G eX12_lackingBy_3 rfl ?_
  refine V_istoreA (i := 5) (L' := [some (.ref (wad w 12 0)), some (.int a1), some (.int a2), some (.int a3), some (.int (nI 0)), some (.int (nI 0)), none]) G eX12_lackingBy_4 (by decide) rfl rfl ?_
  obtain ⟨x1, h1, h⟩ := bdS h
  refine M_lackingBy_l1_ok G h1 ?_
  refine V_iload G eX12_lackingBy_74 rfl ?_
  exact V_ri G hr eX12_lackingBy_76 h
theorem M_lackingBy_ok {l : Launch} {w : Wld} {a1 : Int32} {a2 : Int32} {a3 : Int32} {μ : Mem} {r : Int32} (h : M_lackingBy a1 a2 a3 μ = some r) : CtI l w yX12_lackingBy cX12_lackingBy 7 .int 1 [.ref (wad w 12 0), .int a1, .int a2, .int a3] μ r μ :=
  Ct_of (own := "PotBookModel") [some (.ref (wad w 12 0)), some (.int a1), some (.int a2), some (.int a3), none, none, none] (by decide +kernel) rfl rfl (Nat.le_of_ble_eq_true rfl) fun p e s m args below meth c G hr => M_lackingBy_run G hr h
set_option maxRecDepth 100000 in
set_option maxHeartbeats 4000000 in
theorem M_lacking_run {p : Program} {l : Launch} {e : Env} {R : Room} {s : State} {m : MethodId} {args : Array Value} {below : List Frame} {meth : Method} {c : Code} {w : Wld} (G : Cxt p R s m args meth c w cX12_lacking 5 "PotBookModel" 9 0 0) (hr : meth.sig.returnType = some .int) {a1 : Int32} {a2 : Int32} {a3 : Int32} {a4 : Int32} {μ : Mem} {r : Int32} {μ' : Mem} (h : M_lacking a1 a2 a3 a4 μ = some (r, μ')) : Vj p l e R s m args below meth c w 5 0 0 (MQ below (QI w r μ') args s 0 0 w.2.2.2) 0 [some (.ref (wad w 12 0)), some (.int a1), some (.int a2), some (.int a3), some (.int a4)] [] μ := by
  unfold M_lacking at h
  refine V_aload_n (i := 0) G eX12_lacking_0 rfl rfl ?_
  refine V_iload_n (i := 1) G eX12_lacking_1 rfl rfl ?_
  obtain ⟨x1, h1, h⟩ := bdS h
  refine V_callI (As := [.int a1]) (st := []) G lkX12_416 (M_isDay_ok h1) (by decide) rfl rfl (Nat.le_of_ble_eq_true rfl) eX12_lacking_2 ?_
  refine V_if_eq G eX12_lacking_5 h (fun h => ?_) (fun h => ?_)
  · refine V_iconst (n := -1) (v := (-1)) G eX12_lacking_41 rfl ?_
    exact V_riM G hr eX12_lacking_42 h
  · refine V_iload G eX12_lacking_8 rfl ?_
    refine V_iconst (n := 1) (v := (nI 1)) G eX12_lacking_10 rfl ?_
    refine V_bipush (n := 99) (v := (nI 99)) G eX12_lacking_11 rfl ?_
    obtain ⟨x2, h1, h⟩ := bdS h
    refine V_callIS (As := [.int a4, .int (nI 1), .int (nI 99)]) (st := []) G lkX12_198 (M_in_ok (μ := μ) h1) (by decide) rfl rfl (Nat.le_of_ble_eq_true rfl) eX12_lacking_13 ?_
    refine V_if_eq G eX12_lacking_16 h (fun h => ?_) (fun h => ?_)
    · refine V_iconst (n := -1) (v := (-1)) G eX12_lacking_41 rfl ?_
      exact V_riM G hr eX12_lacking_42 h
    · refine V_aload_n (i := 0) G eX12_lacking_19 rfl rfl ?_
      refine V_iload_n (i := 2) G eX12_lacking_20 rfl rfl ?_
      obtain ⟨⟨x3, μ4⟩, h1, h⟩ := bdS h
      refine V_callI (As := [.int a2]) (st := []) G lkX12_376 (M_isTold_ok h1) (by decide) rfl rfl (Nat.le_of_ble_eq_true rfl) eX12_lacking_21 ?_
      refine V_if_eq G eX12_lacking_24 h (fun h => ?_) (fun h => ?_)
      · refine V_iconst (n := -1) (v := (-1)) G eX12_lacking_41 rfl ?_
        exact V_riM G hr eX12_lacking_42 h
      · refine V_iload_n (i := 3) G eX12_lacking_27 rfl rfl ?_
        refine V_iconst (n := 0) (v := (nI 0)) G eX12_lacking_28 rfl ?_
        refine V_aload_n (i := 0) G eX12_lacking_29 rfl rfl ?_
        refine V_get (v := .int (mI μ4 1342 0 0)) G fgX12_361 rfl eX12_lacking_30 ?_
        refine V_iconst (n := 1) (v := (nI 1)) G eX12_lacking_33 rfl ?_
        refine V_isub G eX12_lacking_34 ?_
        obtain ⟨x5, h1, h⟩ := bdS h
        refine V_callIS (As := [.int a3, .int (nI 0), .int ((mI μ4 1342 0 0) - (nI 1))]) (st := []) G lkX12_198 (M_in_ok (μ := μ4) h1) (by decide) rfl rfl (Nat.le_of_ble_eq_true rfl) eX12_lacking_35 ?_
        refine V_if_ne G eX12_lacking_38 h (fun h => ?_) (fun h => ?_)
        · refine V_aload_n (i := 0) G eX12_lacking_43 rfl rfl ?_
          refine V_iload_n (i := 2) G eX12_lacking_44 rfl rfl ?_
          refine V_aload_n (i := 0) G eX12_lacking_45 rfl rfl ?_
          refine V_get (v := .ref (wad w 1341 0)) G fgX12_105 rfl eX12_lacking_46 ?_
          refine V_iload_n (i := 3) G eX12_lacking_49 rfl rfl ?_
          refine V_iald G al_1341 (by decide) eX12_lacking_50 h (fun x6 h => ?_)
          obtain ⟨μ7, h1, h⟩ := bdS h
          refine V_callV (As := [.int a2, .int x6]) (st := []) G lkX12_364 (M_lay_ok h1) (by decide) rfl rfl (Nat.le_of_ble_eq_true rfl) eX12_lacking_51 ?_
          refine V_aload_n (i := 0) G eX12_lacking_54 rfl rfl ?_
          refine V_iload_n (i := 1) G eX12_lacking_55 rfl rfl ?_
          refine V_iload_n (i := 2) G eX12_lacking_56 rfl rfl ?_
          refine V_iload G eX12_lacking_57 rfl ?_
          obtain ⟨x8, h1, h⟩ := bdS h
          refine V_callI (As := [.int a1, .int a2, .int a4]) (st := []) G lkX12_510 (M_lackingBy_ok h1) (by decide) rfl rfl (Nat.le_of_ble_eq_true rfl) eX12_lacking_59 ?_
          exact V_riM G hr eX12_lacking_62 h
        · refine V_iconst (n := -1) (v := (-1)) G eX12_lacking_41 rfl ?_
          exact V_riM G hr eX12_lacking_42 h
theorem M_lacking_ok {l : Launch} {w : Wld} {a1 : Int32} {a2 : Int32} {a3 : Int32} {a4 : Int32} {μ : Mem} {r : Int32} {μ' : Mem} (h : M_lacking a1 a2 a3 a4 μ = some (r, μ')) : CtI l w yX12_lacking cX12_lacking 5 .int 9 [.ref (wad w 12 0), .int a1, .int a2, .int a3, .int a4] μ r μ' :=
  Ct_of (own := "PotBookModel") [some (.ref (wad w 12 0)), some (.int a1), some (.int a2), some (.int a3), some (.int a4)] (by decide +kernel) rfl rfl (Nat.le_of_ble_eq_true rfl) fun p e s m args below meth c G hr => M_lacking_run G hr h
set_option maxRecDepth 100000 in
set_option maxHeartbeats 4000000 in
theorem M_enough_l1_ok {p : Program} {l : Launch} {e : Env} {R : Room} {s : State} {m : MethodId} {args : Array Value} {below : List Frame} {meth : Method} {c : Code} {w : Wld} {Q : State → Prop} (G : Cxt p R s m args meth c w cX12_enough 5 "PotBookModel" 9 0 0) {v1 : Int32} {v2 : Int32} {μ : Mem} {o1 : Int32} : ∀ {n : Nat} {v4 : Int32}, M_enough_l1 v1 v2 μ n v4 = some o1 → Vj p l e R s m args below meth c w 5 0 0 Q 72 [none, none, none, none, some (.int o1)] [] μ → Vj p l e R s m args below meth c w 5 0 0 Q 46 [some (.ref (wad w 12 0)), some (.int v1), some (.int v2), none, some (.int v4)] [] μ := by
  intro n
  induction n with
  | zero => intro v4 h K; exact noS h
  | succ n ih =>
    intro v4 h K
    replace h : M_enough_l1b v1 v2 μ (M_enough_l1 v1 v2 μ n) v4 = some o1 := h
    unfold M_enough_l1b at h
    refine V_iload G eX12_enough_46 rfl ?_
    refine V_bipush (n := 99) (v := (nI 99)) G eX12_enough_48 rfl ?_
    refine V_icmp_ge G eX12_enough_50 h (fun h => ?_) (fun h => ?_)
    · cases h; exact V_sub (lS_n (lS_n (lS_n (lS_n (lS_s lS_0))))) K
    · refine V_aload_n (i := 0) G eX12_enough_53 rfl rfl ?_
      refine V_iload_n (i := 1) G eX12_enough_54 rfl rfl ?_
      refine V_iload_n (i := 2) G eX12_enough_55 rfl rfl ?_
      refine V_iload G eX12_enough_56 rfl ?_
      refine V_iconst (n := 1) (v := (nI 1)) G eX12_enough_58 rfl ?_
      refine V_iadd G eX12_enough_59 ?_
      obtain ⟨x1, h1, h⟩ := bdS h
      refine V_callI (As := [.int v1, .int v2, .int (v4 + (nI 1))]) (st := []) G lkX12_510 (M_lackingBy_ok h1) (by decide) rfl rfl (Nat.le_of_ble_eq_true rfl) eX12_enough_60 ?_
      refine V_if_ne G eX12_enough_63 h (fun h => ?_) (fun h => ?_)
      · cases h; exact V_sub (lS_n (lS_n (lS_n (lS_n (lS_s lS_0))))) K
      · refine V_iinc (z := (nI 1)) (L' := (fun x2 => [some (.ref (wad w 12 0)), some (.int v1), some (.int v2), none, some (.int x2)])) G eX12_enough_66 rfl rfl (by decide) rfl (fun _ => rfl) h (fun x2 h => ?_)
        refine V_goto G eX12_enough_69 ?_
        exact (ih h K)
set_option maxRecDepth 100000 in
set_option maxHeartbeats 4000000 in
theorem M_enough_run {p : Program} {l : Launch} {e : Env} {R : Room} {s : State} {m : MethodId} {args : Array Value} {below : List Frame} {meth : Method} {c : Code} {w : Wld} (G : Cxt p R s m args meth c w cX12_enough 5 "PotBookModel" 9 0 0) (hr : meth.sig.returnType = some .int) {a1 : Int32} {a2 : Int32} {a3 : Int32} {μ : Mem} {r : Int32} {μ' : Mem} (h : M_enough a1 a2 a3 μ = some (r, μ')) : Vj p l e R s m args below meth c w 5 0 0 (MQ below (QI w r μ') args s 0 0 w.2.2.2) 0 [some (.ref (wad w 12 0)), some (.int a1), some (.int a2), some (.int a3), none] [] μ := by
  unfold M_enough at h
  refine V_aload_n (i := 0) G eX12_enough_0 rfl rfl ?_
  refine V_iload_n (i := 1) G eX12_enough_1 rfl rfl ?_
  obtain ⟨x1, h1, h⟩ := bdS h
  refine V_callI (As := [.int a1]) (st := []) G lkX12_416 (M_isDay_ok h1) (by decide) rfl rfl (Nat.le_of_ble_eq_true rfl) eX12_enough_2 ?_
  refine V_if_eq G eX12_enough_5 h (fun h => ?_) (fun h => ?_)
  · refine V_iconst (n := -1) (v := (-1)) G eX12_enough_30 rfl ?_
    exact V_riM G hr eX12_enough_31 h
  · refine V_aload_n (i := 0) G eX12_enough_8 rfl rfl ?_
    refine V_iload_n (i := 2) G eX12_enough_9 rfl rfl ?_
    obtain ⟨⟨x2, μ3⟩, h1, h⟩ := bdS h
    refine V_callI (As := [.int a2]) (st := []) G lkX12_376 (M_isTold_ok h1) (by decide) rfl rfl (Nat.le_of_ble_eq_true rfl) eX12_enough_10 ?_
    refine V_if_eq G eX12_enough_13 h (fun h => ?_) (fun h => ?_)
    · refine V_iconst (n := -1) (v := (-1)) G eX12_enough_30 rfl ?_
      exact V_riM G hr eX12_enough_31 h
    · refine V_iload_n (i := 3) G eX12_enough_16 rfl rfl ?_
      refine V_iconst (n := 0) (v := (nI 0)) G eX12_enough_17 rfl ?_
      refine V_aload_n (i := 0) G eX12_enough_18 rfl rfl ?_
      refine V_get (v := .int (mI μ3 1342 0 0)) G fgX12_361 rfl eX12_enough_19 ?_
      refine V_iconst (n := 1) (v := (nI 1)) G eX12_enough_22 rfl ?_
      refine V_isub G eX12_enough_23 ?_
      obtain ⟨x4, h1, h⟩ := bdS h
      refine V_callIS (As := [.int a3, .int (nI 0), .int ((mI μ3 1342 0 0) - (nI 1))]) (st := []) G lkX12_198 (M_in_ok (μ := μ3) h1) (by decide) rfl rfl (Nat.le_of_ble_eq_true rfl) eX12_enough_24 ?_
      refine V_if_ne G eX12_enough_27 h (fun h => ?_) (fun h => ?_)
      · refine V_aload_n (i := 0) G eX12_enough_32 rfl rfl ?_
        refine V_iload_n (i := 2) G eX12_enough_33 rfl rfl ?_
        refine V_aload_n (i := 0) G eX12_enough_34 rfl rfl ?_
        refine V_get (v := .ref (wad w 1341 0)) G fgX12_105 rfl eX12_enough_35 ?_
        refine V_iload_n (i := 3) G eX12_enough_38 rfl rfl ?_
        refine V_iald G al_1341 (by decide) eX12_enough_39 h (fun x5 h => ?_)
        obtain ⟨μ6, h1, h⟩ := bdS h
        refine V_callV (As := [.int a2, .int x5]) (st := []) G lkX12_364 (M_lay_ok h1) (by decide) rfl rfl (Nat.le_of_ble_eq_true rfl) eX12_enough_40 ?_
        refine V_iconst (n := 0) (v := (nI 0)) G eX12_enough_43 rfl ?_
        refine V_istoreA (i := 4) (L' := [some (.ref (wad w 12 0)), some (.int a1), some (.int a2), some (.int a3), some (.int (nI 0))]) G eX12_enough_44 (by decide) rfl rfl ?_
        obtain ⟨x7, h1, h⟩ := bdS h
        refine V_sub (lS_s (lS_s (lS_s (lS_n (lS_s lS_0))))) ?_
        refine M_enough_l1_ok G h1 ?_
        refine V_iload G eX12_enough_72 rfl ?_
        exact V_riM G hr eX12_enough_74 h
      · refine V_iconst (n := -1) (v := (-1)) G eX12_enough_30 rfl ?_
        exact V_riM G hr eX12_enough_31 h
theorem M_enough_ok {l : Launch} {w : Wld} {a1 : Int32} {a2 : Int32} {a3 : Int32} {μ : Mem} {r : Int32} {μ' : Mem} (h : M_enough a1 a2 a3 μ = some (r, μ')) : CtI l w yX12_enough cX12_enough 5 .int 9 [.ref (wad w 12 0), .int a1, .int a2, .int a3] μ r μ' :=
  Ct_of (own := "PotBookModel") [some (.ref (wad w 12 0)), some (.int a1), some (.int a2), some (.int a3), none] (by decide +kernel) rfl rfl (Nat.le_of_ble_eq_true rfl) fun p e s m args below meth c G hr => M_enough_run G hr h
set_option maxRecDepth 100000 in
set_option maxHeartbeats 4000000 in
theorem M_wasted_run {p : Program} {l : Launch} {e : Env} {R : Room} {s : State} {m : MethodId} {args : Array Value} {below : List Frame} {meth : Method} {c : Code} {w : Wld} (G : Cxt p R s m args meth c w cX12_wasted 5 "PotBookModel" 66 0 0) (hr : meth.sig.returnType = some .int) {a1 : Int32} {a2 : Int32} {a3 : Int32} {a4 : Int32} {μ : Mem} {r : Int32} {μ' : Mem} (h : M_wasted a1 a2 a3 a4 μ = some (r, μ')) : Vj p l e R s m args below meth c w 5 0 0 (MQ below (QI w r μ') args s 0 0 w.2.2.2) 0 [some (.ref (wad w 12 0)), some (.int a1), some (.int a2), some (.int a3), some (.int a4)] [] μ := by
  unfold M_wasted at h
  refine V_iload_n (i := 3) G eX12_wasted_0 rfl rfl ?_
  refine V_iconst (n := 0) (v := (nI 0)) G eX12_wasted_1 rfl ?_
  refine V_bipush (n := 99) (v := (nI 99)) G eX12_wasted_2 rfl ?_
  obtain ⟨x1, h1, h⟩ := bdS h
  refine V_callIS (As := [.int a3, .int (nI 0), .int (nI 99)]) (st := []) G lkX12_198 (M_in_ok (μ := μ) h1) (by decide) rfl rfl (Nat.le_of_ble_eq_true rfl) eX12_wasted_4 ?_
  refine V_if_eq G eX12_wasted_7 h (fun h => ?_) (fun h => ?_)
  · refine V_iconst (n := -1) (v := (-1)) G eX12_wasted_24 rfl ?_
    exact V_riM G hr eX12_wasted_25 h
  · refine V_iload G eX12_wasted_10 rfl ?_
    refine V_if_lt G eX12_wasted_12 h (fun h => ?_) (fun h => ?_)
    · refine V_iconst (n := -1) (v := (-1)) G eX12_wasted_24 rfl ?_
      exact V_riM G hr eX12_wasted_25 h
    · refine V_aload_n (i := 0) G eX12_wasted_15 rfl rfl ?_
      refine V_iload_n (i := 1) G eX12_wasted_16 rfl rfl ?_
      refine V_iload_n (i := 2) G eX12_wasted_17 rfl rfl ?_
      obtain ⟨⟨x2, μ3⟩, h1, h⟩ := bdS h
      refine V_callI (As := [.int a1, .int a2]) (st := []) G lkX12_486 (M_layMenu_ok h1) (by decide) rfl rfl (Nat.le_of_ble_eq_true rfl) eX12_wasted_18 ?_
      refine V_if_ne G eX12_wasted_21 h (fun h => ?_) (fun h => ?_)
      · refine V_aload_n (i := 0) G eX12_wasted_26 rfl rfl ?_
        refine V_iload_n (i := 1) G eX12_wasted_27 rfl rfl ?_
        refine V_iload_n (i := 3) G eX12_wasted_28 rfl rfl ?_
        refine V_iload G eX12_wasted_29 rfl ?_
        obtain ⟨μ4, h1, h⟩ := bdS h
        refine V_callV (As := [.int a1, .int a3, .int a4]) (st := []) G lkX12_489 (M_findMenus_ok h1) (by decide) rfl rfl (Nat.le_of_ble_eq_true rfl) eX12_wasted_31 ?_
        refine V_iload G eX12_wasted_34 rfl ?_
        refine V_aload_n (i := 0) G eX12_wasted_36 rfl rfl ?_
        refine V_get (v := .int (mI μ4 1366 0 0)) G fgX12_450 rfl eX12_wasted_37 ?_
        refine V_icmp_ge G eX12_wasted_40 h (fun h => ?_) (fun h => ?_)
        · refine V_iconst (n := -1) (v := (-1)) G eX12_wasted_50 rfl ?_
          exact V_riM G hr eX12_wasted_51 h
        · refine V_aload_n (i := 0) G eX12_wasted_43 rfl rfl ?_
          refine V_get (v := .int (mI μ4 1373 0 0)) G fgX12_465 rfl eX12_wasted_44 ?_
          refine V_goto G eX12_wasted_47 ?_
          exact V_riM G hr eX12_wasted_51 h
      · refine V_iconst (n := -1) (v := (-1)) G eX12_wasted_24 rfl ?_
        exact V_riM G hr eX12_wasted_25 h
theorem M_wasted_ok {l : Launch} {w : Wld} {a1 : Int32} {a2 : Int32} {a3 : Int32} {a4 : Int32} {μ : Mem} {r : Int32} {μ' : Mem} (h : M_wasted a1 a2 a3 a4 μ = some (r, μ')) : CtI l w yX12_wasted cX12_wasted 5 .int 66 [.ref (wad w 12 0), .int a1, .int a2, .int a3, .int a4] μ r μ' :=
  Ct_of (own := "PotBookModel") [some (.ref (wad w 12 0)), some (.int a1), some (.int a2), some (.int a3), some (.int a4)] (by decide +kernel) rfl rfl (Nat.le_of_ble_eq_true rfl) fun p e s m args below meth c G hr => M_wasted_run G hr h
set_option maxRecDepth 100000 in
set_option maxHeartbeats 4000000 in
theorem M_lean_run {p : Program} {l : Launch} {e : Env} {R : Room} {s : State} {m : MethodId} {args : Array Value} {below : List Frame} {meth : Method} {c : Code} {w : Wld} (G : Cxt p R s m args meth c w cX12_lean 5 "PotBookModel" 66 0 0) (hr : meth.sig.returnType = some .int) {a1 : Int32} {a2 : Int32} {a3 : Int32} {a4 : Int32} {μ : Mem} {r : Int32} {μ' : Mem} (h : M_lean a1 a2 a3 a4 μ = some (r, μ')) : Vj p l e R s m args below meth c w 5 0 0 (MQ below (QI w r μ') args s 0 0 w.2.2.2) 0 [some (.ref (wad w 12 0)), some (.int a1), some (.int a2), some (.int a3), some (.int a4)] [] μ := by
  unfold M_lean at h
  refine V_iload_n (i := 3) G eX12_lean_0 rfl rfl ?_
  refine V_iconst (n := 0) (v := (nI 0)) G eX12_lean_1 rfl ?_
  refine V_bipush (n := 99) (v := (nI 99)) G eX12_lean_2 rfl ?_
  obtain ⟨x1, h1, h⟩ := bdS h
  refine V_callIS (As := [.int a3, .int (nI 0), .int (nI 99)]) (st := []) G lkX12_198 (M_in_ok (μ := μ) h1) (by decide) rfl rfl (Nat.le_of_ble_eq_true rfl) eX12_lean_4 ?_
  refine V_if_eq G eX12_lean_7 h (fun h => ?_) (fun h => ?_)
  · refine V_iconst (n := -1) (v := (-1)) G eX12_lean_29 rfl ?_
    exact V_riM G hr eX12_lean_30 h
  · refine V_iload G eX12_lean_10 rfl ?_
    refine V_iconst (n := 0) (v := (nI 0)) G eX12_lean_12 rfl ?_
    refine V_iconst (n := 2) (v := (nI 2)) G eX12_lean_13 rfl ?_
    obtain ⟨x2, h1, h⟩ := bdS h
    refine V_callIS (As := [.int a4, .int (nI 0), .int (nI 2)]) (st := []) G lkX12_198 (M_in_ok (μ := μ) h1) (by decide) rfl rfl (Nat.le_of_ble_eq_true rfl) eX12_lean_14 ?_
    refine V_if_eq G eX12_lean_17 h (fun h => ?_) (fun h => ?_)
    · refine V_iconst (n := -1) (v := (-1)) G eX12_lean_29 rfl ?_
      exact V_riM G hr eX12_lean_30 h
    · refine V_aload_n (i := 0) G eX12_lean_20 rfl rfl ?_
      refine V_iload_n (i := 1) G eX12_lean_21 rfl rfl ?_
      refine V_iload_n (i := 2) G eX12_lean_22 rfl rfl ?_
      obtain ⟨⟨x3, μ4⟩, h1, h⟩ := bdS h
      refine V_callI (As := [.int a1, .int a2]) (st := []) G lkX12_486 (M_layMenu_ok h1) (by decide) rfl rfl (Nat.le_of_ble_eq_true rfl) eX12_lean_23 ?_
      refine V_if_ne G eX12_lean_26 h (fun h => ?_) (fun h => ?_)
      · refine V_aload_n (i := 0) G eX12_lean_31 rfl rfl ?_
        refine V_iload_n (i := 1) G eX12_lean_32 rfl rfl ?_
        refine V_iload_n (i := 3) G eX12_lean_33 rfl rfl ?_
        refine V_iconst (n := -1) (v := (-1)) G eX12_lean_34 rfl ?_
        obtain ⟨μ5, h1, h⟩ := bdS h
        refine V_callV (As := [.int a1, .int a3, .int (-1)]) (st := []) G lkX12_489 (M_findMenus_ok h1) (by decide) rfl rfl (Nat.le_of_ble_eq_true rfl) eX12_lean_35 ?_
        refine V_aload_n (i := 0) G eX12_lean_38 rfl rfl ?_
        refine V_get (v := .int (mI μ5 1366 0 0)) G fgX12_450 rfl eX12_lean_39 ?_
        refine V_if_ne G eX12_lean_42 h (fun h => ?_) (fun h => ?_)
        · refine V_iload G eX12_lean_49 rfl ?_
          refine V_if_ne G eX12_lean_51 h (fun h => ?_) (fun h => ?_)
          · refine V_iload G eX12_lean_61 rfl ?_
            refine V_iconst (n := 1) (v := (nI 1)) G eX12_lean_63 rfl ?_
            refine V_icmp_ne G eX12_lean_64 h (fun h => ?_) (fun h => ?_)
            · refine V_aload_n (i := 0) G eX12_lean_74 rfl rfl ?_
              refine V_get (v := .int (mI μ5 1374 0 0)) G fgX12_468 rfl eX12_lean_75 ?_
              exact V_riM G hr eX12_lean_78 h
            · refine V_aload_n (i := 0) G eX12_lean_67 rfl rfl ?_
              refine V_get (v := .int (mI μ5 1375 0 0)) G fgX12_471 rfl eX12_lean_68 ?_
              refine V_goto G eX12_lean_71 ?_
              exact V_riM G hr eX12_lean_78 h
          · refine V_aload_n (i := 0) G eX12_lean_54 rfl rfl ?_
            refine V_get (v := .int (mI μ5 1376 0 0)) G fgX12_474 rfl eX12_lean_55 ?_
            refine V_goto G eX12_lean_58 ?_
            exact V_riM G hr eX12_lean_78 h
        · refine V_iconst (n := -1) (v := (-1)) G eX12_lean_45 rfl ?_
          refine V_goto G eX12_lean_46 ?_
          exact V_riM G hr eX12_lean_78 h
      · refine V_iconst (n := -1) (v := (-1)) G eX12_lean_29 rfl ?_
        exact V_riM G hr eX12_lean_30 h
theorem M_lean_ok {l : Launch} {w : Wld} {a1 : Int32} {a2 : Int32} {a3 : Int32} {a4 : Int32} {μ : Mem} {r : Int32} {μ' : Mem} (h : M_lean a1 a2 a3 a4 μ = some (r, μ')) : CtI l w yX12_lean cX12_lean 5 .int 66 [.ref (wad w 12 0), .int a1, .int a2, .int a3, .int a4] μ r μ' :=
  Ct_of (own := "PotBookModel") [some (.ref (wad w 12 0)), some (.int a1), some (.int a2), some (.int a3), some (.int a4)] (by decide +kernel) rfl rfl (Nat.le_of_ble_eq_true rfl) fun p e s m args below meth c G hr => M_lean_run G hr h
set_option maxRecDepth 100000 in
set_option maxHeartbeats 4000000 in
theorem M_softer_l2_ok {p : Program} {l : Launch} {e : Env} {R : Room} {s : State} {m : MethodId} {args : Array Value} {below : List Frame} {meth : Method} {c : Code} {w : Wld} {Q : State → Prop} (G : Cxt p R s m args meth c w cX12_softer 7 "PotBookModel" 9 0 0) {v1 : Int32} {v2 : Int32} {v3 : Int32} {v5 : Int32} {μ : Mem} {o1 : Int32} : ∀ {n : Nat} {v4 : Int32} {v6 : Int32}, M_softer_l2 v1 v2 v3 v5 μ n v4 v6 = some o1 → Vj p l e R s m args below meth c w 7 0 0 Q 140 [some (.ref (wad w 12 0)), some (.int v1), some (.int v2), some (.int v3), some (.int o1), some (.int v5), none] [] μ → Vj p l e R s m args below meth c w 7 0 0 Q 87 [some (.ref (wad w 12 0)), some (.int v1), some (.int v2), some (.int v3), some (.int v4), some (.int v5), some (.int v6)] [] μ := by
  intro n
  induction n with
  | zero => intro v4 v6 h K; exact noS h
  | succ n ih =>
    intro v4 v6 h K
    replace h : M_softer_l2b v1 v2 v3 v5 μ (M_softer_l2 v1 v2 v3 v5 μ n) v4 v6 = some o1 := h
    unfold M_softer_l2b at h
    refine V_iload G eX12_softer_87 rfl ?_
    refine V_iload G eX12_softer_89 rfl ?_
    refine V_icmp_ge G eX12_softer_91 h (fun h => ?_) (fun h => ?_)
    · cases h; exact V_sub (lS_s (lS_s (lS_s (lS_s (lS_s (lS_s (lS_n lS_0))))))) K
    · refine V_iload G eX12_softer_94 rfl ?_
      refine V_aload_n (i := 0) G eX12_softer_96 rfl rfl ?_
      refine V_get (v := .ref (wad w 1380 0)) G fgX12_169 rfl eX12_softer_97 ?_
      refine V_iload G eX12_softer_100 rfl ?_
      refine V_iald G al_1380 (by decide) eX12_softer_102 h (fun x1 h => ?_)
      refine V_aload_n (i := 0) G eX12_softer_103 rfl rfl ?_
      refine V_get (v := .ref (wad w 1380 0)) G fgX12_169 rfl eX12_softer_104 ?_
      refine V_iload G eX12_softer_107 rfl ?_
      refine V_iald G al_1380 (by decide) eX12_softer_109 h (fun x2 h => ?_)
      obtain ⟨x3, h1, h⟩ := bdS h
      refine V_callIS (As := [.int x1, .int x2]) (st := [.int v4]) G lkX12_513 (J_compare_ok (μ := μ) h1) (by decide) rfl rfl (Nat.le_of_ble_eq_true rfl) eX12_softer_110 ?_
      refine V_aload_n (i := 0) G eX12_softer_113 rfl rfl ?_
      refine V_get (v := .ref (wad w 1381 0)) G fgX12_172 rfl eX12_softer_114 ?_
      refine V_iload G eX12_softer_117 rfl ?_
      refine V_iald G al_1381 (by decide) eX12_softer_119 h (fun x4 h => ?_)
      refine V_aload_n (i := 0) G eX12_softer_120 rfl rfl ?_
      refine V_get (v := .ref (wad w 1381 0)) G fgX12_172 rfl eX12_softer_121 ?_
      refine V_iload G eX12_softer_124 rfl ?_
      refine V_iald G al_1381 (by decide) eX12_softer_126 h (fun x5 h => ?_)
      obtain ⟨x6, h1, h⟩ := bdS h
      refine V_callIS (As := [.int x4, .int x5]) (st := [.int x3, .int v4]) G lkX12_513 (J_compare_ok (μ := μ) h1) (by decide) rfl rfl (Nat.le_of_ble_eq_true rfl) eX12_softer_127 ?_
      refine V_imul G eX12_softer_130 ?_
      refine V_iadd G eX12_softer_131 ?_
      refine V_istore (i := 4) (L' := (fun x7 => [some (.ref (wad w 12 0)), some (.int v1), some (.int v2), some (.int v3), some (.int x7), some (.int v5), some (.int v6)])) G eX12_softer_132 (by decide) rfl (fun _ => rfl) h (fun x7 h => ?_)
      refine V_iinc (z := (nI 1)) (L' := (fun x8 => [some (.ref (wad w 12 0)), some (.int v1), some (.int v2), some (.int v3), some (.int x7), some (.int v5), some (.int x8)])) G eX12_softer_134 rfl rfl (by decide) rfl (fun _ => rfl) h (fun x8 h => ?_)
      refine V_goto G eX12_softer_137 ?_
      exact (ih h K)
set_option maxRecDepth 100000 in
set_option maxHeartbeats 4000000 in
theorem M_softer_l1_ok {p : Program} {l : Launch} {e : Env} {R : Room} {s : State} {m : MethodId} {args : Array Value} {below : List Frame} {meth : Method} {c : Code} {w : Wld} {Q : State → Prop} (G : Cxt p R s m args meth c w cX12_softer 7 "PotBookModel" 9 0 0) {v1 : Int32} {v2 : Int32} {v3 : Int32} {o1 : Int32} {μo : Mem} : ∀ {n : Nat} {v4 : Int32} {v5 : Int32} {μ : Mem}, M_softer_l1 v1 v2 v3 n v4 v5 μ = some (o1, μo) → Vj p l e R s m args below meth c w 7 0 0 Q 146 [none, none, none, none, some (.int o1), none, none] [] μo → Vj p l e R s m args below meth c w 7 0 0 Q 44 [some (.ref (wad w 12 0)), some (.int v1), some (.int v2), some (.int v3), some (.int v4), some (.int v5), none] [] μ := by
  intro n
  induction n with
  | zero => intro v4 v5 μ h K; exact noS h
  | succ n ih =>
    intro v4 v5 μ h K
    replace h : M_softer_l1b v1 v2 v3 (M_softer_l1 v1 v2 v3 n) v4 v5 μ = some (o1, μo) := h
    unfold M_softer_l1b at h
    refine V_iload G eX12_softer_44 rfl ?_
    refine V_aload_n (i := 0) G eX12_softer_46 rfl rfl ?_
    refine V_get (v := .int (mI μ 1342 0 0)) G fgX12_361 rfl eX12_softer_47 ?_
    refine V_icmp_ge G eX12_softer_50 h (fun h => ?_) (fun h => ?_)
    · cases h; exact V_sub (lS_n (lS_n (lS_n (lS_n (lS_s (lS_n (lS_n lS_0))))))) K
    · refine V_aload_n (i := 0) G eX12_softer_53 rfl rfl ?_
      refine V_iload_n (i := 1) G eX12_softer_54 rfl rfl ?_
      refine V_iload G eX12_softer_55 rfl ?_
      obtain ⟨μ1, h1, h⟩ := bdS h
      refine V_callV (As := [.int v1, .int v5]) (st := []) G lkX12_379 (M_go_ok h1) (by decide) rfl rfl (Nat.le_of_ble_eq_true rfl) eX12_softer_57 ?_
      refine V_aload_n (i := 0) G eX12_softer_60 rfl rfl ?_
      refine V_get (v := .ref (wad w 1380 0)) G fgX12_169 rfl eX12_softer_61 ?_
      refine V_iload G eX12_softer_64 rfl ?_
      refine V_aload_n (i := 0) G eX12_softer_66 rfl rfl ?_
      refine V_iload_n (i := 2) G eX12_softer_67 rfl rfl ?_
      obtain ⟨⟨x2, μ3⟩, h1, h⟩ := bdS h
      refine V_callI (As := [.int v2]) (st := [.int v5, .ref (wad w 1380 0)]) G lkX12_355 (M_worthNow_ok h1) (by decide) rfl rfl (Nat.le_of_ble_eq_true rfl) eX12_softer_68 ?_
      refine V_iast G al_1380 (by decide) eX12_softer_71 h (fun μ4 h => ?_)
      refine V_aload_n (i := 0) G eX12_softer_72 rfl rfl ?_
      refine V_get (v := .ref (wad w 1381 0)) G fgX12_172 rfl eX12_softer_73 ?_
      refine V_iload G eX12_softer_76 rfl ?_
      refine V_aload_n (i := 0) G eX12_softer_78 rfl rfl ?_
      refine V_iload_n (i := 3) G eX12_softer_79 rfl rfl ?_
      obtain ⟨⟨x5, μ6⟩, h1, h⟩ := bdS h
      refine V_callI (As := [.int v3]) (st := [.int v5, .ref (wad w 1381 0)]) G lkX12_355 (M_worthNow_ok h1) (by decide) rfl rfl (Nat.le_of_ble_eq_true rfl) eX12_softer_80 ?_
      refine V_iast G al_1381 (by decide) eX12_softer_83 h (fun μ7 h => ?_)
      refine V_iconst (n := 0) (v := (nI 0)) G eX12_softer_84 rfl ?_
      refine V_istoreA (i := 6) (L' := [some (.ref (wad w 12 0)), some (.int v1), some (.int v2), some (.int v3), some (.int v4), some (.int v5), some (.int (nI 0))]) G eX12_softer_85 (by decide) rfl rfl ?_
      obtain ⟨x8, h1, h⟩ := bdS h
      refine M_softer_l2_ok G h1 ?_
      refine V_iinc (z := (nI 1)) (L' := (fun x9 => [some (.ref (wad w 12 0)), some (.int v1), some (.int v2), some (.int v3), some (.int x8), some (.int x9), none])) G eX12_softer_140 rfl rfl (by decide) rfl (fun _ => rfl) h (fun x9 h => ?_)
      refine V_goto G eX12_softer_143 ?_
      exact (ih h K)
set_option maxRecDepth 100000 in
set_option maxHeartbeats 4000000 in
theorem M_softer_run {p : Program} {l : Launch} {e : Env} {R : Room} {s : State} {m : MethodId} {args : Array Value} {below : List Frame} {meth : Method} {c : Code} {w : Wld} (G : Cxt p R s m args meth c w cX12_softer 7 "PotBookModel" 9 0 0) (hr : meth.sig.returnType = some .int) {a1 : Int32} {a2 : Int32} {a3 : Int32} {μ : Mem} {r : Int32} {μ' : Mem} (h : M_softer a1 a2 a3 μ = some (r, μ')) : Vj p l e R s m args below meth c w 7 0 0 (MQ below (QI w r μ') args s 0 0 w.2.2.2) 0 [some (.ref (wad w 12 0)), some (.int a1), some (.int a2), some (.int a3), none, none, none] [] μ := by
  unfold M_softer at h
  refine V_aload_n (i := 0) G eX12_softer_0 rfl rfl ?_
  refine V_iload_n (i := 2) G eX12_softer_1 rfl rfl ?_
  obtain ⟨x1, h1, h⟩ := bdS h
  refine V_callI (As := [.int a2]) (st := []) G lkX12_341 (M_isLaw_ok h1) (by decide) rfl rfl (Nat.le_of_ble_eq_true rfl) eX12_softer_2 ?_
  refine V_if_eq G eX12_softer_5 h (fun h => ?_) (fun h => ?_)
  · refine V_ldcw (v := (-10000000)) G cnI_X12_387 eX12_softer_34 ?_
    exact V_riM G hr eX12_softer_37 h
  · refine V_aload_n (i := 0) G eX12_softer_8 rfl rfl ?_
    refine V_iload_n (i := 3) G eX12_softer_9 rfl rfl ?_
    obtain ⟨x2, h1, h⟩ := bdS h
    refine V_callI (As := [.int a3]) (st := []) G lkX12_341 (M_isLaw_ok h1) (by decide) rfl rfl (Nat.le_of_ble_eq_true rfl) eX12_softer_10 ?_
    refine V_if_eq G eX12_softer_13 h (fun h => ?_) (fun h => ?_)
    · refine V_ldcw (v := (-10000000)) G cnI_X12_387 eX12_softer_34 ?_
      exact V_riM G hr eX12_softer_37 h
    · refine V_aload_n (i := 0) G eX12_softer_16 rfl rfl ?_
      refine V_iload_n (i := 1) G eX12_softer_17 rfl rfl ?_
      obtain ⟨⟨x3, μ4⟩, h1, h⟩ := bdS h
      refine V_callI (As := [.int a1]) (st := []) G lkX12_376 (M_isTold_ok h1) (by decide) rfl rfl (Nat.le_of_ble_eq_true rfl) eX12_softer_18 ?_
      refine V_if_eq G eX12_softer_21 h (fun h => ?_) (fun h => ?_)
      · refine V_ldcw (v := (-10000000)) G cnI_X12_387 eX12_softer_34 ?_
        exact V_riM G hr eX12_softer_37 h
      · refine V_aload_n (i := 0) G eX12_softer_24 rfl rfl ?_
        refine V_get (v := .int (mI μ4 1342 0 0)) G fgX12_361 rfl eX12_softer_25 ?_
        refine V_sipush (n := 300) (v := (nI 300)) G eX12_softer_28 rfl ?_
        refine V_icmp_le G eX12_softer_31 h (fun h => ?_) (fun h => ?_)
        · refine V_iconst (n := 0) (v := (nI 0)) G eX12_softer_38 rfl ?_
          refine V_istoreA (i := 4) (L' := [some (.ref (wad w 12 0)), some (.int a1), some (.int a2), some (.int a3), some (.int (nI 0)), none, none]) G eX12_softer_39 (by decide) rfl rfl ?_
          refine V_iconst (n := 0) (v := (nI 0)) G eX12_softer_41 rfl ?_
          refine V_istoreA (i := 5) (L' := [some (.ref (wad w 12 0)), some (.int a1), some (.int a2), some (.int a3), some (.int (nI 0)), some (.int (nI 0)), none]) G eX12_softer_42 (by decide) rfl rfl ?_
          obtain ⟨⟨x5, μ6⟩, h1, h⟩ := bdS h
          refine M_softer_l1_ok G h1 ?_
          refine V_iload G eX12_softer_146 rfl ?_
          exact V_riM G hr eX12_softer_148 h
        · refine V_ldcw (v := (-10000000)) G cnI_X12_387 eX12_softer_34 ?_
          exact V_riM G hr eX12_softer_37 h
theorem M_softer_ok {l : Launch} {w : Wld} {a1 : Int32} {a2 : Int32} {a3 : Int32} {μ : Mem} {r : Int32} {μ' : Mem} (h : M_softer a1 a2 a3 μ = some (r, μ')) : CtI l w yX12_softer cX12_softer 7 .int 9 [.ref (wad w 12 0), .int a1, .int a2, .int a3] μ r μ' :=
  Ct_of (own := "PotBookModel") [some (.ref (wad w 12 0)), some (.int a1), some (.int a2), some (.int a3), none, none, none] (by decide +kernel) rfl rfl (Nat.le_of_ble_eq_true rfl) fun p e s m args below meth c G hr => M_softer_run G hr h
