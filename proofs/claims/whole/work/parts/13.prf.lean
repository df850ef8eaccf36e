set_option maxRecDepth 100000 in
set_option maxHeartbeats 4000000 in
theorem B_leaves_run {p : Program} {l : Launch} {e : Env} {R : Room} {s : State} {m : MethodId} {args : Array Value} {below : List Frame} {meth : Method} {c : Code} {w : Wld} (G : Cxt p R s m args meth c w cX11_leaves 4 "PotBook" 3 0 0) (hr : meth.sig.returnType = some .int) {a1 : Int32} {a2 : Int32} {a3 : Int32} {μ : Mem} {r : Int32} (h : B_leaves a1 a2 a3 μ = some r) : Vj p l e R s m args below meth c w 4 0 0 (MQ below (QI w r μ) args s 0 0 w.2.2.2) 0 [some (.ref (wad w 11 0)), some (.int a1), some (.int a2), some (.int a3)] [] μ := by
  unfold B_leaves at h
  refine V_iload_n (i := 1) G eX11_leaves_0 rfl rfl ?_
  obtain ⟨x1, h1, h⟩ := bdS h
  refine V_callIS (As := [.int a1]) (st := []) G lkX11_301 (B_isWriter_ok (μ := μ) h1) (by decide) rfl rfl (Nat.le_of_ble_eq_true rfl) eX11_leaves_1 ?_
  refine V_if_eq G eX11_leaves_4 h (fun h => ?_) (fun h => ?_)
  · refine V_iconst (n := -1) (v := (-1)) G eX11_leaves_27 rfl ?_
    exact V_ri G hr eX11_leaves_28 h
  · refine V_aload_n (i := 0) G eX11_leaves_7 rfl rfl ?_
    refine V_get (v := .ref (wad w 7 0)) G fgX11_19 rfl eX11_leaves_8 ?_
    refine V_iload_n (i := 2) G eX11_leaves_11 rfl rfl ?_
    obtain ⟨x2, h1, h⟩ := bdS h
    refine V_callI (As := [.int a2]) (st := []) G lkX11_142 (Pantry_has_ok h1) (by decide) rfl rfl (Nat.le_of_ble_eq_true rfl) eX11_leaves_12 ?_
    refine V_if_eq G eX11_leaves_15 h (fun h => ?_) (fun h => ?_)
    · refine V_iconst (n := -1) (v := (-1)) G eX11_leaves_27 rfl ?_
      exact V_ri G hr eX11_leaves_28 h
    · refine V_iload_n (i := 3) G eX11_leaves_18 rfl rfl ?_
      refine V_iconst (n := 0) (v := (nI 0)) G eX11_leaves_19 rfl ?_
      refine V_iconst (n := 1) (v := (nI 1)) G eX11_leaves_20 rfl ?_
      obtain ⟨x3, h1, h⟩ := bdS h
      refine V_callIS (As := [.int a3, .int (nI 0), .int (nI 1)]) (st := []) G lkX11_127 (B_isWithin_ok (μ := μ) h1) (by decide) rfl rfl (Nat.le_of_ble_eq_true rfl) eX11_leaves_21 ?_
      refine V_if_ne G eX11_leaves_24 h (fun h => ?_) (fun h => ?_)
      · refine V_aload_n (i := 0) G eX11_leaves_29 rfl rfl ?_
        refine V_get (v := .ref (wad w 6 0)) G fgX11_28 rfl eX11_leaves_30 ?_
        refine V_iload_n (i := 1) G eX11_leaves_33 rfl rfl ?_
        refine V_iload_n (i := 2) G eX11_leaves_34 rfl rfl ?_
        refine V_iload_n (i := 3) G eX11_leaves_35 rfl rfl ?_
        refine V_if_ne G eX11_leaves_36 h (fun h => ?_) (fun h => ?_)
        · refine V_iconst (n := 0) (v := (nI 0)) G eX11_leaves_43 rfl ?_
          obtain ⟨x4, h1, h⟩ := bdS h
          refine V_callI (As := [.int a1, .int a2, .int (nI 0)]) (st := []) G lkX11_304 (Pages_timesLeft_ok h1) (by decide) rfl rfl (Nat.le_of_ble_eq_true rfl) eX11_leaves_44 ?_
          exact V_ri G hr eX11_leaves_47 h
        · refine V_iconst (n := 1) (v := (nI 1)) G eX11_leaves_39 rfl ?_
          refine V_goto G eX11_leaves_40 ?_
          obtain ⟨x5, h1, h⟩ := bdS h
          refine V_callI (As := [.int a1, .int a2, .int (nI 1)]) (st := []) G lkX11_304 (Pages_timesLeft_ok h1) (by decide) rfl rfl (Nat.le_of_ble_eq_true rfl) eX11_leaves_44 ?_
          exact V_ri G hr eX11_leaves_47 h
      · refine V_iconst (n := -1) (v := (-1)) G eX11_leaves_27 rfl ?_
        exact V_ri G hr eX11_leaves_28 h
theorem B_leaves_ok {l : Launch} {w : Wld} {a1 : Int32} {a2 : Int32} {a3 : Int32} {μ : Mem} {r : Int32} (h : B_leaves a1 a2 a3 μ = some r) : CtI l w yX11_leaves cX11_leaves 4 .int 3 [.ref (wad w 11 0), .int a1, .int a2, .int a3] μ r μ :=
  Ct_of (own := "PotBook") [some (.ref (wad w 11 0)), some (.int a1), some (.int a2), some (.int a3)] (by decide +kernel) rfl rfl (Nat.le_of_ble_eq_true rfl) fun p e s m args below meth c G hr => B_leaves_run G hr h
set_option maxRecDepth 100000 in
set_option maxHeartbeats 4000000 in
theorem Pages_unlikePairs_l2_ok {p : Program} {l : Launch} {e : Env} {R : Room} {s : State} {m : MethodId} {args : Array Value} {below : List Frame} {meth : Method} {c : Code} {w : Wld} {Q : State → Prop} (G : Cxt p R s m args meth c w cX6_unlikePairs 6 "PotBook$Pages" 1 0 0) {v1 : Int32} {v3 : Int32} {μ : Mem} {o1 : Int32} : ∀ {n : Nat} {v2 : Int32} {v4 : Int32}, Pages_unlikePairs_l2 v1 v3 μ n v2 v4 = some o1 → Vj p l e R s m args below meth c w 6 0 0 Q 100 [some (.ref (wad w 6 0)), some (.int v1), some (.int o1), some (.int v3), none, none] [] μ → Vj p l e R s m args below meth c w 6 0 0 Q 17 [some (.ref (wad w 6 0)), some (.int v1), some (.int v2), some (.int v3), some (.int v4), none] [] μ := by
  intro n
  induction n with
  | zero => intro v2 v4 h K; exact noS h
  | succ n ih =>
    intro v2 v4 h K
    replace h : Pages_unlikePairs_l2b v1 v3 μ (Pages_unlikePairs_l2 v1 v3 μ n) v2 v4 = some o1 := h
    unfold Pages_unlikePairs_l2b at h
    refine V_iload G eX6_unlikePairs_17 rfl ?_
    refine V_aload_n (i := 0) G eX6_unlikePairs_19 rfl rfl ?_
    refine V_get (v := .int (mI μ 712 0 0)) G fgX6_52 rfl eX6_unlikePairs_20 ?_
    refine V_icmp_ge G eX6_unlikePairs_23 h (fun h => ?_) (fun h => ?_)
    · cases h; exact V_sub (lS_s (lS_s (lS_s (lS_s (lS_n (lS_n lS_0)))))) K
    · refine V_aload_n (i := 0) G eX6_unlikePairs_26 rfl rfl ?_
      refine V_get (v := .ref (wad w 711 0)) G fgX6_41 rfl eX6_unlikePairs_27 ?_
      refine V_iload_n (i := 3) G eX6_unlikePairs_30 rfl rfl ?_
      refine V_iald G al_711 (by decide) eX6_unlikePairs_31 h (fun x1 h => ?_)
      refine V_iload_n (i := 1) G eX6_unlikePairs_32 rfl rfl ?_
      obtain ⟨x3, hj, h⟩ := bdS h
      have J : Vj p l e R s m args below meth c w 6 0 0 Q 52 [some (.ref (wad w 6 0)), some (.int v1), some (.int v2), some (.int v3), some (.int v4), none] [.int x3] μ := by
        clear hj
        refine V_istoreA (i := 5) (L' := [some (.ref (wad w 6 0)), some (.int v1), some (.int v2), some (.int v3), some (.int v4), some (.int x3)]) G eX6_unlikePairs_52 (by decide) rfl rfl ?_
        refine V_iload G eX6_unlikePairs_54 rfl ?_
        obtain ⟨x9, hj, h⟩ := bdS h
        have J : Vj p l e R s m args below meth c w 6 0 0 Q 94 [some (.ref (wad w 6 0)), some (.int v1), some (.int x9), some (.int v3), some (.int v4), none] [] μ := by
          clear hj
          refine V_iinc (z := (nI 1)) (L' := (fun x10 => [some (.ref (wad w 6 0)), some (.int v1), some (.int x9), some (.int v3), some (.int x10), none])) G eX6_unlikePairs_94 rfl rfl (by decide) rfl (fun _ => rfl) h (fun x10 h => ?_)
          refine V_goto G eX6_unlikePairs_97 ?_
          exact (ih h K)
        replace h := hj
        clear hj
        refine V_if_eq G eX6_unlikePairs_56 h (fun h => ?_) (fun h => ?_)
        · cases h; exact V_sub (lS_s (lS_s (lS_s (lS_s (lS_s (lS_n lS_0)))))) J
        · refine V_aload_n (i := 0) G eX6_unlikePairs_59 rfl rfl ?_
          refine V_get (v := .ref (wad w 706 0)) G fgX6_26 rfl eX6_unlikePairs_60 ?_
          refine V_iload_n (i := 3) G eX6_unlikePairs_63 rfl rfl ?_
          refine V_iald G al_706 (by decide) eX6_unlikePairs_64 h (fun x4 h => ?_)
          refine V_aload_n (i := 0) G eX6_unlikePairs_65 rfl rfl ?_
          refine V_get (v := .ref (wad w 706 0)) G fgX6_26 rfl eX6_unlikePairs_66 ?_
          refine V_iload G eX6_unlikePairs_69 rfl ?_
          refine V_iald G al_706 (by decide) eX6_unlikePairs_71 h (fun x5 h => ?_)
          refine V_icmp_ne G eX6_unlikePairs_72 h (fun h => ?_) (fun h => ?_)
          · cases h; exact V_sub (lS_s (lS_s (lS_s (lS_s (lS_s (lS_n lS_0)))))) J
          · refine V_aload_n (i := 0) G eX6_unlikePairs_75 rfl rfl ?_
            refine V_get (v := .ref (wad w 707 0)) G fgX6_29 rfl eX6_unlikePairs_76 ?_
            refine V_iload_n (i := 3) G eX6_unlikePairs_79 rfl rfl ?_
            refine V_iald G al_707 (by decide) eX6_unlikePairs_80 h (fun x6 h => ?_)
            refine V_aload_n (i := 0) G eX6_unlikePairs_81 rfl rfl ?_
            refine V_get (v := .ref (wad w 707 0)) G fgX6_29 rfl eX6_unlikePairs_82 ?_
            refine V_iload G eX6_unlikePairs_85 rfl ?_
            refine V_iald G al_707 (by decide) eX6_unlikePairs_87 h (fun x7 h => ?_)
            refine V_icmp_eq G eX6_unlikePairs_88 h (fun h => ?_) (fun h => ?_)
            · cases h; exact V_sub (lS_s (lS_s (lS_s (lS_s (lS_s (lS_n lS_0)))))) J
            · refine V_iinc (z := (nI 1)) (L' := (fun x8 => [some (.ref (wad w 6 0)), some (.int v1), some (.int x8), some (.int v3), some (.int v4), some (.int x3)])) G eX6_unlikePairs_91 rfl rfl (by decide) rfl (fun _ => rfl) h (fun x8 h => ?_)
              cases h; exact V_sub (lS_s (lS_s (lS_s (lS_s (lS_s (lS_n lS_0)))))) J
      replace h := hj
      clear hj
      refine V_icmp_ne G eX6_unlikePairs_33 h (fun h => ?_) (fun h => ?_)
      · refine V_iconst (n := 0) (v := (nI 0)) G eX6_unlikePairs_51 rfl ?_
        cases h; exact J
      · refine V_aload_n (i := 0) G eX6_unlikePairs_36 rfl rfl ?_
        refine V_get (v := .ref (wad w 711 0)) G fgX6_41 rfl eX6_unlikePairs_37 ?_
        refine V_iload G eX6_unlikePairs_40 rfl ?_
        refine V_iald G al_711 (by decide) eX6_unlikePairs_42 h (fun x2 h => ?_)
        refine V_iload_n (i := 1) G eX6_unlikePairs_43 rfl rfl ?_
        refine V_icmp_ne G eX6_unlikePairs_44 h (fun h => ?_) (fun h => ?_)
        · refine V_iconst (n := 0) (v := (nI 0)) G eX6_unlikePairs_51 rfl ?_
          cases h; exact J
        · refine V_iconst (n := 1) (v := (nI 1)) G eX6_unlikePairs_47 rfl ?_
          refine V_goto G eX6_unlikePairs_48 ?_
          cases h; exact J
set_option maxRecDepth 100000 in
set_option maxHeartbeats 4000000 in
theorem Pages_unlikePairs_l1_ok {p : Program} {l : Launch} {e : Env} {R : Room} {s : State} {m : MethodId} {args : Array Value} {below : List Frame} {meth : Method} {c : Code} {w : Wld} {Q : State → Prop} (G : Cxt p R s m args meth c w cX6_unlikePairs 6 "PotBook$Pages" 1 0 0) {v1 : Int32} {μ : Mem} {o1 : Int32} : ∀ {n : Nat} {v2 : Int32} {v3 : Int32}, Pages_unlikePairs_l1 v1 μ n v2 v3 = some o1 → Vj p l e R s m args below meth c w 6 0 0 Q 106 [none, none, some (.int o1), none, none, none] [] μ → Vj p l e R s m args below meth c w 6 0 0 Q 4 [some (.ref (wad w 6 0)), some (.int v1), some (.int v2), some (.int v3), none, none] [] μ := by
  intro n
  induction n with
  | zero => intro v2 v3 h K; exact noS h
  | succ n ih =>
    intro v2 v3 h K
    replace h : Pages_unlikePairs_l1b v1 μ (Pages_unlikePairs_l1 v1 μ n) v2 v3 = some o1 := h
    unfold Pages_unlikePairs_l1b at h
    refine V_iload_n (i := 3) G eX6_unlikePairs_4 rfl rfl ?_
    refine V_aload_n (i := 0) G eX6_unlikePairs_5 rfl rfl ?_
    refine V_get (v := .int (mI μ 712 0 0)) G fgX6_52 rfl eX6_unlikePairs_6 ?_
    refine V_icmp_ge G eX6_unlikePairs_9 h (fun h => ?_) (fun h => ?_)
    · cases h; exact V_sub (lS_n (lS_n (lS_s (lS_n (lS_n (lS_n lS_0)))))) K
    · refine V_iload_n (i := 3) G eX6_unlikePairs_12 rfl rfl ?_
      refine V_iconst (n := 1) (v := (nI 1)) G eX6_unlikePairs_13 rfl ?_
      refine V_iadd G eX6_unlikePairs_14 ?_
      refine V_istore (i := 4) (L' := (fun x1 => [some (.ref (wad w 6 0)), some (.int v1), some (.int v2), some (.int v3), some (.int x1), none])) G eX6_unlikePairs_15 (by decide) rfl (fun _ => rfl) h (fun x1 h => ?_)
      obtain ⟨x2, h1, h⟩ := bdS h
      refine Pages_unlikePairs_l2_ok G h1 ?_
      refine V_iinc (z := (nI 1)) (L' := (fun x3 => [some (.ref (wad w 6 0)), some (.int v1), some (.int x2), some (.int x3), none, none])) G eX6_unlikePairs_100 rfl rfl (by decide) rfl (fun _ => rfl) h (fun x3 h => ?_)
      refine V_goto G eX6_unlikePairs_103 ?_
      exact (ih h K)
set_option maxRecDepth 100000 in
set_option maxHeartbeats 4000000 in
theorem Pages_unlikePairs_run {p : Program} {l : Launch} {e : Env} {R : Room} {s : State} {m : MethodId} {args : Array Value} {below : List Frame} {meth : Method} {c : Code} {w : Wld} (G : Cxt p R s m args meth c w cX6_unlikePairs 6 "PotBook$Pages" 1 0 0) (hr : meth.sig.returnType = some .int) {a1 : Int32} {μ : Mem} {r : Int32} (h : Pages_unlikePairs a1 μ = some r) : Vj p l e R s m args below meth c w 6 0 0 (MQ below (QI w r μ) args s 0 0 w.2.2.2) 0 [some (.ref (wad w 6 0)), some (.int a1), none, none, none, none] [] μ := by
  unfold Pages_unlikePairs at h
  refine V_iconst (n := 0) (v := (nI 0)) G eX6_unlikePairs_0 rfl ?_
  refine V_istoreA_n (i := 2) (L' := [some (.ref (wad w 6 0)), some (.int a1), some (.int (nI 0)), none, none, none]) G rfl eX6_unlikePairs_1 (by decide) rfl rfl ?_
  refine V_iconst (n := 0) (v := (nI 0)) G eX6_unlikePairs_2 rfl ?_
  refine V_istoreA_n (i := 3) (L' := [some (.ref (wad w 6 0)), some (.int a1), some (.int (nI 0)), some (.int (nI 0)), none, none]) G rfl eX6_unlikePairs_3 (by decide) rfl rfl ?_
  obtain ⟨x1, h1, h⟩ := bdS h
  refine Pages_unlikePairs_l1_ok G h1 ?_
  refine V_iload_n (i := 2) G eX6_unlikePairs_106 rfl rfl ?_
  exact V_ri G hr eX6_unlikePairs_107 h
theorem Pages_unlikePairs_ok {l : Launch} {w : Wld} {a1 : Int32} {μ : Mem} {r : Int32} (h : Pages_unlikePairs a1 μ = some r) : CtI l w yX6_unlikePairs cX6_unlikePairs 6 .int 1 [.ref (wad w 6 0), .int a1] μ r μ :=
  Ct_of (own := "PotBook$Pages") [some (.ref (wad w 6 0)), some (.int a1), none, none, none, none] (by decide +kernel) rfl rfl (Nat.le_of_ble_eq_true rfl) fun p e s m args below meth c G hr => Pages_unlikePairs_run G hr h
set_option maxRecDepth 100000 in
set_option maxHeartbeats 4000000 in
theorem B_twice_run {p : Program} {l : Launch} {e : Env} {R : Room} {s : State} {m : MethodId} {args : Array Value} {below : List Frame} {meth : Method} {c : Code} {w : Wld} (G : Cxt p R s m args meth c w cX11_twice 2 "PotBook" 3 0 0) (hr : meth.sig.returnType = some .int) {a1 : Int32} {μ : Mem} {r : Int32} (h : B_twice a1 μ = some r) : Vj p l e R s m args below meth c w 2 0 0 (MQ below (QI w r μ) args s 0 0 w.2.2.2) 0 [some (.ref (wad w 11 0)), some (.int a1)] [] μ := by
  unfold B_twice at h
  refine V_iload_n (i := 1) G eX11_twice_0 rfl rfl ?_
  obtain ⟨x1, h1, h⟩ := bdS h
  refine V_callIS (As := [.int a1]) (st := []) G lkX11_301 (B_isWriter_ok (μ := μ) h1) (by decide) rfl rfl (Nat.le_of_ble_eq_true rfl) eX11_twice_1 ?_
  refine V_if_eq G eX11_twice_4 h (fun h => ?_) (fun h => ?_)
  · refine V_iconst (n := -1) (v := (-1)) G eX11_twice_18 rfl ?_
    exact V_ri G hr eX11_twice_19 h
  · refine V_aload_n (i := 0) G eX11_twice_7 rfl rfl ?_
    refine V_get (v := .ref (wad w 6 0)) G fgX11_28 rfl eX11_twice_8 ?_
    refine V_iload_n (i := 1) G eX11_twice_11 rfl rfl ?_
    obtain ⟨x2, h1, h⟩ := bdS h
    refine V_callI (As := [.int a1]) (st := []) G lkX11_308 (Pages_unlikePairs_ok h1) (by decide) rfl rfl (Nat.le_of_ble_eq_true rfl) eX11_twice_12 ?_
    refine V_goto G eX11_twice_15 ?_
    exact V_ri G hr eX11_twice_19 h
theorem B_twice_ok {l : Launch} {w : Wld} {a1 : Int32} {μ : Mem} {r : Int32} (h : B_twice a1 μ = some r) : CtI l w yX11_twice cX11_twice 2 .int 3 [.ref (wad w 11 0), .int a1] μ r μ :=
  Ct_of (own := "PotBook") [some (.ref (wad w 11 0)), some (.int a1)] (by decide +kernel) rfl rfl (Nat.le_of_ble_eq_true rfl) fun p e s m args below meth c G hr => B_twice_run G hr h
set_option maxRecDepth 100000 in
set_option maxHeartbeats 4000000 in
theorem Taster_heft_l1_ok {p : Program} {l : Launch} {e : Env} {R : Room} {s : State} {m : MethodId} {args : Array Value} {below : List Frame} {meth : Method} {c : Code} {w : Wld} {Q : State → Prop} (G : Cxt p R s m args meth c w cX10_heft 4 "PotBook$Taster" 3 0 0) {v1 : Int32} {μ : Mem} {o1 : Int32} : ∀ {n : Nat} {v2 : Int32} {v3 : Int32}, Taster_heft_l1 v1 μ n v2 v3 = some o1 → Vj p l e R s m args below meth c w 4 0 0 Q 67 [none, none, some (.int o1), none] [] μ → Vj p l e R s m args below meth c w 4 0 0 Q 4 [some (.ref (wad w 10 0)), some (.int v1), some (.int v2), some (.int v3)] [] μ := by
  intro n
  induction n with
  | zero => intro v2 v3 h K; exact noS h
  | succ n ih =>
    intro v2 v3 h K
    replace h : Taster_heft_l1b v1 μ (Taster_heft_l1 v1 μ n) v2 v3 = some o1 := h
    unfold Taster_heft_l1b at h
    refine V_iload_n (i := 3) G eX10_heft_4 rfl rfl ?_
    refine V_aload_n (i := 0) G eX10_heft_5 rfl rfl ?_
    refine V_get (v := .ref (wad w 6 0)) G fgX10_24 rfl eX10_heft_6 ?_
    refine V_get (v := .ref (wad w 702 0)) G fgX10_62 rfl eX10_heft_9 ?_
    refine V_aload_n (i := 0) G eX10_heft_12 rfl rfl ?_
    refine V_get (v := .ref (wad w 8 0)) G fgX10_36 rfl eX10_heft_13 ?_
    refine V_get (v := .int (mI μ 912 0 0)) G fgX10_98 rfl eX10_heft_16 ?_
    refine V_iald G al_702 (by decide) eX10_heft_19 h (fun x1 h => ?_)
    refine V_icmp_ge G eX10_heft_20 h (fun h => ?_) (fun h => ?_)
    · cases h; exact V_sub (lS_n (lS_n (lS_s (lS_n lS_0)))) K
    · refine V_iload_n (i := 2) G eX10_heft_23 rfl rfl ?_
      refine V_aload_n (i := 0) G eX10_heft_24 rfl rfl ?_
      refine V_get (v := .ref (wad w 8 0)) G fgX10_36 rfl eX10_heft_25 ?_
      refine V_get (v := .ref (wad w 917 0)) G fgX10_102 rfl eX10_heft_28 ?_
      refine V_iload_n (i := 3) G eX10_heft_31 rfl rfl ?_
      refine V_iald G al_917 (by decide) eX10_heft_32 h (fun x2 h => ?_)
      refine V_aload_n (i := 0) G eX10_heft_33 rfl rfl ?_
      refine V_get (v := .ref (wad w 7 0)) G fgX10_28 rfl eX10_heft_34 ?_
      refine V_aload_n (i := 0) G eX10_heft_37 rfl rfl ?_
      refine V_get (v := .ref (wad w 6 0)) G fgX10_24 rfl eX10_heft_38 ?_
      refine V_get (v := .ref (wad w 10703 0)) G fgX10_70 rfl eX10_heft_41 ?_
      refine V_aload_n (i := 0) G eX10_heft_44 rfl rfl ?_
      refine V_get (v := .ref (wad w 8 0)) G fgX10_36 rfl eX10_heft_45 ?_
      refine V_get (v := .int (mI μ 912 0 0)) G fgX10_98 rfl eX10_heft_48 ?_
      refine V_aaldI (id := 703) G al_10703 eX10_heft_51 h (fun r3 hr3 h => ?_)
      refine V_iload_n (i := 3) G eX10_heft_52 rfl rfl ?_
      refine V_iald G al_703 hr3 eX10_heft_53 h (fun x4 h => ?_)
      refine V_iload_n (i := 1) G eX10_heft_54 rfl rfl ?_
      obtain ⟨x5, h1, h⟩ := bdS h
      refine V_callI (As := [.int x4, .int v1]) (st := [.int x2, .int v2]) G lkX10_105 (Pantry_bigIn_ok h1) (by decide) rfl rfl (Nat.le_of_ble_eq_true rfl) eX10_heft_55 ?_
      refine V_imul G eX10_heft_58 ?_
      refine V_iadd G eX10_heft_59 ?_
      refine V_istore_n (i := 2) (L' := (fun x6 => [some (.ref (wad w 10 0)), some (.int v1), some (.int x6), some (.int v3)])) G rfl eX10_heft_60 (by decide) rfl (fun _ => rfl) h (fun x6 h => ?_)
      refine V_iinc (z := (nI 1)) (L' := (fun x7 => [some (.ref (wad w 10 0)), some (.int v1), some (.int x6), some (.int x7)])) G eX10_heft_61 rfl rfl (by decide) rfl (fun _ => rfl) h (fun x7 h => ?_)
      refine V_goto G eX10_heft_64 ?_
      exact (ih h K)
set_option maxRecDepth 100000 in
set_option maxHeartbeats 4000000 in
theorem Taster_heft_run {p : Program} {l : Launch} {e : Env} {R : Room} {s : State} {m : MethodId} {args : Array Value} {below : List Frame} {meth : Method} {c : Code} {w : Wld} (G : Cxt p R s m args meth c w cX10_heft 4 "PotBook$Taster" 3 0 0) (hr : meth.sig.returnType = some .int) {a1 : Int32} {μ : Mem} {r : Int32} (h : Taster_heft a1 μ = some r) : Vj p l e R s m args below meth c w 4 0 0 (MQ below (QI w r μ) args s 0 0 w.2.2.2) 0 [some (.ref (wad w 10 0)), some (.int a1), none, none] [] μ := by
  unfold Taster_heft at h
  refine V_iconst (n := 0) (v := (nI 0)) G eX10_heft_0 rfl ?_
  refine V_istoreA_n (i := 2) (L' := [some (.ref (wad w 10 0)), some (.int a1), some (.int (nI 0)), none]) G rfl eX10_heft_1 (by decide) rfl rfl ?_
  refine V_iconst (n := 0) (v := (nI 0)) G eX10_heft_2 rfl ?_
  refine V_istoreA_n (i := 3) (L' := [some (.ref (wad w 10 0)), some (.int a1), some (.int (nI 0)), some (.int (nI 0))]) G rfl eX10_heft_3 (by decide) rfl rfl ?_
  obtain ⟨x1, h1, h⟩ := bdS h
  refine Taster_heft_l1_ok G h1 ?_
  refine V_iload_n (i := 2) G eX10_heft_67 rfl rfl ?_
  exact V_ri G hr eX10_heft_68 h
theorem Taster_heft_ok {l : Launch} {w : Wld} {a1 : Int32} {μ : Mem} {r : Int32} (h : Taster_heft a1 μ = some r) : CtI l w yX10_heft cX10_heft 4 .int 3 [.ref (wad w 10 0), .int a1] μ r μ :=
  Ct_of (own := "PotBook$Taster") [some (.ref (wad w 10 0)), some (.int a1), none, none] (by decide +kernel) rfl rfl (Nat.le_of_ble_eq_true rfl) fun p e s m args below meth c G hr => Taster_heft_run G hr h
set_option maxRecDepth 100000 in
set_option maxHeartbeats 4000000 in
theorem B_weight_run {p : Program} {l : Launch} {e : Env} {R : Room} {s : State} {m : MethodId} {args : Array Value} {below : List Frame} {meth : Method} {c : Code} {w : Wld} (G : Cxt p R s m args meth c w cX11_weight 4 "PotBook" 7 0 0) (hr : meth.sig.returnType = some .int) {a1 : Int32} {a2 : Int32} {a3 : Int32} {μ : Mem} {r : Int32} {μ' : Mem} (h : B_weight a1 a2 a3 μ = some (r, μ')) : Vj p l e R s m args below meth c w 4 0 0 (MQ below (QI w r μ') args s 0 0 w.2.2.2) 0 [some (.ref (wad w 11 0)), some (.int a1), some (.int a2), some (.int a3)] [] μ := by
  unfold B_weight at h
  refine V_iload_n (i := 3) G eX11_weight_0 rfl rfl ?_
  obtain ⟨x1, h1, h⟩ := bdS h
  refine V_callIS (As := [.int a3]) (st := []) G lkX11_146 (B_isYear_ok (μ := μ) h1) (by decide) rfl rfl (Nat.le_of_ble_eq_true rfl) eX11_weight_1 ?_
  refine V_if_eq G eX11_weight_4 h (fun h => ?_) (fun h => ?_)
  · refine V_iconst (n := -1) (v := (-1)) G eX11_weight_27 rfl ?_
    exact V_riM G hr eX11_weight_28 h
  · refine V_aload_n (i := 0) G eX11_weight_7 rfl rfl ?_
    refine V_iload_n (i := 1) G eX11_weight_8 rfl rfl ?_
    refine V_iload_n (i := 2) G eX11_weight_9 rfl rfl ?_
    obtain ⟨⟨x2, μ3⟩, h1, h⟩ := bdS h
    refine V_callI (As := [.int a1, .int a2]) (st := []) G lkX11_190 (B_shows_ok h1) (by decide) rfl rfl (Nat.le_of_ble_eq_true rfl) eX11_weight_10 ?_
    refine V_if_eq G eX11_weight_13 h (fun h => ?_) (fun h => ?_)
    · refine V_iconst (n := -1) (v := (-1)) G eX11_weight_27 rfl ?_
      exact V_riM G hr eX11_weight_28 h
    · refine V_aload_n (i := 0) G eX11_weight_16 rfl rfl ?_
      refine V_get (v := .ref (wad w 10 0)) G fgX11_62 rfl eX11_weight_17 ?_
      refine V_iload_n (i := 3) G eX11_weight_20 rfl rfl ?_
      obtain ⟨x4, h1, h⟩ := bdS h
      refine V_callI (As := [.int a3]) (st := []) G lkX11_311 (Taster_heft_ok h1) (by decide) rfl rfl (Nat.le_of_ble_eq_true rfl) eX11_weight_21 ?_
      refine V_goto G eX11_weight_24 ?_
      exact V_riM G hr eX11_weight_28 h
theorem B_weight_ok {l : Launch} {w : Wld} {a1 : Int32} {a2 : Int32} {a3 : Int32} {μ : Mem} {r : Int32} {μ' : Mem} (h : B_weight a1 a2 a3 μ = some (r, μ')) : CtI l w yX11_weight cX11_weight 4 .int 7 [.ref (wad w 11 0), .int a1, .int a2, .int a3] μ r μ' :=
  Ct_of (own := "PotBook") [some (.ref (wad w 11 0)), some (.int a1), some (.int a2), some (.int a3)] (by decide +kernel) rfl rfl (Nat.le_of_ble_eq_true rfl) fun p e s m args below meth c G hr => B_weight_run G hr h
set_option maxRecDepth 100000 in
set_option maxHeartbeats 4000000 in
theorem Taster_heftEdge_l1_ok {p : Program} {l : Launch} {e : Env} {R : Room} {s : State} {m : MethodId} {args : Array Value} {below : List Frame} {meth : Method} {c : Code} {w : Wld} {Q : State → Prop} (G : Cxt p R s m args meth c w cX10_heftEdge 5 "PotBook$Taster" 4 0 0) {v1 : Int32} {v2 : Int32} {o1 : Int32} {μo : Mem} : ∀ {n : Nat} {v3 : Int32} {v4 : Int32} {μ : Mem}, Taster_heftEdge_l1 v1 v2 n v3 v4 μ = some (o1, μo) → Vj p l e R s m args below meth c w 5 0 0 Q 55 [none, none, none, some (.int o1), none] [] μo → Vj p l e R s m args below meth c w 5 0 0 Q 17 [some (.ref (wad w 10 0)), some (.int v1), some (.int v2), some (.int v3), some (.int v4)] [] μ := by
  intro n
  induction n with
  | zero => intro v3 v4 μ h K; exact noS h
  | succ n ih =>
    intro v3 v4 μ h K
    replace h : Taster_heftEdge_l1b v1 v2 (Taster_heftEdge_l1 v1 v2 n) v3 v4 μ = some (o1, μo) := h
    unfold Taster_heftEdge_l1b at h
    refine V_iload G eX10_heftEdge_17 rfl ?_
    refine V_aload_n (i := 0) G eX10_heftEdge_19 rfl rfl ?_
    refine V_get (v := .ref (wad w 8 0)) G fgX10_36 rfl eX10_heftEdge_20 ?_
    obtain ⟨x1, h1, h⟩ := bdS h
    refine V_callI (As := []) (st := [.int v4]) G lkX10_46 (Pot_shownCount_ok h1) (by decide) rfl rfl (Nat.le_of_ble_eq_true rfl) eX10_heftEdge_23 ?_
    refine V_icmp_ge G eX10_heftEdge_26 h (fun h => ?_) (fun h => ?_)
    · cases h; exact V_sub (lS_n (lS_n (lS_n (lS_s (lS_n lS_0))))) K
    · refine V_aload_n (i := 0) G eX10_heftEdge_29 rfl rfl ?_
      refine V_get (v := .ref (wad w 8 0)) G fgX10_36 rfl eX10_heftEdge_30 ?_
      refine V_iload G eX10_heftEdge_33 rfl ?_
      obtain ⟨μ2, h1, h⟩ := bdS h
      refine V_callV (As := [.int v4]) (st := []) G lkX10_74 (Pot_show_ok h1) (by decide) rfl rfl (Nat.le_of_ble_eq_true rfl) eX10_heftEdge_35 ?_
      refine V_iload_n (i := 3) G eX10_heftEdge_38 rfl rfl ?_
      refine V_aload_n (i := 0) G eX10_heftEdge_39 rfl rfl ?_
      refine V_iload_n (i := 1) G eX10_heftEdge_40 rfl rfl ?_
      obtain ⟨x3, h1, h⟩ := bdS h
      refine V_callI (As := [.int v1]) (st := [.int v3]) G lkX10_110 (Taster_heft_ok h1) (by decide) rfl rfl (Nat.le_of_ble_eq_true rfl) eX10_heftEdge_41 ?_
      refine V_iload_n (i := 2) G eX10_heftEdge_44 rfl rfl ?_
      obtain ⟨x4, h1, h⟩ := bdS h
      refine V_callIS (As := [.int v3, .int x3, .int v2]) (st := []) G lkX10_50 (Taster_further_ok (μ := μ2) h1) (by decide) rfl rfl (Nat.le_of_ble_eq_true rfl) eX10_heftEdge_45 ?_
      refine V_istoreA_n (i := 3) (L' := [some (.ref (wad w 10 0)), some (.int v1), some (.int v2), some (.int x4), some (.int v4)]) G rfl eX10_heftEdge_48 (by decide) rfl rfl ?_
      refine V_iinc (z := (nI 1)) (L' := (fun x5 => [some (.ref (wad w 10 0)), some (.int v1), some (.int v2), some (.int x4), some (.int x5)])) G eX10_heftEdge_49 rfl rfl (by decide) rfl (fun _ => rfl) h (fun x5 h => ?_)
      refine V_goto G eX10_heftEdge_52 ?_
      exact (ih h K)
set_option maxRecDepth 100000 in
set_option maxHeartbeats 4000000 in
theorem Taster_heftEdge_run {p : Program} {l : Launch} {e : Env} {R : Room} {s : State} {m : MethodId} {args : Array Value} {below : List Frame} {meth : Method} {c : Code} {w : Wld} (G : Cxt p R s m args meth c w cX10_heftEdge 5 "PotBook$Taster" 4 0 0) (hr : meth.sig.returnType = some .int) {a1 : Int32} {a2 : Int32} {μ : Mem} {r : Int32} {μ' : Mem} (h : Taster_heftEdge a1 a2 μ = some (r, μ')) : Vj p l e R s m args below meth c w 5 0 0 (MQ below (QI w r μ') args s 0 0 w.2.2.2) 0 [some (.ref (wad w 10 0)), some (.int a1), some (.int a2), none, none] [] μ := by
  unfold Taster_heftEdge at h
  refine V_aload_n (i := 0) G eX10_heftEdge_0 rfl rfl ?_
  refine V_get (v := .ref (wad w 8 0)) G fgX10_36 rfl eX10_heftEdge_1 ?_
  refine V_iconst (n := 0) (v := (nI 0)) G eX10_heftEdge_4 rfl ?_
  obtain ⟨μ1, h1, h⟩ := bdS h
  refine V_callV (As := [.int (nI 0)]) (st := []) G lkX10_74 (Pot_show_ok h1) (by decide) rfl rfl (Nat.le_of_ble_eq_true rfl) eX10_heftEdge_5 ?_
  refine V_aload_n (i := 0) G eX10_heftEdge_8 rfl rfl ?_
  refine V_iload_n (i := 1) G eX10_heftEdge_9 rfl rfl ?_
  obtain ⟨x2, h1, h⟩ := bdS h
  refine V_callI (As := [.int a1]) (st := []) G lkX10_110 (Taster_heft_ok h1) (by decide) rfl rfl (Nat.le_of_ble_eq_true rfl) eX10_heftEdge_10 ?_
  refine V_istoreA_n (i := 3) (L' := [some (.ref (wad w 10 0)), some (.int a1), some (.int a2), some (.int x2), none]) G rfl eX10_heftEdge_13 (by decide) rfl rfl ?_
  refine V_iconst (n := 1) (v := (nI 1)) G eX10_heftEdge_14 rfl ?_
  refine V_istoreA (i := 4) (L' := [some (.ref (wad w 10 0)), some (.int a1), some (.int a2), some (.int x2), some (.int (nI 1))]) G eX10_heftEdge_15 (by decide) rfl rfl ?_
  obtain ⟨⟨x3, μ4⟩, h1, h⟩ := bdS h
  refine Taster_heftEdge_l1_ok G h1 ?_
  refine V_iload_n (i := 3) G eX10_heftEdge_55 rfl rfl ?_
  exact V_riM G hr eX10_heftEdge_56 h
theorem Taster_heftEdge_ok {l : Launch} {w : Wld} {a1 : Int32} {a2 : Int32} {μ : Mem} {r : Int32} {μ' : Mem} (h : Taster_heftEdge a1 a2 μ = some (r, μ')) : CtI l w yX10_heftEdge cX10_heftEdge 5 .int 4 [.ref (wad w 10 0), .int a1, .int a2] μ r μ' :=
  Ct_of (own := "PotBook$Taster") [some (.ref (wad w 10 0)), some (.int a1), some (.int a2), none, none] (by decide +kernel) rfl rfl (Nat.le_of_ble_eq_true rfl) fun p e s m args below meth c G hr => Taster_heftEdge_run G hr h
set_option maxRecDepth 100000 in
set_option maxHeartbeats 4000000 in
theorem B_serves_run {p : Program} {l : Launch} {e : Env} {R : Room} {s : State} {m : MethodId} {args : Array Value} {below : List Frame} {meth : Method} {c : Code} {w : Wld} (G : Cxt p R s m args meth c w cX11_serves 5 "PotBook" 6 0 0) (hr : meth.sig.returnType = some .int) {a1 : Int32} {a2 : Int32} {a3 : Int32} {a4 : Int32} {μ : Mem} {r : Int32} {μ' : Mem} (h : B_serves a1 a2 a3 a4 μ = some (r, μ')) : Vj p l e R s m args below meth c w 5 0 0 (MQ below (QI w r μ') args s 0 0 w.2.2.2) 0 [some (.ref (wad w 11 0)), some (.int a1), some (.int a2), some (.int a3), some (.int a4)] [] μ := by
  unfold B_serves at h
  refine V_iload_n (i := 2) G eX11_serves_0 rfl rfl ?_
  obtain ⟨x1, h1, h⟩ := bdS h
  refine V_callIS (As := [.int a2]) (st := []) G lkX11_146 (B_isYear_ok (μ := μ) h1) (by decide) rfl rfl (Nat.le_of_ble_eq_true rfl) eX11_serves_1 ?_
  refine V_if_eq G eX11_serves_4 h (fun h => ?_) (fun h => ?_)
  · refine V_iconst (n := -1) (v := (-1)) G eX11_serves_36 rfl ?_
    exact V_riM G hr eX11_serves_37 h
  · refine V_iload_n (i := 3) G eX11_serves_7 rfl rfl ?_
    refine V_iconst (n := 1) (v := (nI 1)) G eX11_serves_8 rfl ?_
    refine V_sipush (n := 9999) (v := (nI 9999)) G eX11_serves_9 rfl ?_
    obtain ⟨x2, h1, h⟩ := bdS h
    refine V_callIS (As := [.int a3, .int (nI 1), .int (nI 9999)]) (st := []) G lkX11_127 (B_isWithin_ok (μ := μ) h1) (by decide) rfl rfl (Nat.le_of_ble_eq_true rfl) eX11_serves_12 ?_
    refine V_if_eq G eX11_serves_15 h (fun h => ?_) (fun h => ?_)
    · refine V_iconst (n := -1) (v := (-1)) G eX11_serves_36 rfl ?_
      exact V_riM G hr eX11_serves_37 h
    · refine V_iload G eX11_serves_18 rfl ?_
      refine V_iconst (n := 0) (v := (nI 0)) G eX11_serves_20 rfl ?_
      refine V_iconst (n := 1) (v := (nI 1)) G eX11_serves_21 rfl ?_
      obtain ⟨x3, h1, h⟩ := bdS h
      refine V_callIS (As := [.int a4, .int (nI 0), .int (nI 1)]) (st := []) G lkX11_127 (B_isWithin_ok (μ := μ) h1) (by decide) rfl rfl (Nat.le_of_ble_eq_true rfl) eX11_serves_22 ?_
      refine V_if_eq G eX11_serves_25 h (fun h => ?_) (fun h => ?_)
      · refine V_iconst (n := -1) (v := (-1)) G eX11_serves_36 rfl ?_
        exact V_riM G hr eX11_serves_37 h
      · refine V_aload_n (i := 0) G eX11_serves_28 rfl rfl ?_
        refine V_iload_n (i := 1) G eX11_serves_29 rfl rfl ?_
        obtain ⟨⟨x4, μ5⟩, h1, h⟩ := bdS h
        refine V_callI (As := [.int a1]) (st := []) G lkX11_187 (B_laid_ok h1) (by decide) rfl rfl (Nat.le_of_ble_eq_true rfl) eX11_serves_30 ?_
        refine V_if_gt G eX11_serves_33 h (fun h => ?_) (fun h => ?_)
        · refine V_aload_n (i := 0) G eX11_serves_38 rfl rfl ?_
          refine V_get (v := .ref (wad w 10 0)) G fgX11_62 rfl eX11_serves_39 ?_
          refine V_iload_n (i := 2) G eX11_serves_42 rfl rfl ?_
          refine V_iload G eX11_serves_43 rfl ?_
          obtain ⟨⟨x6, μ7⟩, h1, h⟩ := bdS h
          refine V_callI (As := [.int a2, .int a4]) (st := []) G lkX11_314 (Taster_heftEdge_ok h1) (by decide) rfl rfl (Nat.le_of_ble_eq_true rfl) eX11_serves_45 ?_
          refine V_iload_n (i := 3) G eX11_serves_48 rfl rfl ?_
          refine V_idiv G eX11_serves_49 h (fun x8 h => ?_)
          exact V_riM G hr eX11_serves_50 h
        · refine V_iconst (n := -1) (v := (-1)) G eX11_serves_36 rfl ?_
          exact V_riM G hr eX11_serves_37 h
theorem B_serves_ok {l : Launch} {w : Wld} {a1 : Int32} {a2 : Int32} {a3 : Int32} {a4 : Int32} {μ : Mem} {r : Int32} {μ' : Mem} (h : B_serves a1 a2 a3 a4 μ = some (r, μ')) : CtI l w yX11_serves cX11_serves 5 .int 6 [.ref (wad w 11 0), .int a1, .int a2, .int a3, .int a4] μ r μ' :=
  Ct_of (own := "PotBook") [some (.ref (wad w 11 0)), some (.int a1), some (.int a2), some (.int a3), some (.int a4)] (by decide +kernel) rfl rfl (Nat.le_of_ble_eq_true rfl) fun p e s m args below meth c G hr => B_serves_run G hr h
set_option maxRecDepth 100000 in
set_option maxHeartbeats 4000000 in
theorem Taster_minutes_l1_ok {p : Program} {l : Launch} {e : Env} {R : Room} {s : State} {m : MethodId} {args : Array Value} {below : List Frame} {meth : Method} {c : Code} {w : Wld} (G : Cxt p R s m args meth c w cX10_minutes 7 "PotBook$Taster" 1 0 0) (hr : meth.sig.returnType = some .int) {v4 : Int32} {μ : Mem} {r : Int32} : ∀ {n : Nat} {v5 : Int32} {v6 : Int32}, Taster_minutes_l1 v4 n v5 v6 = some r → Vj p l e R s m args below meth c w 7 0 0 (MQ below (QI w r μ) args s 0 0 w.2.2.2) 38 [none, none, none, none, some (.int v4), some (.int v5), some (.int v6)] [] μ := by
  intro n
  induction n with
  | zero => intro v5 v6 h; exact noS h
  | succ n ih =>
    intro v5 v6 h
    replace h : Taster_minutes_l1b v4 (Taster_minutes_l1 v4 n) v5 v6 = some r := h
    unfold Taster_minutes_l1b at h
    refine V_iload G eX10_minutes_38 rfl ?_
    refine V_sipush (n := 200) (v := (nI 200)) G eX10_minutes_40 rfl ?_
    refine V_icmp_gt G eX10_minutes_43 h (fun h => ?_) (fun h => ?_)
    · refine V_iconst (n := -1) (v := (-1)) G eX10_minutes_75 rfl ?_
      exact V_ri G hr eX10_minutes_76 h
    · refine V_iload G eX10_minutes_46 rfl ?_
      refine V_iload G eX10_minutes_48 rfl ?_
      refine V_iload G eX10_minutes_50 rfl ?_
      refine V_bipush (n := 25) (v := (nI 25)) G eX10_minutes_52 rfl ?_
      refine V_idiv G eX10_minutes_54 h (fun x1 h => ?_)
      refine V_isub G eX10_minutes_55 ?_
      refine V_iadd G eX10_minutes_56 ?_
      refine V_istore (i := 5) (L' := (fun x2 => [none, none, none, none, some (.int v4), some (.int x2), some (.int v6)])) G eX10_minutes_57 (by decide) rfl (fun _ => rfl) h (fun x2 h => ?_)
      refine V_iload G eX10_minutes_59 rfl ?_
      refine V_bipush (n := 100) (v := (nI 100)) G eX10_minutes_61 rfl ?_
      refine V_icmp_lt G eX10_minutes_63 h (fun h => ?_) (fun h => ?_)
      · refine V_iinc (z := (nI 1)) (L' := (fun x3 => [none, none, none, none, some (.int v4), some (.int x2), some (.int x3)])) G eX10_minutes_69 rfl rfl (by decide) rfl (fun _ => rfl) h (fun x3 h => ?_)
        refine V_goto G eX10_minutes_72 ?_
        exact (ih h)
      · refine V_iload G eX10_minutes_66 rfl ?_
        exact V_ri G hr eX10_minutes_68 h
set_option maxRecDepth 100000 in
set_option maxHeartbeats 4000000 in
theorem Taster_minutes_run {p : Program} {l : Launch} {e : Env} {R : Room} {s : State} {m : MethodId} {args : Array Value} {below : List Frame} {meth : Method} {c : Code} {w : Wld} (G : Cxt p R s m args meth c w cX10_minutes 7 "PotBook$Taster" 1 0 0) (hr : meth.sig.returnType = some .int) {a1 : Int32} {a2 : Int32} {μ : Mem} {r : Int32} (h : Taster_minutes a1 a2 μ = some r) : Vj p l e R s m args below meth c w 7 0 0 (MQ below (QI w r μ) args s 0 0 w.2.2.2) 0 [some (.ref (wad w 10 0)), some (.int a1), some (.int a2), none, none, none, none] [] μ := by
  unfold Taster_minutes at h
  refine V_bipush (n := 10) (v := (nI 10)) G eX10_minutes_0 rfl ?_
  refine V_iload_n (i := 1) G eX10_minutes_2 rfl rfl ?_
  refine V_imul G eX10_minutes_3 ?_
  refine V_aload_n (i := 0) G eX10_minutes_4 rfl rfl ?_
  refine V_get (v := .ref (wad w 8 0)) G fgX10_36 rfl eX10_minutes_5 ?_
  refine V_get (v := .ref (wad w 918 0)) G fgX10_78 rfl eX10_minutes_8 ?_
  refine V_iconst (n := 0) (v := (nI 0)) G eX10_minutes_11 rfl ?_
  refine V_iald G al_918 (by decide) eX10_minutes_12 h (fun x1 h => ?_)
  refine V_iadd G eX10_minutes_13 ?_
  refine V_istore_n (i := 3) (L' := (fun x2 => [some (.ref (wad w 10 0)), some (.int a1), some (.int a2), some (.int x2), none, none, none])) G rfl eX10_minutes_14 (by decide) rfl (fun _ => rfl) h (fun x2 h => ?_)
  refine V_iload_n (i := 3) G eX10_minutes_15 rfl rfl ?_
  obtain ⟨x4, hj, h⟩ := bdS h
  have J : Vj p l e R s m args below meth c w 7 0 0 (MQ below (QI w r μ) args s 0 0 w.2.2.2) 29 [none, none, none, none, none, none, none] [.int x4] μ := by
    clear hj
    refine V_istoreA (i := 4) (L' := [none, none, none, none, some (.int x4), none, none]) G eX10_minutes_29 (by decide) rfl rfl ?_
    refine V_bipush (n := 10) (v := (nI 10)) G eX10_minutes_31 rfl ?_
    refine V_istoreA (i := 5) (L' := [none, none, none, none, some (.int x4), some (.int (nI 10)), none]) G eX10_minutes_33 (by decide) rfl rfl ?_
    refine V_iconst (n := 1) (v := (nI 1)) G eX10_minutes_35 rfl ?_
    refine V_istoreA (i := 6) (L' := [none, none, none, none, some (.int x4), some (.int (nI 10)), some (.int (nI 1))]) G eX10_minutes_36 (by decide) rfl rfl ?_
    exact Taster_minutes_l1_ok G hr h
  replace h := hj
  clear hj
  refine V_if_le G eX10_minutes_16 h (fun h => ?_) (fun h => ?_)
  · refine V_iconst (n := 0) (v := (nI 0)) G eX10_minutes_28 rfl ?_
    cases h; exact V_sub (lS_n (lS_n (lS_n (lS_n (lS_n (lS_n (lS_n lS_0))))))) J
  · refine V_bipush (n := 100) (v := (nI 100)) G eX10_minutes_19 rfl ?_
    refine V_iload_n (i := 2) G eX10_minutes_21 rfl rfl ?_
    refine V_imul G eX10_minutes_22 ?_
    refine V_iload_n (i := 3) G eX10_minutes_23 rfl rfl ?_
    refine V_idiv G eX10_minutes_24 h (fun x3 h => ?_)
    refine V_goto G eX10_minutes_25 ?_
    cases h; exact V_sub (lS_n (lS_n (lS_n (lS_n (lS_n (lS_n (lS_n lS_0))))))) J
theorem Taster_minutes_ok {l : Launch} {w : Wld} {a1 : Int32} {a2 : Int32} {μ : Mem} {r : Int32} (h : Taster_minutes a1 a2 μ = some r) : CtI l w yX10_minutes cX10_minutes 7 .int 1 [.ref (wad w 10 0), .int a1, .int a2] μ r μ :=
  Ct_of (own := "PotBook$Taster") [some (.ref (wad w 10 0)), some (.int a1), some (.int a2), none, none, none, none] (by decide +kernel) rfl rfl (Nat.le_of_ble_eq_true rfl) fun p e s m args below meth c G hr => Taster_minutes_run G hr h
set_option maxRecDepth 100000 in
set_option maxHeartbeats 4000000 in
theorem B_boil_run {p : Program} {l : Launch} {e : Env} {R : Room} {s : State} {m : MethodId} {args : Array Value} {below : List Frame} {meth : Method} {c : Code} {w : Wld} (G : Cxt p R s m args meth c w cX11_boil 5 "PotBook" 7 0 0) (hr : meth.sig.returnType = some .int) {a1 : Int32} {a2 : Int32} {a3 : Int32} {a4 : Int32} {μ : Mem} {r : Int32} {μ' : Mem} (h : B_boil a1 a2 a3 a4 μ = some (r, μ')) : Vj p l e R s m args below meth c w 5 0 0 (MQ below (QI w r μ') args s 0 0 w.2.2.2) 0 [some (.ref (wad w 11 0)), some (.int a1), some (.int a2), some (.int a3), some (.int a4)] [] μ := by
  unfold B_boil at h
  refine V_iload_n (i := 3) G eX11_boil_0 rfl rfl ?_
  refine V_iconst (n := 1) (v := (nI 1)) G eX11_boil_1 rfl ?_
  refine V_bipush (n := 99) (v := (nI 99)) G eX11_boil_2 rfl ?_
  obtain ⟨x1, h1, h⟩ := bdS h
  refine V_callIS (As := [.int a3, .int (nI 1), .int (nI 99)]) (st := []) G lkX11_127 (B_isWithin_ok (μ := μ) h1) (by decide) rfl rfl (Nat.le_of_ble_eq_true rfl) eX11_boil_4 ?_
  refine V_if_eq G eX11_boil_7 h (fun h => ?_) (fun h => ?_)
  · refine V_iconst (n := -1) (v := (-1)) G eX11_boil_30 rfl ?_
    exact V_riM G hr eX11_boil_31 h
  · refine V_iload G eX11_boil_10 rfl ?_
    refine V_iconst (n := 1) (v := (nI 1)) G eX11_boil_12 rfl ?_
    refine V_bipush (n := 99) (v := (nI 99)) G eX11_boil_13 rfl ?_
    obtain ⟨x2, h1, h⟩ := bdS h
    refine V_callIS (As := [.int a4, .int (nI 1), .int (nI 99)]) (st := []) G lkX11_127 (B_isWithin_ok (μ := μ) h1) (by decide) rfl rfl (Nat.le_of_ble_eq_true rfl) eX11_boil_15 ?_
    refine V_if_eq G eX11_boil_18 h (fun h => ?_) (fun h => ?_)
    · refine V_iconst (n := -1) (v := (-1)) G eX11_boil_30 rfl ?_
      exact V_riM G hr eX11_boil_31 h
    · refine V_aload_n (i := 0) G eX11_boil_21 rfl rfl ?_
      refine V_iload_n (i := 1) G eX11_boil_22 rfl rfl ?_
      refine V_iload_n (i := 2) G eX11_boil_23 rfl rfl ?_
      obtain ⟨⟨x3, μ4⟩, h1, h⟩ := bdS h
      refine V_callI (As := [.int a1, .int a2]) (st := []) G lkX11_190 (B_shows_ok h1) (by decide) rfl rfl (Nat.le_of_ble_eq_true rfl) eX11_boil_24 ?_
      refine V_if_ne G eX11_boil_27 h (fun h => ?_) (fun h => ?_)
      · refine V_aload_n (i := 0) G eX11_boil_32 rfl rfl ?_
        refine V_get (v := .ref (wad w 10 0)) G fgX11_62 rfl eX11_boil_33 ?_
        refine V_iload_n (i := 3) G eX11_boil_36 rfl rfl ?_
        refine V_iload G eX11_boil_37 rfl ?_
        obtain ⟨x5, h1, h⟩ := bdS h
        refine V_callI (As := [.int a3, .int a4]) (st := []) G lkX11_317 (Taster_minutes_ok h1) (by decide) rfl rfl (Nat.le_of_ble_eq_true rfl) eX11_boil_39 ?_
        exact V_riM G hr eX11_boil_42 h
      · refine V_iconst (n := -1) (v := (-1)) G eX11_boil_30 rfl ?_
        exact V_riM G hr eX11_boil_31 h
theorem B_boil_ok {l : Launch} {w : Wld} {a1 : Int32} {a2 : Int32} {a3 : Int32} {a4 : Int32} {μ : Mem} {r : Int32} {μ' : Mem} (h : B_boil a1 a2 a3 a4 μ = some (r, μ')) : CtI l w yX11_boil cX11_boil 5 .int 7 [.ref (wad w 11 0), .int a1, .int a2, .int a3, .int a4] μ r μ' :=
  Ct_of (own := "PotBook") [some (.ref (wad w 11 0)), some (.int a1), some (.int a2), some (.int a3), some (.int a4)] (by decide +kernel) rfl rfl (Nat.le_of_ble_eq_true rfl) fun p e s m args below meth c G hr => B_boil_run G hr h
set_option maxRecDepth 100000 in
set_option maxHeartbeats 4000000 in
theorem Kin_toldOtherwise_l1_ok {p : Program} {l : Launch} {e : Env} {R : Room} {s : State} {m : MethodId} {args : Array Value} {below : List Frame} {meth : Method} {c : Code} {w : Wld} {Q : State → Prop} (G : Cxt p R s m args meth c w cX2_toldOtherwise 7 "PotBook$Kin" 2 0 0) {v1 : Int32} {v2 : Int32} {μ : Mem} {o1 : Int32} : ∀ {n : Nat} {v3 : Int32} {v4 : Int32}, Kin_toldOtherwise_l1 v1 v2 μ n v3 v4 = some o1 → Vj p l e R s m args below meth c w 7 0 0 Q 118 [none, none, none, some (.int o1), none, none, none] [] μ → Vj p l e R s m args below meth c w 7 0 0 Q 5 [some (.ref (wad w 2 0)), some (.int v1), some (.int v2), some (.int v3), some (.int v4), none, none] [] μ := by
  intro n
  induction n with
  | zero => intro v3 v4 h K; exact noS h
  | succ n ih =>
    intro v3 v4 h K
    replace h : Kin_toldOtherwise_l1b v1 v2 μ (Kin_toldOtherwise_l1 v1 v2 μ n) v3 v4 = some o1 := h
    unfold Kin_toldOtherwise_l1b at h
    refine V_iload G eX2_toldOtherwise_5 rfl ?_
    refine V_aload_n (i := 0) G eX2_toldOtherwise_7 rfl rfl ?_
    refine V_get (v := .ref (wad w 6 0)) G fgX2_33 rfl eX2_toldOtherwise_8 ?_
    refine V_get (v := .ref (wad w 702 0)) G fgX2_78 rfl eX2_toldOtherwise_11 ?_
    refine V_iload_n (i := 1) G eX2_toldOtherwise_14 rfl rfl ?_
    refine V_iald G al_702 (by decide) eX2_toldOtherwise_15 h (fun x1 h => ?_)
    refine V_icmp_ge G eX2_toldOtherwise_16 h (fun h => ?_) (fun h => ?_)
    · cases h; exact V_sub (lS_n (lS_n (lS_n (lS_s (lS_n (lS_n (lS_n lS_0))))))) K
    · refine V_aload_n (i := 0) G eX2_toldOtherwise_19 rfl rfl ?_
      refine V_get (v := .ref (wad w 6 0)) G fgX2_33 rfl eX2_toldOtherwise_20 ?_
      refine V_get (v := .ref (wad w 10703 0)) G fgX2_81 rfl eX2_toldOtherwise_23 ?_
      refine V_iload_n (i := 1) G eX2_toldOtherwise_26 rfl rfl ?_
      refine V_aaldI (id := 703) G al_10703 eX2_toldOtherwise_27 h (fun r2 hr2 h => ?_)
      refine V_iload G eX2_toldOtherwise_28 rfl ?_
      refine V_iald G al_703 hr2 eX2_toldOtherwise_30 h (fun x3 h => ?_)
      refine V_istoreA (i := 5) (L' := [some (.ref (wad w 2 0)), some (.int v1), some (.int v2), some (.int v3), some (.int v4), some (.int x3), none]) G eX2_toldOtherwise_31 (by decide) rfl rfl ?_
      refine V_aload_n (i := 0) G eX2_toldOtherwise_33 rfl rfl ?_
      refine V_get (v := .ref (wad w 6 0)) G fgX2_33 rfl eX2_toldOtherwise_34 ?_
      refine V_iload_n (i := 2) G eX2_toldOtherwise_37 rfl rfl ?_
      refine V_iload G eX2_toldOtherwise_38 rfl ?_
      obtain ⟨x4, h1, h⟩ := bdS h
      refine V_callI (As := [.int v2, .int x3]) (st := []) G lkX2_84 (Pages_placeOf_ok h1) (by decide) rfl rfl (Nat.le_of_ble_eq_true rfl) eX2_toldOtherwise_40 ?_
      refine V_istoreA (i := 6) (L' := [some (.ref (wad w 2 0)), some (.int v1), some (.int v2), some (.int v3), some (.int v4), some (.int x3), some (.int x4)]) G eX2_toldOtherwise_43 (by decide) rfl rfl ?_
      refine V_iload G eX2_toldOtherwise_45 rfl ?_
      refine V_iconst (n := -1) (v := (-1)) G eX2_toldOtherwise_47 rfl ?_
      obtain ⟨x15, hj, h⟩ := bdS h
      have J : Vj p l e R s m args below meth c w 7 0 0 Q 112 [some (.ref (wad w 2 0)), some (.int v1), some (.int v2), some (.int x15), some (.int v4), none, none] [] μ := by
        clear hj
        refine V_iinc (z := (nI 1)) (L' := (fun x16 => [some (.ref (wad w 2 0)), some (.int v1), some (.int v2), some (.int x15), some (.int x16), none, none])) G eX2_toldOtherwise_112 rfl rfl (by decide) rfl (fun _ => rfl) h (fun x16 h => ?_)
        refine V_goto G eX2_toldOtherwise_115 ?_
        exact (ih h K)
      replace h := hj
      clear hj
      refine V_icmp_eq G eX2_toldOtherwise_48 h (fun h => ?_) (fun h => ?_)
      · cases h; exact V_sub (lS_s (lS_s (lS_s (lS_s (lS_s (lS_n (lS_n lS_0))))))) J
      · refine V_aload_n (i := 0) G eX2_toldOtherwise_51 rfl rfl ?_
        refine V_get (v := .ref (wad w 6 0)) G fgX2_33 rfl eX2_toldOtherwise_52 ?_
        refine V_get (v := .ref (wad w 10704 0)) G fgX2_87 rfl eX2_toldOtherwise_55 ?_
        refine V_iload_n (i := 1) G eX2_toldOtherwise_58 rfl rfl ?_
        refine V_aaldI (id := 704) G al_10704 eX2_toldOtherwise_59 h (fun r5 hr5 h => ?_)
        refine V_iload G eX2_toldOtherwise_60 rfl ?_
        refine V_iald G al_704 hr5 eX2_toldOtherwise_62 h (fun x6 h => ?_)
        refine V_aload_n (i := 0) G eX2_toldOtherwise_63 rfl rfl ?_
        refine V_get (v := .ref (wad w 6 0)) G fgX2_33 rfl eX2_toldOtherwise_64 ?_
        refine V_get (v := .ref (wad w 10704 0)) G fgX2_87 rfl eX2_toldOtherwise_67 ?_
        refine V_iload_n (i := 2) G eX2_toldOtherwise_70 rfl rfl ?_
        refine V_aaldI (id := 704) G al_10704 eX2_toldOtherwise_71 h (fun r7 hr7 h => ?_)
        refine V_iload G eX2_toldOtherwise_72 rfl ?_
        refine V_iald G al_704 hr7 eX2_toldOtherwise_74 h (fun x8 h => ?_)
        refine V_icmp_ne G eX2_toldOtherwise_75 h (fun h => ?_) (fun h => ?_)
        · refine V_iload_n (i := 3) G eX2_toldOtherwise_105 rfl rfl ?_
          refine V_iconst (n := 1) (v := (nI 1)) G eX2_toldOtherwise_106 rfl ?_
          refine V_iload G eX2_toldOtherwise_107 rfl ?_
          refine V_ishl G eX2_toldOtherwise_109 ?_
          refine V_ior G eX2_toldOtherwise_110 ?_
          refine V_istore_n (i := 3) (L' := (fun x9 => [some (.ref (wad w 2 0)), some (.int v1), some (.int v2), some (.int x9), some (.int v4), some (.int x3), some (.int x4)])) G rfl eX2_toldOtherwise_111 (by decide) rfl (fun _ => rfl) h (fun x9 h => ?_)
          cases h; exact V_sub (lS_s (lS_s (lS_s (lS_s (lS_s (lS_n (lS_n lS_0))))))) J
        · refine V_aload_n (i := 0) G eX2_toldOtherwise_78 rfl rfl ?_
          refine V_get (v := .ref (wad w 6 0)) G fgX2_33 rfl eX2_toldOtherwise_79 ?_
          refine V_get (v := .ref (wad w 10705 0)) G fgX2_90 rfl eX2_toldOtherwise_82 ?_
          refine V_iload_n (i := 1) G eX2_toldOtherwise_85 rfl rfl ?_
          refine V_aaldI (id := 705) G al_10705 eX2_toldOtherwise_86 h (fun r10 hr10 h => ?_)
          refine V_iload G eX2_toldOtherwise_87 rfl ?_
          refine V_iald G al_705 hr10 eX2_toldOtherwise_89 h (fun x11 h => ?_)
          refine V_aload_n (i := 0) G eX2_toldOtherwise_90 rfl rfl ?_
          refine V_get (v := .ref (wad w 6 0)) G fgX2_33 rfl eX2_toldOtherwise_91 ?_
          refine V_get (v := .ref (wad w 10705 0)) G fgX2_90 rfl eX2_toldOtherwise_94 ?_
          refine V_iload_n (i := 2) G eX2_toldOtherwise_97 rfl rfl ?_
          refine V_aaldI (id := 705) G al_10705 eX2_toldOtherwise_98 h (fun r12 hr12 h => ?_)
          refine V_iload G eX2_toldOtherwise_99 rfl ?_
          refine V_iald G al_705 hr12 eX2_toldOtherwise_101 h (fun x13 h => ?_)
          refine V_icmp_eq G eX2_toldOtherwise_102 h (fun h => ?_) (fun h => ?_)
          · cases h; exact V_sub (lS_s (lS_s (lS_s (lS_s (lS_s (lS_n (lS_n lS_0))))))) J
          · refine V_iload_n (i := 3) G eX2_toldOtherwise_105 rfl rfl ?_
            refine V_iconst (n := 1) (v := (nI 1)) G eX2_toldOtherwise_106 rfl ?_
            refine V_iload G eX2_toldOtherwise_107 rfl ?_
            refine V_ishl G eX2_toldOtherwise_109 ?_
            refine V_ior G eX2_toldOtherwise_110 ?_
            refine V_istore_n (i := 3) (L' := (fun x14 => [some (.ref (wad w 2 0)), some (.int v1), some (.int v2), some (.int x14), some (.int v4), some (.int x3), some (.int x4)])) G rfl eX2_toldOtherwise_111 (by decide) rfl (fun _ => rfl) h (fun x14 h => ?_)
            cases h; exact V_sub (lS_s (lS_s (lS_s (lS_s (lS_s (lS_n (lS_n lS_0))))))) J
set_option maxRecDepth 100000 in
set_option maxHeartbeats 4000000 in
theorem Kin_toldOtherwise_run {p : Program} {l : Launch} {e : Env} {R : Room} {s : State} {m : MethodId} {args : Array Value} {below : List Frame} {meth : Method} {c : Code} {w : Wld} (G : Cxt p R s m args meth c w cX2_toldOtherwise 7 "PotBook$Kin" 2 0 0) (hr : meth.sig.returnType = some .int) {a1 : Int32} {a2 : Int32} {μ : Mem} {r : Int32} (h : Kin_toldOtherwise a1 a2 μ = some r) : Vj p l e R s m args below meth c w 7 0 0 (MQ below (QI w r μ) args s 0 0 w.2.2.2) 0 [some (.ref (wad w 2 0)), some (.int a1), some (.int a2), none, none, none, none] [] μ := by
  unfold Kin_toldOtherwise at h
  refine V_iconst (n := 0) (v := (nI 0)) G eX2_toldOtherwise_0 rfl ?_
  refine V_istoreA_n (i := 3) (L' := [some (.ref (wad w 2 0)), some (.int a1), some (.int a2), some (.int (nI 0)), none, none, none]) G rfl eX2_toldOtherwise_1 (by decide) rfl rfl ?_
  refine V_iconst (n := 0) (v := (nI 0)) G eX2_toldOtherwise_2 rfl ?_
  refine V_istoreA (i := 4) (L' := [some (.ref (wad w 2 0)), some (.int a1), some (.int a2), some (.int (nI 0)), some (.int (nI 0)), none, none]) G eX2_toldOtherwise_3 (by decide) rfl rfl ?_
  obtain ⟨x1, h1, h⟩ := bdS h
  refine Kin_toldOtherwise_l1_ok G h1 ?_
  refine V_iload_n (i := 3) G eX2_toldOtherwise_118 rfl rfl ?_
  exact V_ri G hr eX2_toldOtherwise_119 h
theorem Kin_toldOtherwise_ok {l : Launch} {w : Wld} {a1 : Int32} {a2 : Int32} {μ : Mem} {r : Int32} (h : Kin_toldOtherwise a1 a2 μ = some r) : CtI l w yX2_toldOtherwise cX2_toldOtherwise 7 .int 2 [.ref (wad w 2 0), .int a1, .int a2] μ r μ :=
  Ct_of (own := "PotBook$Kin") [some (.ref (wad w 2 0)), some (.int a1), some (.int a2), none, none, none, none] (by decide +kernel) rfl rfl (Nat.le_of_ble_eq_true rfl) fun p e s m args below meth c G hr => Kin_toldOtherwise_run G hr h
set_option maxRecDepth 100000 in
set_option maxHeartbeats 4000000 in
theorem Kin_change_run {p : Program} {l : Launch} {e : Env} {R : Room} {s : State} {m : MethodId} {args : Array Value} {below : List Frame} {meth : Method} {c : Code} {w : Wld} (G : Cxt p R s m args meth c w cX2_change 4 "PotBook$Kin" 3 0 0) (hr : meth.sig.returnType = some .int) {a1 : Int32} {a2 : Int32} {a3 : Int32} {μ : Mem} {r : Int32} (h : Kin_change a1 a2 a3 μ = some r) : Vj p l e R s m args below meth c w 4 0 0 (MQ below (QI w r μ) args s 0 0 w.2.2.2) 0 [some (.ref (wad w 2 0)), some (.int a1), some (.int a2), some (.int a3)] [] μ := by
  unfold Kin_change at h
  refine V_iload_n (i := 3) G eX2_change_0 rfl rfl ?_
  by_cases c0 : a3 = (nI 0)
  · rw [if_pos c0] at h
    refine V_tswIn (v := (nI 0)) (off := 27) (tgt := 28) G eX2_change_1 c0 (by decide) (by decide) rfl rfl ?_
    refine V_aload_n (i := 0) G eX2_change_28 rfl rfl ?_
    refine V_get (v := .ref (wad w 6 0)) G fgX2_33 rfl eX2_change_29 ?_
    refine V_get (v := .ref (wad w 706 0)) G fgX2_41 rfl eX2_change_32 ?_
    refine V_iload_n (i := 1) G eX2_change_35 rfl rfl ?_
    refine V_iald G al_706 (by decide) eX2_change_36 h (fun x1 h => ?_)
    refine V_aload_n (i := 0) G eX2_change_37 rfl rfl ?_
    refine V_get (v := .ref (wad w 6 0)) G fgX2_33 rfl eX2_change_38 ?_
    refine V_get (v := .ref (wad w 706 0)) G fgX2_41 rfl eX2_change_41 ?_
    refine V_iload_n (i := 2) G eX2_change_44 rfl rfl ?_
    refine V_iald G al_706 (by decide) eX2_change_45 h (fun x2 h => ?_)
    refine V_iconst (n := -1) (v := (-1)) G eX2_change_46 rfl ?_
    refine V_ixor G eX2_change_47 ?_
    refine V_iand G eX2_change_48 ?_
    exact V_ri G hr eX2_change_49 h
  · rw [if_neg c0] at h
    by_cases c1 : a3 = (nI 1)
    · rw [if_pos c1] at h
      refine V_tswIn (v := (nI 1)) (off := 49) (tgt := 50) G eX2_change_1 c1 (by decide) (by decide) rfl rfl ?_
      refine V_aload_n (i := 0) G eX2_change_50 rfl rfl ?_
      refine V_get (v := .ref (wad w 6 0)) G fgX2_33 rfl eX2_change_51 ?_
      refine V_get (v := .ref (wad w 706 0)) G fgX2_41 rfl eX2_change_54 ?_
      refine V_iload_n (i := 2) G eX2_change_57 rfl rfl ?_
      refine V_iald G al_706 (by decide) eX2_change_58 h (fun x3 h => ?_)
      refine V_aload_n (i := 0) G eX2_change_59 rfl rfl ?_
      refine V_get (v := .ref (wad w 6 0)) G fgX2_33 rfl eX2_change_60 ?_
      refine V_get (v := .ref (wad w 706 0)) G fgX2_41 rfl eX2_change_63 ?_
      refine V_iload_n (i := 1) G eX2_change_66 rfl rfl ?_
      refine V_iald G al_706 (by decide) eX2_change_67 h (fun x4 h => ?_)
      refine V_iconst (n := -1) (v := (-1)) G eX2_change_68 rfl ?_
      refine V_ixor G eX2_change_69 ?_
      refine V_iand G eX2_change_70 ?_
      exact V_ri G hr eX2_change_71 h
    · rw [if_neg c1] at h
      by_cases c2 : a3 = (nI 2)
      · rw [if_pos c2] at h
        refine V_tswIn (v := (nI 2)) (off := 71) (tgt := 72) G eX2_change_1 c2 (by decide) (by decide) rfl rfl ?_
        refine V_aload_n (i := 0) G eX2_change_72 rfl rfl ?_
        refine V_iload_n (i := 1) G eX2_change_73 rfl rfl ?_
        refine V_iload_n (i := 2) G eX2_change_74 rfl rfl ?_
        obtain ⟨x5, h1, h⟩ := bdS h
        refine V_callI (As := [.int a1, .int a2]) (st := []) G lkX2_75 (Kin_toldOtherwise_ok h1) (by decide) rfl rfl (Nat.le_of_ble_eq_true rfl) eX2_change_75 ?_
        exact V_ri G hr eX2_change_78 h
      · rw [if_neg c2] at h
        refine V_tswOut G eX2_change_1 (fun k h1 h2 q => ?_) (tgt := 79) rfl ?_
        · rcases (show k = 0 ∨ k = 1 ∨ k = 2 by omega) with rfl | rfl | rfl
          · exact c0 q
          · exact c1 q
          · exact c2 q
        · refine V_aload_n (i := 0) G eX2_change_79 rfl rfl ?_
          refine V_get (v := .ref (wad w 10302 0)) G fgX2_16 rfl eX2_change_80 ?_
          refine V_iload_n (i := 1) G eX2_change_83 rfl rfl ?_
          refine V_aaldI (id := 302) G al_10302 eX2_change_84 h (fun r6 hr6 h => ?_)
          refine V_iload_n (i := 2) G eX2_change_85 rfl rfl ?_
          refine V_iald G al_302 hr6 eX2_change_86 h (fun x7 h => ?_)
          exact V_ri G hr eX2_change_87 h
theorem Kin_change_ok {l : Launch} {w : Wld} {a1 : Int32} {a2 : Int32} {a3 : Int32} {μ : Mem} {r : Int32} (h : Kin_change a1 a2 a3 μ = some r) : CtI l w yX2_change cX2_change 4 .int 3 [.ref (wad w 2 0), .int a1, .int a2, .int a3] μ r μ :=
  Ct_of (own := "PotBook$Kin") [some (.ref (wad w 2 0)), some (.int a1), some (.int a2), some (.int a3)] (by decide +kernel) rfl rfl (Nat.le_of_ble_eq_true rfl) fun p e s m args below meth c G hr => Kin_change_run G hr h
set_option maxRecDepth 100000 in
set_option maxHeartbeats 4000000 in
theorem B_changed_run {p : Program} {l : Launch} {e : Env} {R : Room} {s : State} {m : MethodId} {args : Array Value} {below : List Frame} {meth : Method} {c : Code} {w : Wld} (G : Cxt p R s m args meth c w cX11_changed 3 "PotBook" 4 0 0) (hr : meth.sig.returnType = some .int) {a1 : Int32} {a2 : Int32} {μ : Mem} {r : Int32} (h : B_changed a1 a2 μ = some r) : Vj p l e R s m args below meth c w 3 0 0 (MQ below (QI w r μ) args s 0 0 w.2.2.2) 0 [some (.ref (wad w 11 0)), some (.int a1), some (.int a2)] [] μ := by
  unfold B_changed at h
  refine V_aload_n (i := 0) G eX11_changed_0 rfl rfl ?_
  refine V_get (v := .ref (wad w 6 0)) G fgX11_28 rfl eX11_changed_1 ?_
  refine V_iload_n (i := 1) G eX11_changed_4 rfl rfl ?_
  obtain ⟨x1, h1, h⟩ := bdS h
  refine V_callI (As := [.int a1]) (st := []) G lkX11_156 (Pages_has_ok h1) (by decide) rfl rfl (Nat.le_of_ble_eq_true rfl) eX11_changed_5 ?_
  refine V_if_eq G eX11_changed_8 h (fun h => ?_) (fun h => ?_)
  · refine V_iconst (n := -1) (v := (-1)) G eX11_changed_39 rfl ?_
    exact V_ri G hr eX11_changed_40 h
  · refine V_iload_n (i := 2) G eX11_changed_11 rfl rfl ?_
    refine V_iconst (n := 0) (v := (nI 0)) G eX11_changed_12 rfl ?_
    refine V_iconst (n := 3) (v := (nI 3)) G eX11_changed_13 rfl ?_
    obtain ⟨x2, h1, h⟩ := bdS h
    refine V_callIS (As := [.int a2, .int (nI 0), .int (nI 3)]) (st := []) G lkX11_127 (B_isWithin_ok (μ := μ) h1) (by decide) rfl rfl (Nat.le_of_ble_eq_true rfl) eX11_changed_14 ?_
    refine V_if_eq G eX11_changed_17 h (fun h => ?_) (fun h => ?_)
    · refine V_iconst (n := -1) (v := (-1)) G eX11_changed_39 rfl ?_
      exact V_ri G hr eX11_changed_40 h
    · refine V_aload_n (i := 0) G eX11_changed_20 rfl rfl ?_
      refine V_get (v := .ref (wad w 6 0)) G fgX11_28 rfl eX11_changed_21 ?_
      refine V_aload_n (i := 0) G eX11_changed_24 rfl rfl ?_
      refine V_get (v := .ref (wad w 2 0)) G fgX11_71 rfl eX11_changed_25 ?_
      refine V_get (v := .ref (wad w 303 0)) G fgX11_295 rfl eX11_changed_28 ?_
      refine V_iload_n (i := 1) G eX11_changed_31 rfl rfl ?_
      refine V_iald G al_303 (by decide) eX11_changed_32 h (fun x3 h => ?_)
      obtain ⟨x4, h1, h⟩ := bdS h
      refine V_callI (As := [.int x3]) (st := []) G lkX11_156 (Pages_has_ok h1) (by decide) rfl rfl (Nat.le_of_ble_eq_true rfl) eX11_changed_33 ?_
      refine V_if_ne G eX11_changed_36 h (fun h => ?_) (fun h => ?_)
      · refine V_aload_n (i := 0) G eX11_changed_41 rfl rfl ?_
        refine V_get (v := .ref (wad w 2 0)) G fgX11_71 rfl eX11_changed_42 ?_
        refine V_iload_n (i := 1) G eX11_changed_45 rfl rfl ?_
        refine V_aload_n (i := 0) G eX11_changed_46 rfl rfl ?_
        refine V_get (v := .ref (wad w 2 0)) G fgX11_71 rfl eX11_changed_47 ?_
        refine V_get (v := .ref (wad w 303 0)) G fgX11_295 rfl eX11_changed_50 ?_
        refine V_iload_n (i := 1) G eX11_changed_53 rfl rfl ?_
        refine V_iald G al_303 (by decide) eX11_changed_54 h (fun x5 h => ?_)
        refine V_iload_n (i := 2) G eX11_changed_55 rfl rfl ?_
        obtain ⟨x6, h1, h⟩ := bdS h
        refine V_callI (As := [.int a1, .int x5, .int a2]) (st := []) G lkX11_320 (Kin_change_ok h1) (by decide) rfl rfl (Nat.le_of_ble_eq_true rfl) eX11_changed_56 ?_
        exact V_ri G hr eX11_changed_59 h
      · refine V_iconst (n := -1) (v := (-1)) G eX11_changed_39 rfl ?_
        exact V_ri G hr eX11_changed_40 h
theorem B_changed_ok {l : Launch} {w : Wld} {a1 : Int32} {a2 : Int32} {μ : Mem} {r : Int32} (h : B_changed a1 a2 μ = some r) : CtI l w yX11_changed cX11_changed 3 .int 4 [.ref (wad w 11 0), .int a1, .int a2] μ r μ :=
  Ct_of (own := "PotBook") [some (.ref (wad w 11 0)), some (.int a1), some (.int a2)] (by decide +kernel) rfl rfl (Nat.le_of_ble_eq_true rfl) fun p e s m args below meth c G hr => B_changed_run G hr h
set_option maxRecDepth 100000 in
set_option maxHeartbeats 4000000 in
theorem Kin_stepsUp_l1_ok {p : Program} {l : Launch} {e : Env} {R : Room} {s : State} {m : MethodId} {args : Array Value} {below : List Frame} {meth : Method} {c : Code} {w : Wld} {Q : State → Prop} (G : Cxt p R s m args meth c w cX2_stepsUp 5 "PotBook$Kin" 1 0 0) {μ : Mem} {o1 : Int32} : ∀ {n : Nat} {v2 : Int32} {v3 : Int32} {v4 : Int32}, Kin_stepsUp_l1 μ n v2 v3 v4 = some o1 → Vj p l e R s m args below meth c w 5 0 0 Q 40 [none, none, some (.int o1), none, none] [] μ → Vj p l e R s m args below meth c w 5 0 0 Q 12 [some (.ref (wad w 2 0)), none, some (.int v2), some (.int v3), some (.int v4)] [] μ := by
  intro n
  induction n with
  | zero => intro v2 v3 v4 h K; exact noS h
  | succ n ih =>
    intro v2 v3 v4 h K
    replace h : Kin_stepsUp_l1b μ (Kin_stepsUp_l1 μ n) v2 v3 v4 = some o1 := h
    unfold Kin_stepsUp_l1b at h
    refine V_iload G eX2_stepsUp_12 rfl ?_
    refine V_bipush (n := 16) (v := (nI 16)) G eX2_stepsUp_14 rfl ?_
    refine V_icmp_ge G eX2_stepsUp_16 h (fun h => ?_) (fun h => ?_)
    · cases h; exact V_sub (lS_n (lS_n (lS_s (lS_n (lS_n lS_0))))) K
    · refine V_iload_n (i := 3) G eX2_stepsUp_19 rfl rfl ?_
      refine V_iconst (n := -1) (v := (-1)) G eX2_stepsUp_20 rfl ?_
      refine V_icmp_eq G eX2_stepsUp_21 h (fun h => ?_) (fun h => ?_)
      · cases h; exact V_sub (lS_n (lS_n (lS_s (lS_n (lS_n lS_0))))) K
      · refine V_iinc (z := (nI 1)) (L' := (fun x1 => [some (.ref (wad w 2 0)), none, some (.int x1), some (.int v3), some (.int v4)])) G eX2_stepsUp_24 rfl rfl (by decide) rfl (fun _ => rfl) h (fun x1 h => ?_)
        refine V_aload_n (i := 0) G eX2_stepsUp_27 rfl rfl ?_
        refine V_get (v := .ref (wad w 303 0)) G fgX2_19 rfl eX2_stepsUp_28 ?_
        refine V_iload_n (i := 3) G eX2_stepsUp_31 rfl rfl ?_
        refine V_iald G al_303 (by decide) eX2_stepsUp_32 h (fun x2 h => ?_)
        refine V_istoreA_n (i := 3) (L' := [some (.ref (wad w 2 0)), none, some (.int x1), some (.int x2), some (.int v4)]) G rfl eX2_stepsUp_33 (by decide) rfl rfl ?_
        refine V_iinc (z := (nI 1)) (L' := (fun x3 => [some (.ref (wad w 2 0)), none, some (.int x1), some (.int x2), some (.int x3)])) G eX2_stepsUp_34 rfl rfl (by decide) rfl (fun _ => rfl) h (fun x3 h => ?_)
        refine V_goto G eX2_stepsUp_37 ?_
        exact (ih h K)
set_option maxRecDepth 100000 in
set_option maxHeartbeats 4000000 in
theorem Kin_stepsUp_run {p : Program} {l : Launch} {e : Env} {R : Room} {s : State} {m : MethodId} {args : Array Value} {below : List Frame} {meth : Method} {c : Code} {w : Wld} (G : Cxt p R s m args meth c w cX2_stepsUp 5 "PotBook$Kin" 1 0 0) (hr : meth.sig.returnType = some .int) {a1 : Int32} {μ : Mem} {r : Int32} (h : Kin_stepsUp a1 μ = some r) : Vj p l e R s m args below meth c w 5 0 0 (MQ below (QI w r μ) args s 0 0 w.2.2.2) 0 [some (.ref (wad w 2 0)), some (.int a1), none, none, none] [] μ := by
  unfold Kin_stepsUp at h
  refine V_iconst (n := 0) (v := (nI 0)) G eX2_stepsUp_0 rfl ?_
  refine V_istoreA_n (i := 2) (L' := [some (.ref (wad w 2 0)), some (.int a1), some (.int (nI 0)), none, none]) G rfl eX2_stepsUp_1 (by decide) rfl rfl ?_
  refine V_aload_n (i := 0) G eX2_stepsUp_2 rfl rfl ?_
  refine V_get (v := .ref (wad w 303 0)) G fgX2_19 rfl eX2_stepsUp_3 ?_
  refine V_iload_n (i := 1) G eX2_stepsUp_6 rfl rfl ?_
  refine V_iald G al_303 (by decide) eX2_stepsUp_7 h (fun x1 h => ?_)
  refine V_istoreA_n (i := 3) (L' := [some (.ref (wad w 2 0)), some (.int a1), some (.int (nI 0)), some (.int x1), none]) G rfl eX2_stepsUp_8 (by decide) rfl rfl ?_
  refine V_iconst (n := 0) (v := (nI 0)) G eX2_stepsUp_9 rfl ?_
  refine V_istoreA (i := 4) (L' := [some (.ref (wad w 2 0)), some (.int a1), some (.int (nI 0)), some (.int x1), some (.int (nI 0))]) G eX2_stepsUp_10 (by decide) rfl rfl ?_
  obtain ⟨x2, h1, h⟩ := bdS h
  refine V_sub (lS_s (lS_n (lS_s (lS_s (lS_s lS_0))))) ?_
  refine Kin_stepsUp_l1_ok G h1 ?_
  refine V_iload_n (i := 2) G eX2_stepsUp_40 rfl rfl ?_
  exact V_ri G hr eX2_stepsUp_41 h
theorem Kin_stepsUp_ok {l : Launch} {w : Wld} {a1 : Int32} {μ : Mem} {r : Int32} (h : Kin_stepsUp a1 μ = some r) : CtI l w yX2_stepsUp cX2_stepsUp 5 .int 1 [.ref (wad w 2 0), .int a1] μ r μ :=
  Ct_of (own := "PotBook$Kin") [some (.ref (wad w 2 0)), some (.int a1), none, none, none] (by decide +kernel) rfl rfl (Nat.le_of_ble_eq_true rfl) fun p e s m args below meth c G hr => Kin_stepsUp_run G hr h
set_option maxRecDepth 100000 in
set_option maxHeartbeats 4000000 in
theorem B_line_run {p : Program} {l : Launch} {e : Env} {R : Room} {s : State} {m : MethodId} {args : Array Value} {below : List Frame} {meth : Method} {c : Code} {w : Wld} (G : Cxt p R s m args meth c w cX11_line 2 "PotBook" 2 0 0) (hr : meth.sig.returnType = some .int) {a1 : Int32} {μ : Mem} {r : Int32} (h : B_line a1 μ = some r) : Vj p l e R s m args below meth c w 2 0 0 (MQ below (QI w r μ) args s 0 0 w.2.2.2) 0 [some (.ref (wad w 11 0)), some (.int a1)] [] μ := by
  unfold B_line at h
  refine V_aload_n (i := 0) G eX11_line_0 rfl rfl ?_
  refine V_get (v := .ref (wad w 6 0)) G fgX11_28 rfl eX11_line_1 ?_
  refine V_iload_n (i := 1) G eX11_line_4 rfl rfl ?_
  obtain ⟨x1, h1, h⟩ := bdS h
  refine V_callI (As := [.int a1]) (st := []) G lkX11_156 (Pages_has_ok h1) (by decide) rfl rfl (Nat.le_of_ble_eq_true rfl) eX11_line_5 ?_
  refine V_if_eq G eX11_line_8 h (fun h => ?_) (fun h => ?_)
  · refine V_iconst (n := -1) (v := (-1)) G eX11_line_22 rfl ?_
    exact V_ri G hr eX11_line_23 h
  · refine V_aload_n (i := 0) G eX11_line_11 rfl rfl ?_
    refine V_get (v := .ref (wad w 2 0)) G fgX11_71 rfl eX11_line_12 ?_
    refine V_iload_n (i := 1) G eX11_line_15 rfl rfl ?_
    obtain ⟨x2, h1, h⟩ := bdS h
    refine V_callI (As := [.int a1]) (st := []) G lkX11_323 (Kin_stepsUp_ok h1) (by decide) rfl rfl (Nat.le_of_ble_eq_true rfl) eX11_line_16 ?_
    refine V_goto G eX11_line_19 ?_
    exact V_ri G hr eX11_line_23 h
theorem B_line_ok {l : Launch} {w : Wld} {a1 : Int32} {μ : Mem} {r : Int32} (h : B_line a1 μ = some r) : CtI l w yX11_line cX11_line 2 .int 2 [.ref (wad w 11 0), .int a1] μ r μ :=
  Ct_of (own := "PotBook") [some (.ref (wad w 11 0)), some (.int a1)] (by decide +kernel) rfl rfl (Nat.le_of_ble_eq_true rfl) fun p e s m args below meth c G hr => B_line_run G hr h
set_option maxRecDepth 100000 in
set_option maxHeartbeats 4000000 in
theorem Kin_meeting_l1_ok {p : Program} {l : Launch} {e : Env} {R : Room} {s : State} {m : MethodId} {args : Array Value} {below : List Frame} {meth : Method} {c : Code} {w : Wld} {Q : State → Prop} (G : Cxt p R s m args meth c w cX2_meeting 6 "PotBook$Kin" 1 0 0) {μ : Mem} {o1 : Int32} : ∀ {n : Nat} {v3 : Int32} {v4 : Int32} {v5 : Int32}, Kin_meeting_l1 μ n v3 v4 v5 = some o1 → Vj p l e R s m args below meth c w 6 0 0 Q 52 [none, none, none, some (.int o1), none, none] [] μ → Vj p l e R s m args below meth c w 6 0 0 Q 8 [some (.ref (wad w 2 0)), none, none, some (.int v3), some (.int v4), some (.int v5)] [] μ := by
  intro n
  induction n with
  | zero => intro v3 v4 v5 h K; exact noS h
  | succ n ih =>
    intro v3 v4 v5 h K
    replace h : Kin_meeting_l1b μ (Kin_meeting_l1 μ n) v3 v4 v5 = some o1 := h
    unfold Kin_meeting_l1b at h
    refine V_iload G eX2_meeting_8 rfl ?_
    refine V_bipush (n := 32) (v := (nI 32)) G eX2_meeting_10 rfl ?_
    refine V_icmp_ge G eX2_meeting_12 h (fun h => ?_) (fun h => ?_)
    · cases h; exact V_sub (lS_n (lS_n (lS_n (lS_s (lS_n (lS_n lS_0)))))) K
    · refine V_iload_n (i := 3) G eX2_meeting_15 rfl rfl ?_
      refine V_iload G eX2_meeting_16 rfl ?_
      refine V_icmp_eq G eX2_meeting_18 h (fun h => ?_) (fun h => ?_)
      · cases h; exact V_sub (lS_n (lS_n (lS_n (lS_s (lS_n (lS_n lS_0)))))) K
      · refine V_iload_n (i := 3) G eX2_meeting_21 rfl rfl ?_
        refine V_iload G eX2_meeting_22 rfl ?_
        obtain ⟨⟨x3, x4⟩, hj, h⟩ := bdS h
        have J : Vj p l e R s m args below meth c w 6 0 0 Q 46 [some (.ref (wad w 2 0)), none, none, some (.int x3), some (.int x4), some (.int v5)] [] μ := by
          clear hj
          refine V_iinc (z := (nI 1)) (L' := (fun x5 => [some (.ref (wad w 2 0)), none, none, some (.int x3), some (.int x4), some (.int x5)])) G eX2_meeting_46 rfl rfl (by decide) rfl (fun _ => rfl) h (fun x5 h => ?_)
          refine V_goto G eX2_meeting_49 ?_
          exact (ih h K)
        replace h := hj
        clear hj
        refine V_icmp_le G eX2_meeting_24 h (fun h => ?_) (fun h => ?_)
        · refine V_aload_n (i := 0) G eX2_meeting_37 rfl rfl ?_
          refine V_get (v := .ref (wad w 303 0)) G fgX2_19 rfl eX2_meeting_38 ?_
          refine V_iload G eX2_meeting_41 rfl ?_
          refine V_iald G al_303 (by decide) eX2_meeting_43 h (fun x1 h => ?_)
          refine V_istoreA (i := 4) (L' := [some (.ref (wad w 2 0)), none, none, some (.int v3), some (.int x1), some (.int v5)]) G eX2_meeting_44 (by decide) rfl rfl ?_
          cases h; exact J
        · refine V_aload_n (i := 0) G eX2_meeting_27 rfl rfl ?_
          refine V_get (v := .ref (wad w 303 0)) G fgX2_19 rfl eX2_meeting_28 ?_
          refine V_iload_n (i := 3) G eX2_meeting_31 rfl rfl ?_
          refine V_iald G al_303 (by decide) eX2_meeting_32 h (fun x2 h => ?_)
          refine V_istoreA_n (i := 3) (L' := [some (.ref (wad w 2 0)), none, none, some (.int x2), some (.int v4), some (.int v5)]) G rfl eX2_meeting_33 (by decide) rfl rfl ?_
          refine V_goto G eX2_meeting_34 ?_
          cases h; exact J
set_option maxRecDepth 100000 in
set_option maxHeartbeats 4000000 in
theorem Kin_meeting_run {p : Program} {l : Launch} {e : Env} {R : Room} {s : State} {m : MethodId} {args : Array Value} {below : List Frame} {meth : Method} {c : Code} {w : Wld} (G : Cxt p R s m args meth c w cX2_meeting 6 "PotBook$Kin" 1 0 0) (hr : meth.sig.returnType = some .int) {a1 : Int32} {a2 : Int32} {μ : Mem} {r : Int32} (h : Kin_meeting a1 a2 μ = some r) : Vj p l e R s m args below meth c w 6 0 0 (MQ below (QI w r μ) args s 0 0 w.2.2.2) 0 [some (.ref (wad w 2 0)), some (.int a1), some (.int a2), none, none, none] [] μ := by
  unfold Kin_meeting at h
  refine V_iload_n (i := 1) G eX2_meeting_0 rfl rfl ?_
  refine V_istoreA_n (i := 3) (L' := [some (.ref (wad w 2 0)), some (.int a1), some (.int a2), some (.int a1), none, none]) G rfl eX2_meeting_1 (by decide) rfl rfl ?_
  refine V_iload_n (i := 2) G eX2_meeting_2 rfl rfl ?_
  refine V_istoreA (i := 4) (L' := [some (.ref (wad w 2 0)), some (.int a1), some (.int a2), some (.int a1), some (.int a2), none]) G eX2_meeting_3 (by decide) rfl rfl ?_
  refine V_iconst (n := 0) (v := (nI 0)) G eX2_meeting_5 rfl ?_
  refine V_istoreA (i := 5) (L' := [some (.ref (wad w 2 0)), some (.int a1), some (.int a2), some (.int a1), some (.int a2), some (.int (nI 0))]) G eX2_meeting_6 (by decide) rfl rfl ?_
  obtain ⟨x1, h1, h⟩ := bdS h
  refine V_sub (lS_s (lS_n (lS_n (lS_s (lS_s (lS_s lS_0)))))) ?_
  refine Kin_meeting_l1_ok G h1 ?_
  refine V_iload_n (i := 3) G eX2_meeting_52 rfl rfl ?_
  exact V_ri G hr eX2_meeting_53 h
theorem Kin_meeting_ok {l : Launch} {w : Wld} {a1 : Int32} {a2 : Int32} {μ : Mem} {r : Int32} (h : Kin_meeting a1 a2 μ = some r) : CtI l w yX2_meeting cX2_meeting 6 .int 1 [.ref (wad w 2 0), .int a1, .int a2] μ r μ :=
  Ct_of (own := "PotBook$Kin") [some (.ref (wad w 2 0)), some (.int a1), some (.int a2), none, none, none] (by decide +kernel) rfl rfl (Nat.le_of_ble_eq_true rfl) fun p e s m args below meth c G hr => Kin_meeting_run G hr h
set_option maxRecDepth 100000 in
set_option maxHeartbeats 4000000 in
theorem B_stem_run {p : Program} {l : Launch} {e : Env} {R : Room} {s : State} {m : MethodId} {args : Array Value} {below : List Frame} {meth : Method} {c : Code} {w : Wld} (G : Cxt p R s m args meth c w cX11_stem 3 "PotBook" 2 0 0) (hr : meth.sig.returnType = some .int) {a1 : Int32} {a2 : Int32} {μ : Mem} {r : Int32} (h : B_stem a1 a2 μ = some r) : Vj p l e R s m args below meth c w 3 0 0 (MQ below (QI w r μ) args s 0 0 w.2.2.2) 0 [some (.ref (wad w 11 0)), some (.int a1), some (.int a2)] [] μ := by
  unfold B_stem at h
  refine V_aload_n (i := 0) G eX11_stem_0 rfl rfl ?_
  refine V_get (v := .ref (wad w 6 0)) G fgX11_28 rfl eX11_stem_1 ?_
  refine V_iload_n (i := 1) G eX11_stem_4 rfl rfl ?_
  obtain ⟨x1, h1, h⟩ := bdS h
  refine V_callI (As := [.int a1]) (st := []) G lkX11_156 (Pages_has_ok h1) (by decide) rfl rfl (Nat.le_of_ble_eq_true rfl) eX11_stem_5 ?_
  refine V_if_eq G eX11_stem_8 h (fun h => ?_) (fun h => ?_)
  · refine V_iconst (n := -1) (v := (-1)) G eX11_stem_34 rfl ?_
    exact V_ri G hr eX11_stem_35 h
  · refine V_aload_n (i := 0) G eX11_stem_11 rfl rfl ?_
    refine V_get (v := .ref (wad w 6 0)) G fgX11_28 rfl eX11_stem_12 ?_
    refine V_iload_n (i := 2) G eX11_stem_15 rfl rfl ?_
    obtain ⟨x2, h1, h⟩ := bdS h
    refine V_callI (As := [.int a2]) (st := []) G lkX11_156 (Pages_has_ok h1) (by decide) rfl rfl (Nat.le_of_ble_eq_true rfl) eX11_stem_16 ?_
    refine V_if_eq G eX11_stem_19 h (fun h => ?_) (fun h => ?_)
    · refine V_iconst (n := -1) (v := (-1)) G eX11_stem_34 rfl ?_
      exact V_ri G hr eX11_stem_35 h
    · refine V_aload_n (i := 0) G eX11_stem_22 rfl rfl ?_
      refine V_get (v := .ref (wad w 2 0)) G fgX11_71 rfl eX11_stem_23 ?_
      refine V_iload_n (i := 1) G eX11_stem_26 rfl rfl ?_
      refine V_iload_n (i := 2) G eX11_stem_27 rfl rfl ?_
      obtain ⟨x3, h1, h⟩ := bdS h
      refine V_callI (As := [.int a1, .int a2]) (st := []) G lkX11_326 (Kin_meeting_ok h1) (by decide) rfl rfl (Nat.le_of_ble_eq_true rfl) eX11_stem_28 ?_
      refine V_goto G eX11_stem_31 ?_
      exact V_ri G hr eX11_stem_35 h
theorem B_stem_ok {l : Launch} {w : Wld} {a1 : Int32} {a2 : Int32} {μ : Mem} {r : Int32} (h : B_stem a1 a2 μ = some r) : CtI l w yX11_stem cX11_stem 3 .int 2 [.ref (wad w 11 0), .int a1, .int a2] μ r μ :=
  Ct_of (own := "PotBook") [some (.ref (wad w 11 0)), some (.int a1), some (.int a2)] (by decide +kernel) rfl rfl (Nat.le_of_ble_eq_true rfl) fun p e s m args below meth c G hr => B_stem_run G hr h
set_option maxRecDepth 100000 in
set_option maxHeartbeats 4000000 in
theorem Pages_meanTold_l1_ok {p : Program} {l : Launch} {e : Env} {R : Room} {s : State} {m : MethodId} {args : Array Value} {below : List Frame} {meth : Method} {c : Code} {w : Wld} {Q : State → Prop} (G : Cxt p R s m args meth c w cX6_meanTold 7 "PotBook$Pages" 2 0 0) {v1 : Int32} {v2 : Int32} {μ : Mem} {o1 : Int32} {o2 : Int32} : ∀ {n : Nat} {v3 : Int32} {v4 : Int32} {v5 : Int32}, Pages_meanTold_l1 v1 v2 μ n v3 v4 v5 = some (o1, o2) → Vj p l e R s m args below meth c w 7 0 0 Q 113 [none, none, none, some (.int o1), some (.int o2), none, none] [] μ → Vj p l e R s m args below meth c w 7 0 0 Q 23 [some (.ref (wad w 6 0)), some (.int v1), some (.int v2), some (.int v3), some (.int v4), some (.int v5), none] [] μ := by
  intro n
  induction n with
  | zero => intro v3 v4 v5 h K; exact noS h
  | succ n ih =>
    intro v3 v4 v5 h K
    replace h : Pages_meanTold_l1b v1 v2 μ (Pages_meanTold_l1 v1 v2 μ n) v3 v4 v5 = some (o1, o2) := h
    unfold Pages_meanTold_l1b at h
    refine V_iload G eX6_meanTold_23 rfl ?_
    refine V_aload_n (i := 0) G eX6_meanTold_25 rfl rfl ?_
    refine V_get (v := .int (mI μ 712 0 0)) G fgX6_52 rfl eX6_meanTold_26 ?_
    refine V_icmp_ge G eX6_meanTold_29 h (fun h => ?_) (fun h => ?_)
    · cases h; exact V_sub (lS_n (lS_n (lS_n (lS_s (lS_s (lS_n (lS_n lS_0))))))) K
    · refine V_aload_n (i := 0) G eX6_meanTold_32 rfl rfl ?_
      refine V_iload G eX6_meanTold_33 rfl ?_
      refine V_iload_n (i := 2) G eX6_meanTold_35 rfl rfl ?_
      obtain ⟨x1, h1, h⟩ := bdS h
      refine V_callI (As := [.int v5, .int v2]) (st := []) G lkX6_124 (Pages_placeOf_ok h1) (by decide) rfl rfl (Nat.le_of_ble_eq_true rfl) eX6_meanTold_36 ?_
      refine V_istoreA (i := 6) (L' := [some (.ref (wad w 6 0)), some (.int v1), some (.int v2), some (.int v3), some (.int v4), some (.int v5), some (.int x1)]) G eX6_meanTold_39 (by decide) rfl rfl ?_
      refine V_iload G eX6_meanTold_41 rfl ?_
      refine V_iconst (n := -1) (v := (-1)) G eX6_meanTold_43 rfl ?_
      obtain ⟨⟨x13, x14⟩, hj, h⟩ := bdS h
      have J : Vj p l e R s m args below meth c w 7 0 0 Q 107 [some (.ref (wad w 6 0)), some (.int v1), some (.int v2), some (.int x13), some (.int x14), some (.int v5), none] [] μ := by
        clear hj
        refine V_iinc (z := (nI 1)) (L' := (fun x15 => [some (.ref (wad w 6 0)), some (.int v1), some (.int v2), some (.int x13), some (.int x14), some (.int x15), none])) G eX6_meanTold_107 rfl rfl (by decide) rfl (fun _ => rfl) h (fun x15 h => ?_)
        refine V_goto G eX6_meanTold_110 ?_
        exact (ih h K)
      replace h := hj
      clear hj
      refine V_icmp_eq G eX6_meanTold_44 h (fun h => ?_) (fun h => ?_)
      · cases h; exact V_sub (lS_s (lS_s (lS_s (lS_s (lS_s (lS_s (lS_n lS_0))))))) J
      · refine V_aload_n (i := 0) G eX6_meanTold_47 rfl rfl ?_
        refine V_get (v := .ref (wad w 711 0)) G fgX6_41 rfl eX6_meanTold_48 ?_
        refine V_iload G eX6_meanTold_51 rfl ?_
        refine V_iald G al_711 (by decide) eX6_meanTold_53 h (fun x2 h => ?_)
        refine V_aload_n (i := 0) G eX6_meanTold_54 rfl rfl ?_
        refine V_get (v := .ref (wad w 711 0)) G fgX6_41 rfl eX6_meanTold_55 ?_
        refine V_iload_n (i := 1) G eX6_meanTold_58 rfl rfl ?_
        refine V_iald G al_711 (by decide) eX6_meanTold_59 h (fun x3 h => ?_)
        refine V_icmp_ne G eX6_meanTold_60 h (fun h => ?_) (fun h => ?_)
        · cases h; exact V_sub (lS_s (lS_s (lS_s (lS_s (lS_s (lS_s (lS_n lS_0))))))) J
        · refine V_aload_n (i := 0) G eX6_meanTold_63 rfl rfl ?_
          refine V_get (v := .ref (wad w 10704 0)) G fgX6_20 rfl eX6_meanTold_64 ?_
          refine V_iload G eX6_meanTold_67 rfl ?_
          refine V_aaldI (id := 704) G al_10704 eX6_meanTold_69 h (fun r4 hr4 h => ?_)
          refine V_iload G eX6_meanTold_70 rfl ?_
          refine V_iald G al_704 hr4 eX6_meanTold_72 h (fun x5 h => ?_)
          refine V_if_le G eX6_meanTold_73 h (fun h => ?_) (fun h => ?_)
          · cases h; exact V_sub (lS_s (lS_s (lS_s (lS_s (lS_s (lS_s (lS_n lS_0))))))) J
          · refine V_iinc (z := (nI 1)) (L' := (fun x6 => [some (.ref (wad w 6 0)), some (.int v1), some (.int v2), some (.int x6), some (.int v4), some (.int v5), some (.int x1)])) G eX6_meanTold_76 rfl rfl (by decide) rfl (fun _ => rfl) h (fun x6 h => ?_)
            refine V_iload G eX6_meanTold_79 rfl ?_
            refine V_aload_n (i := 0) G eX6_meanTold_81 rfl rfl ?_
            refine V_get (v := .ref (wad w 10704 0)) G fgX6_20 rfl eX6_meanTold_82 ?_
            refine V_iload G eX6_meanTold_85 rfl ?_
            refine V_aaldI (id := 704) G al_10704 eX6_meanTold_87 h (fun r7 hr7 h => ?_)
            refine V_iload G eX6_meanTold_88 rfl ?_
            refine V_iald G al_704 hr7 eX6_meanTold_90 h (fun x8 h => ?_)
            refine V_aload_n (i := 0) G eX6_meanTold_91 rfl rfl ?_
            refine V_get (v := .ref (wad w 10705 0)) G fgX6_23 rfl eX6_meanTold_92 ?_
            refine V_iload G eX6_meanTold_95 rfl ?_
            refine V_aaldI (id := 705) G al_10705 eX6_meanTold_97 h (fun r9 hr9 h => ?_)
            refine V_iload G eX6_meanTold_98 rfl ?_
            refine V_iald G al_705 hr9 eX6_meanTold_100 h (fun x10 h => ?_)
            refine V_iadd G eX6_meanTold_101 ?_
            refine V_iconst (n := 2) (v := (nI 2)) G eX6_meanTold_102 rfl ?_
            refine V_idiv G eX6_meanTold_103 h (fun x11 h => ?_)
            refine V_iadd G eX6_meanTold_104 ?_
            refine V_istore (i := 4) (L' := (fun x12 => [some (.ref (wad w 6 0)), some (.int v1), some (.int v2), some (.int x6), some (.int x12), some (.int v5), some (.int x1)])) G eX6_meanTold_105 (by decide) rfl (fun _ => rfl) h (fun x12 h => ?_)
            cases h; exact V_sub (lS_s (lS_s (lS_s (lS_s (lS_s (lS_s (lS_n lS_0))))))) J
set_option maxRecDepth 100000 in
set_option maxHeartbeats 4000000 in
theorem Pages_meanTold_run {p : Program} {l : Launch} {e : Env} {R : Room} {s : State} {m : MethodId} {args : Array Value} {below : List Frame} {meth : Method} {c : Code} {w : Wld} (G : Cxt p R s m args meth c w cX6_meanTold 7 "PotBook$Pages" 2 0 0) (hr : meth.sig.returnType = some .int) {a1 : Int32} {a2 : Int32} {μ : Mem} {r : Int32} (h : Pages_meanTold a1 a2 μ = some r) : Vj p l e R s m args below meth c w 7 0 0 (MQ below (QI w r μ) args s 0 0 w.2.2.2) 0 [some (.ref (wad w 6 0)), some (.int a1), some (.int a2), none, none, none, none] [] μ := by
  unfold Pages_meanTold at h
  refine V_aload_n (i := 0) G eX6_meanTold_0 rfl rfl ?_
  refine V_get (v := .ref (wad w 707 0)) G fgX6_29 rfl eX6_meanTold_1 ?_
  refine V_iload_n (i := 1) G eX6_meanTold_4 rfl rfl ?_
  refine V_iald G al_707 (by decide) eX6_meanTold_5 h (fun x1 h => ?_)
  refine V_iload_n (i := 2) G eX6_meanTold_6 rfl rfl ?_
  obtain ⟨x2, h1, h⟩ := bdS h
  refine V_callIS (As := [.int x1, .int a2]) (st := []) G lkX6_90 (B_holdsBit_ok (μ := μ) h1) (by decide) rfl rfl (Nat.le_of_ble_eq_true rfl) eX6_meanTold_7 ?_
  refine V_if_ne G eX6_meanTold_10 h (fun h => ?_) (fun h => ?_)
  · refine V_iconst (n := 0) (v := (nI 0)) G eX6_meanTold_15 rfl ?_
    refine V_istoreA_n (i := 3) (L' := [some (.ref (wad w 6 0)), some (.int a1), some (.int a2), some (.int (nI 0)), none, none, none]) G rfl eX6_meanTold_16 (by decide) rfl rfl ?_
    refine V_iconst (n := 0) (v := (nI 0)) G eX6_meanTold_17 rfl ?_
    refine V_istoreA (i := 4) (L' := [some (.ref (wad w 6 0)), some (.int a1), some (.int a2), some (.int (nI 0)), some (.int (nI 0)), none, none]) G eX6_meanTold_18 (by decide) rfl rfl ?_
    refine V_iconst (n := 0) (v := (nI 0)) G eX6_meanTold_20 rfl ?_
    refine V_istoreA (i := 5) (L' := [some (.ref (wad w 6 0)), some (.int a1), some (.int a2), some (.int (nI 0)), some (.int (nI 0)), some (.int (nI 0)), none]) G eX6_meanTold_21 (by decide) rfl rfl ?_
    obtain ⟨⟨x3, x4⟩, h1, h⟩ := bdS h
    refine Pages_meanTold_l1_ok G h1 ?_
    refine V_iload_n (i := 3) G eX6_meanTold_113 rfl rfl ?_
    refine V_if_le G eX6_meanTold_114 h (fun h => ?_) (fun h => ?_)
    · refine V_iconst (n := -1) (v := (-1)) G eX6_meanTold_124 rfl ?_
      exact V_ri G hr eX6_meanTold_125 h
    · refine V_iload G eX6_meanTold_117 rfl ?_
      refine V_iload_n (i := 3) G eX6_meanTold_119 rfl rfl ?_
      refine V_idiv G eX6_meanTold_120 h (fun x5 h => ?_)
      refine V_goto G eX6_meanTold_121 ?_
      exact V_ri G hr eX6_meanTold_125 h
  · refine V_iconst (n := -1) (v := (-1)) G eX6_meanTold_13 rfl ?_
    exact V_ri G hr eX6_meanTold_14 h
theorem Pages_meanTold_ok {l : Launch} {w : Wld} {a1 : Int32} {a2 : Int32} {μ : Mem} {r : Int32} (h : Pages_meanTold a1 a2 μ = some r) : CtI l w yX6_meanTold cX6_meanTold 7 .int 2 [.ref (wad w 6 0), .int a1, .int a2] μ r μ :=
  Ct_of (own := "PotBook$Pages") [some (.ref (wad w 6 0)), some (.int a1), some (.int a2), none, none, none, none] (by decide +kernel) rfl rfl (Nat.le_of_ble_eq_true rfl) fun p e s m args below meth c G hr => Pages_meanTold_run G hr h
set_option maxRecDepth 100000 in
set_option maxHeartbeats 4000000 in
theorem B_guess_run {p : Program} {l : Launch} {e : Env} {R : Room} {s : State} {m : MethodId} {args : Array Value} {below : List Frame} {meth : Method} {c : Code} {w : Wld} (G : Cxt p R s m args meth c w cX11_guess 3 "PotBook" 3 0 0) (hr : meth.sig.returnType = some .int) {a1 : Int32} {a2 : Int32} {μ : Mem} {r : Int32} (h : B_guess a1 a2 μ = some r) : Vj p l e R s m args below meth c w 3 0 0 (MQ below (QI w r μ) args s 0 0 w.2.2.2) 0 [some (.ref (wad w 11 0)), some (.int a1), some (.int a2)] [] μ := by
  unfold B_guess at h
  refine V_aload_n (i := 0) G eX11_guess_0 rfl rfl ?_
  refine V_get (v := .ref (wad w 6 0)) G fgX11_28 rfl eX11_guess_1 ?_
  refine V_iload_n (i := 1) G eX11_guess_4 rfl rfl ?_
  obtain ⟨x1, h1, h⟩ := bdS h
  refine V_callI (As := [.int a1]) (st := []) G lkX11_156 (Pages_has_ok h1) (by decide) rfl rfl (Nat.le_of_ble_eq_true rfl) eX11_guess_5 ?_
  refine V_if_eq G eX11_guess_8 h (fun h => ?_) (fun h => ?_)
  · refine V_iconst (n := -1) (v := (-1)) G eX11_guess_34 rfl ?_
    exact V_ri G hr eX11_guess_35 h
  · refine V_aload_n (i := 0) G eX11_guess_11 rfl rfl ?_
    refine V_get (v := .ref (wad w 7 0)) G fgX11_19 rfl eX11_guess_12 ?_
    refine V_iload_n (i := 2) G eX11_guess_15 rfl rfl ?_
    obtain ⟨x2, h1, h⟩ := bdS h
    refine V_callI (As := [.int a2]) (st := []) G lkX11_142 (Pantry_has_ok h1) (by decide) rfl rfl (Nat.le_of_ble_eq_true rfl) eX11_guess_16 ?_
    refine V_if_eq G eX11_guess_19 h (fun h => ?_) (fun h => ?_)
    · refine V_iconst (n := -1) (v := (-1)) G eX11_guess_34 rfl ?_
      exact V_ri G hr eX11_guess_35 h
    · refine V_aload_n (i := 0) G eX11_guess_22 rfl rfl ?_
      refine V_get (v := .ref (wad w 6 0)) G fgX11_28 rfl eX11_guess_23 ?_
      refine V_iload_n (i := 1) G eX11_guess_26 rfl rfl ?_
      refine V_iload_n (i := 2) G eX11_guess_27 rfl rfl ?_
      obtain ⟨x3, h1, h⟩ := bdS h
      refine V_callI (As := [.int a1, .int a2]) (st := []) G lkX11_329 (Pages_meanTold_ok h1) (by decide) rfl rfl (Nat.le_of_ble_eq_true rfl) eX11_guess_28 ?_
      refine V_goto G eX11_guess_31 ?_
      exact V_ri G hr eX11_guess_35 h
theorem B_guess_ok {l : Launch} {w : Wld} {a1 : Int32} {a2 : Int32} {μ : Mem} {r : Int32} (h : B_guess a1 a2 μ = some r) : CtI l w yX11_guess cX11_guess 3 .int 3 [.ref (wad w 11 0), .int a1, .int a2] μ r μ :=
  Ct_of (own := "PotBook") [some (.ref (wad w 11 0)), some (.int a1), some (.int a2)] (by decide +kernel) rfl rfl (Nat.le_of_ble_eq_true rfl) fun p e s m args below meth c G hr => B_guess_run G hr h
set_option maxRecDepth 100000 in
set_option maxHeartbeats 4000000 in
theorem Taster_offGuesses_l1_ok {p : Program} {l : Launch} {e : Env} {R : Room} {s : State} {m : MethodId} {args : Array Value} {below : List Frame} {meth : Method} {c : Code} {w : Wld} {Q : State → Prop} (G : Cxt p R s m args meth c w cX10_offGuesses 4 "PotBook$Taster" 2 0 0) {v1 : Int32} {μ : Mem} {o1 : Int32} : ∀ {n : Nat} {v2 : Int32} {v3 : Int32}, Taster_offGuesses_l1 v1 μ n v2 v3 = some o1 → Vj p l e R s m args below meth c w 4 0 0 Q 55 [none, none, some (.int o1), none] [] μ → Vj p l e R s m args below meth c w 4 0 0 Q 4 [some (.ref (wad w 10 0)), some (.int v1), some (.int v2), some (.int v3)] [] μ := by
  intro n
  induction n with
  | zero => intro v2 v3 h K; exact noS h
  | succ n ih =>
    intro v2 v3 h K
    replace h : Taster_offGuesses_l1b v1 μ (Taster_offGuesses_l1 v1 μ n) v2 v3 = some o1 := h
    unfold Taster_offGuesses_l1b at h
    refine V_iload_n (i := 3) G eX10_offGuesses_4 rfl rfl ?_
    refine V_aload_n (i := 0) G eX10_offGuesses_5 rfl rfl ?_
    refine V_get (v := .ref (wad w 6 0)) G fgX10_24 rfl eX10_offGuesses_6 ?_
    refine V_get (v := .ref (wad w 702 0)) G fgX10_62 rfl eX10_offGuesses_9 ?_
    refine V_iload_n (i := 1) G eX10_offGuesses_12 rfl rfl ?_
    refine V_iald G al_702 (by decide) eX10_offGuesses_13 h (fun x1 h => ?_)
    refine V_icmp_ge G eX10_offGuesses_14 h (fun h => ?_) (fun h => ?_)
    · cases h; exact V_sub (lS_n (lS_n (lS_s (lS_n lS_0)))) K
    · refine V_aload_n (i := 0) G eX10_offGuesses_17 rfl rfl ?_
      refine V_get (v := .ref (wad w 1105 0)) G fgX10_15 rfl eX10_offGuesses_18 ?_
      refine V_iload_n (i := 3) G eX10_offGuesses_21 rfl rfl ?_
      refine V_iald G al_1105 (by decide) eX10_offGuesses_22 h (fun x2 h => ?_)
      refine V_iconst (n := -1) (v := (-1)) G eX10_offGuesses_23 rfl ?_
      obtain ⟨x6, hj, h⟩ := bdS h
      have J : Vj p l e R s m args below meth c w 4 0 0 Q 49 [some (.ref (wad w 10 0)), some (.int v1), some (.int x6), some (.int v3)] [] μ := by
        clear hj
        refine V_iinc (z := (nI 1)) (L' := (fun x7 => [some (.ref (wad w 10 0)), some (.int v1), some (.int x6), some (.int x7)])) G eX10_offGuesses_49 rfl rfl (by decide) rfl (fun _ => rfl) h (fun x7 h => ?_)
        refine V_goto G eX10_offGuesses_52 ?_
        exact (ih h K)
      replace h := hj
      clear hj
      refine V_icmp_eq G eX10_offGuesses_24 h (fun h => ?_) (fun h => ?_)
      · cases h; exact J
      · refine V_iload_n (i := 2) G eX10_offGuesses_27 rfl rfl ?_
        refine V_aload_n (i := 0) G eX10_offGuesses_28 rfl rfl ?_
        refine V_get (v := .ref (wad w 8 0)) G fgX10_36 rfl eX10_offGuesses_29 ?_
        refine V_get (v := .ref (wad w 917 0)) G fgX10_102 rfl eX10_offGuesses_32 ?_
        refine V_iload_n (i := 3) G eX10_offGuesses_35 rfl rfl ?_
        refine V_iald G al_917 (by decide) eX10_offGuesses_36 h (fun x3 h => ?_)
        refine V_aload_n (i := 0) G eX10_offGuesses_37 rfl rfl ?_
        refine V_get (v := .ref (wad w 1105 0)) G fgX10_15 rfl eX10_offGuesses_38 ?_
        refine V_iload_n (i := 3) G eX10_offGuesses_41 rfl rfl ?_
        refine V_iald G al_1105 (by decide) eX10_offGuesses_42 h (fun x4 h => ?_)
        refine V_isub G eX10_offGuesses_43 ?_
        refine V_jAbs G mkX10_122 (by decide) (Nat.le_of_ble_eq_true rfl) eX10_offGuesses_44 ?_
        refine V_iadd G eX10_offGuesses_47 ?_
        refine V_istore_n (i := 2) (L' := (fun x5 => [some (.ref (wad w 10 0)), some (.int v1), some (.int x5), some (.int v3)])) G rfl eX10_offGuesses_48 (by decide) rfl (fun _ => rfl) h (fun x5 h => ?_)
        cases h; exact J
set_option maxRecDepth 100000 in
set_option maxHeartbeats 4000000 in
theorem Taster_offGuesses_run {p : Program} {l : Launch} {e : Env} {R : Room} {s : State} {m : MethodId} {args : Array Value} {below : List Frame} {meth : Method} {c : Code} {w : Wld} (G : Cxt p R s m args meth c w cX10_offGuesses 4 "PotBook$Taster" 2 0 0) (hr : meth.sig.returnType = some .int) {a1 : Int32} {μ : Mem} {r : Int32} (h : Taster_offGuesses a1 μ = some r) : Vj p l e R s m args below meth c w 4 0 0 (MQ below (QI w r μ) args s 0 0 w.2.2.2) 0 [some (.ref (wad w 10 0)), some (.int a1), none, none] [] μ := by
  unfold Taster_offGuesses at h
  refine V_iconst (n := 0) (v := (nI 0)) G eX10_offGuesses_0 rfl ?_
  refine V_istoreA_n (i := 2) (L' := [some (.ref (wad w 10 0)), some (.int a1), some (.int (nI 0)), none]) G rfl eX10_offGuesses_1 (by decide) rfl rfl ?_
  refine V_iconst (n := 0) (v := (nI 0)) G eX10_offGuesses_2 rfl ?_
  refine V_istoreA_n (i := 3) (L' := [some (.ref (wad w 10 0)), some (.int a1), some (.int (nI 0)), some (.int (nI 0))]) G rfl eX10_offGuesses_3 (by decide) rfl rfl ?_
  obtain ⟨x1, h1, h⟩ := bdS h
  refine Taster_offGuesses_l1_ok G h1 ?_
  refine V_iload_n (i := 2) G eX10_offGuesses_55 rfl rfl ?_
  exact V_ri G hr eX10_offGuesses_56 h
theorem Taster_offGuesses_ok {l : Launch} {w : Wld} {a1 : Int32} {μ : Mem} {r : Int32} (h : Taster_offGuesses a1 μ = some r) : CtI l w yX10_offGuesses cX10_offGuesses 4 .int 2 [.ref (wad w 10 0), .int a1] μ r μ :=
  Ct_of (own := "PotBook$Taster") [some (.ref (wad w 10 0)), some (.int a1), none, none] (by decide +kernel) rfl rfl (Nat.le_of_ble_eq_true rfl) fun p e s m args below meth c G hr => Taster_offGuesses_run G hr h
set_option maxRecDepth 100000 in
set_option maxHeartbeats 4000000 in
theorem Taster_leastOff_l1_ok {p : Program} {l : Launch} {e : Env} {R : Room} {s : State} {m : MethodId} {args : Array Value} {below : List Frame} {meth : Method} {c : Code} {w : Wld} {Q : State → Prop} (G : Cxt p R s m args meth c w cX10_leastOff 7 "PotBook$Taster" 4 0 0) {v1 : Int32} {o1 : Int32} {μo : Mem} : ∀ {n : Nat} {v2 : Int32} {v3 : Int32} {μ : Mem}, Taster_leastOff_l1 v1 n v2 v3 μ = some (o1, μo) → Vj p l e R s m args below meth c w 7 0 0 Q 68 [some (.ref (wad w 10 0)), some (.int v1), some (.int o1), none, none, none, none] [] μo → Vj p l e R s m args below meth c w 7 0 0 Q 4 [some (.ref (wad w 10 0)), some (.int v1), some (.int v2), some (.int v3), none, none, none] [] μ := by
  intro n
  induction n with
  | zero => intro v2 v3 μ h K; exact noS h
  | succ n ih =>
    intro v2 v3 μ h K
    replace h : Taster_leastOff_l1b v1 (Taster_leastOff_l1 v1 n) v2 v3 μ = some (o1, μo) := h
    unfold Taster_leastOff_l1b at h
    refine V_iload_n (i := 3) G eX10_leastOff_4 rfl rfl ?_
    refine V_aload_n (i := 0) G eX10_leastOff_5 rfl rfl ?_
    refine V_get (v := .ref (wad w 6 0)) G fgX10_24 rfl eX10_leastOff_6 ?_
    refine V_get (v := .ref (wad w 702 0)) G fgX10_62 rfl eX10_leastOff_9 ?_
    refine V_iload_n (i := 1) G eX10_leastOff_12 rfl rfl ?_
    refine V_iald G al_702 (by decide) eX10_leastOff_13 h (fun x1 h => ?_)
    refine V_icmp_ge G eX10_leastOff_14 h (fun h => ?_) (fun h => ?_)
    · cases h; exact V_sub (lS_s (lS_s (lS_s (lS_n (lS_n (lS_n (lS_n lS_0))))))) K
    · refine V_aload_n (i := 0) G eX10_leastOff_17 rfl rfl ?_
      refine V_get (v := .ref (wad w 1105 0)) G fgX10_15 rfl eX10_leastOff_18 ?_
      refine V_iload_n (i := 3) G eX10_leastOff_21 rfl rfl ?_
      refine V_aload_n (i := 0) G eX10_leastOff_22 rfl rfl ?_
      refine V_get (v := .ref (wad w 6 0)) G fgX10_24 rfl eX10_leastOff_23 ?_
      refine V_iload_n (i := 1) G eX10_leastOff_26 rfl rfl ?_
      refine V_aload_n (i := 0) G eX10_leastOff_27 rfl rfl ?_
      refine V_get (v := .ref (wad w 6 0)) G fgX10_24 rfl eX10_leastOff_28 ?_
      refine V_get (v := .ref (wad w 10703 0)) G fgX10_70 rfl eX10_leastOff_31 ?_
      refine V_iload_n (i := 1) G eX10_leastOff_34 rfl rfl ?_
      refine V_aaldI (id := 703) G al_10703 eX10_leastOff_35 h (fun r2 hr2 h => ?_)
      refine V_iload_n (i := 3) G eX10_leastOff_36 rfl rfl ?_
      refine V_iald G al_703 hr2 eX10_leastOff_37 h (fun x3 h => ?_)
      obtain ⟨x4, h1, h⟩ := bdS h
      refine V_callI (As := [.int v1, .int x3]) (st := [.int v3, .ref (wad w 1105 0)]) G lkX10_113 (Pages_meanTold_ok h1) (by decide) rfl rfl (Nat.le_of_ble_eq_true rfl) eX10_leastOff_38 ?_
      refine V_iast G al_1105 (by decide) eX10_leastOff_41 h (fun μ5 h => ?_)
      refine V_iload_n (i := 2) G eX10_leastOff_42 rfl rfl ?_
      obtain ⟨x7, hj, h⟩ := bdS h
      have J : Vj p l e R s m args below meth c w 7 0 0 Q 61 [some (.ref (wad w 10 0)), some (.int v1), none, some (.int v3), none, none, none] [.int x7] μ5 := by
        clear hj
        refine V_istoreA_n (i := 2) (L' := [some (.ref (wad w 10 0)), some (.int v1), some (.int x7), some (.int v3), none, none, none]) G rfl eX10_leastOff_61 (by decide) rfl rfl ?_
        refine V_iinc (z := (nI 1)) (L' := (fun x8 => [some (.ref (wad w 10 0)), some (.int v1), some (.int x7), some (.int x8), none, none, none])) G eX10_leastOff_62 rfl rfl (by decide) rfl (fun _ => rfl) h (fun x8 h => ?_)
        refine V_goto G eX10_leastOff_65 ?_
        exact (ih h K)
      replace h := hj
      clear hj
      refine V_if_ne G eX10_leastOff_43 h (fun h => ?_) (fun h => ?_)
      · refine V_iconst (n := 1) (v := (nI 1)) G eX10_leastOff_56 rfl ?_
        refine V_goto G eX10_leastOff_57 ?_
        cases h; exact V_sub (lS_s (lS_s (lS_n (lS_s (lS_n (lS_n (lS_n lS_0))))))) J
      · refine V_aload_n (i := 0) G eX10_leastOff_46 rfl rfl ?_
        refine V_get (v := .ref (wad w 1105 0)) G fgX10_15 rfl eX10_leastOff_47 ?_
        refine V_iload_n (i := 3) G eX10_leastOff_50 rfl rfl ?_
        refine V_iald G al_1105 (by decide) eX10_leastOff_51 h (fun x6 h => ?_)
        refine V_iconst (n := -1) (v := (-1)) G eX10_leastOff_52 rfl ?_
        refine V_icmp_eq G eX10_leastOff_53 h (fun h => ?_) (fun h => ?_)
        · refine V_iconst (n := 0) (v := (nI 0)) G eX10_leastOff_60 rfl ?_
          cases h; exact V_sub (lS_s (lS_s (lS_n (lS_s (lS_n (lS_n (lS_n lS_0))))))) J
        · refine V_iconst (n := 1) (v := (nI 1)) G eX10_leastOff_56 rfl ?_
          refine V_goto G eX10_leastOff_57 ?_
          cases h; exact V_sub (lS_s (lS_s (lS_n (lS_s (lS_n (lS_n (lS_n lS_0))))))) J
set_option maxRecDepth 100000 in
set_option maxHeartbeats 4000000 in
theorem Taster_leastOff_l2_ok {p : Program} {l : Launch} {e : Env} {R : Room} {s : State} {m : MethodId} {args : Array Value} {below : List Frame} {meth : Method} {c : Code} {w : Wld} {Q : State → Prop} (G : Cxt p R s m args meth c w cX10_leastOff 7 "PotBook$Taster" 4 0 0) {v1 : Int32} {v2 : Int32} {o1 : Int32} {μo : Mem} : ∀ {n : Nat} {v3 : Int32} {v4 : Int32} {v5 : Int32} {μ : Mem}, Taster_leastOff_l2 v1 v2 n v3 v4 v5 μ = some (o1, μo) → Vj p l e R s m args below meth c w 7 0 0 Q 129 [none, none, none, some (.int o1), none, none, none] [] μo → Vj p l e R s m args below meth c w 7 0 0 Q 77 [some (.ref (wad w 10 0)), some (.int v1), some (.int v2), some (.int v3), some (.int v4), some (.int v5), none] [] μ := by
  intro n
  induction n with
  | zero => intro v3 v4 v5 μ h K; exact noS h
  | succ n ih =>
    intro v3 v4 v5 μ h K
    replace h : Taster_leastOff_l2b v1 v2 (Taster_leastOff_l2 v1 v2 n) v3 v4 v5 μ = some (o1, μo) := h
    unfold Taster_leastOff_l2b at h
    refine V_iload G eX10_leastOff_77 rfl ?_
    refine V_aload_n (i := 0) G eX10_leastOff_79 rfl rfl ?_
    refine V_get (v := .ref (wad w 8 0)) G fgX10_36 rfl eX10_leastOff_80 ?_
    obtain ⟨x1, h1, h⟩ := bdS h
    refine V_callI (As := []) (st := [.int v5]) G lkX10_46 (Pot_shownCount_ok h1) (by decide) rfl rfl (Nat.le_of_ble_eq_true rfl) eX10_leastOff_83 ?_
    refine V_icmp_ge G eX10_leastOff_86 h (fun h => ?_) (fun h => ?_)
    · cases h; exact V_sub (lS_n (lS_n (lS_n (lS_s (lS_n (lS_n (lS_n lS_0))))))) K
    · refine V_iload_n (i := 2) G eX10_leastOff_89 rfl rfl ?_
      refine V_if_eq G eX10_leastOff_90 h (fun h => ?_) (fun h => ?_)
      · cases h; exact V_sub (lS_n (lS_n (lS_n (lS_s (lS_n (lS_n (lS_n lS_0))))))) K
      · refine V_aload_n (i := 0) G eX10_leastOff_93 rfl rfl ?_
        refine V_get (v := .ref (wad w 8 0)) G fgX10_36 rfl eX10_leastOff_94 ?_
        refine V_iload G eX10_leastOff_97 rfl ?_
        obtain ⟨μ2, h1, h⟩ := bdS h
        refine V_callV (As := [.int v5]) (st := []) G lkX10_74 (Pot_show_ok h1) (by decide) rfl rfl (Nat.le_of_ble_eq_true rfl) eX10_leastOff_99 ?_
        refine V_aload_n (i := 0) G eX10_leastOff_102 rfl rfl ?_
        refine V_iload_n (i := 1) G eX10_leastOff_103 rfl rfl ?_
        obtain ⟨x3, h1, h⟩ := bdS h
        refine V_callI (As := [.int v1]) (st := []) G lkX10_119 (Taster_offGuesses_ok h1) (by decide) rfl rfl (Nat.le_of_ble_eq_true rfl) eX10_leastOff_104 ?_
        refine V_istoreA (i := 6) (L' := [some (.ref (wad w 10 0)), some (.int v1), some (.int v2), some (.int v3), some (.int v4), some (.int v5), some (.int x3)]) G eX10_leastOff_107 (by decide) rfl rfl ?_
        refine V_iload G eX10_leastOff_109 rfl ?_
        refine V_iload G eX10_leastOff_111 rfl ?_
        obtain ⟨⟨x4, x5⟩, hj, h⟩ := bdS h
        have J : Vj p l e R s m args below meth c w 7 0 0 Q 123 [some (.ref (wad w 10 0)), some (.int v1), some (.int v2), some (.int x4), some (.int x5), some (.int v5), none] [] μ2 := by
          clear hj
          refine V_iinc (z := (nI 1)) (L' := (fun x6 => [some (.ref (wad w 10 0)), some (.int v1), some (.int v2), some (.int x4), some (.int x5), some (.int x6), none])) G eX10_leastOff_123 rfl rfl (by decide) rfl (fun _ => rfl) h (fun x6 h => ?_)
          refine V_goto G eX10_leastOff_126 ?_
          exact (ih h K)
        replace h := hj
        clear hj
        refine V_icmp_ge G eX10_leastOff_113 h (fun h => ?_) (fun h => ?_)
        · cases h; exact V_sub (lS_s (lS_s (lS_s (lS_s (lS_s (lS_s (lS_n lS_0))))))) J
        · refine V_iload G eX10_leastOff_116 rfl ?_
          refine V_istoreA (i := 4) (L' := [some (.ref (wad w 10 0)), some (.int v1), some (.int v2), some (.int v3), some (.int x3), some (.int v5), some (.int x3)]) G eX10_leastOff_118 (by decide) rfl rfl ?_
          refine V_iload G eX10_leastOff_120 rfl ?_
          refine V_istoreA_n (i := 3) (L' := [some (.ref (wad w 10 0)), some (.int v1), some (.int v2), some (.int v5), some (.int x3), some (.int v5), some (.int x3)]) G rfl eX10_leastOff_122 (by decide) rfl rfl ?_
          cases h; exact V_sub (lS_s (lS_s (lS_s (lS_s (lS_s (lS_s (lS_n lS_0))))))) J
set_option maxRecDepth 100000 in
set_option maxHeartbeats 4000000 in
theorem Taster_leastOff_run {p : Program} {l : Launch} {e : Env} {R : Room} {s : State} {m : MethodId} {args : Array Value} {below : List Frame} {meth : Method} {c : Code} {w : Wld} (G : Cxt p R s m args meth c w cX10_leastOff 7 "PotBook$Taster" 4 0 0) (hr : meth.sig.returnType = some .int) {a1 : Int32} {μ : Mem} {r : Int32} {μ' : Mem} (h : Taster_leastOff a1 μ = some (r, μ')) : Vj p l e R s m args below meth c w 7 0 0 (MQ below (QI w r μ') args s 0 0 w.2.2.2) 0 [some (.ref (wad w 10 0)), some (.int a1), none, none, none, none, none] [] μ := by
  unfold Taster_leastOff at h
  refine V_iconst (n := 0) (v := (nI 0)) G eX10_leastOff_0 rfl ?_
  refine V_istoreA_n (i := 2) (L' := [some (.ref (wad w 10 0)), some (.int a1), some (.int (nI 0)), none, none, none, none]) G rfl eX10_leastOff_1 (by decide) rfl rfl ?_
  refine V_iconst (n := 0) (v := (nI 0)) G eX10_leastOff_2 rfl ?_
  refine V_istoreA_n (i := 3) (L' := [some (.ref (wad w 10 0)), some (.int a1), some (.int (nI 0)), some (.int (nI 0)), none, none, none]) G rfl eX10_leastOff_3 (by decide) rfl rfl ?_
  obtain ⟨⟨x1, μ2⟩, h1, h⟩ := bdS h
  refine Taster_leastOff_l1_ok G h1 ?_
  refine V_iconst (n := -1) (v := (-1)) G eX10_leastOff_68 rfl ?_
  refine V_istoreA_n (i := 3) (L' := [some (.ref (wad w 10 0)), some (.int a1), some (.int x1), some (.int (-1)), none, none, none]) G rfl eX10_leastOff_69 (by decide) rfl rfl ?_
  refine V_ldc (v := (nI 2147483647)) G cnI_X10_118 eX10_leastOff_70 ?_
  refine V_istoreA (i := 4) (L' := [some (.ref (wad w 10 0)), some (.int a1), some (.int x1), some (.int (-1)), some (.int (nI 2147483647)), none, none]) G eX10_leastOff_72 (by decide) rfl rfl ?_
  refine V_iconst (n := 0) (v := (nI 0)) G eX10_leastOff_74 rfl ?_
  refine V_istoreA (i := 5) (L' := [some (.ref (wad w 10 0)), some (.int a1), some (.int x1), some (.int (-1)), some (.int (nI 2147483647)), some (.int (nI 0)), none]) G eX10_leastOff_75 (by decide) rfl rfl ?_
  obtain ⟨⟨x3, μ4⟩, h1, h⟩ := bdS h
  refine Taster_leastOff_l2_ok G h1 ?_
  refine V_iload_n (i := 3) G eX10_leastOff_129 rfl rfl ?_
  exact V_riM G hr eX10_leastOff_130 h
theorem Taster_leastOff_ok {l : Launch} {w : Wld} {a1 : Int32} {μ : Mem} {r : Int32} {μ' : Mem} (h : Taster_leastOff a1 μ = some (r, μ')) : CtI l w yX10_leastOff cX10_leastOff 7 .int 4 [.ref (wad w 10 0), .int a1] μ r μ' :=
  Ct_of (own := "PotBook$Taster") [some (.ref (wad w 10 0)), some (.int a1), none, none, none, none, none] (by decide +kernel) rfl rfl (Nat.le_of_ble_eq_true rfl) fun p e s m args below meth c G hr => Taster_leastOff_run G hr h
set_option maxRecDepth 100000 in
set_option maxHeartbeats 4000000 in
theorem B_nearest_run {p : Program} {l : Launch} {e : Env} {R : Room} {s : State} {m : MethodId} {args : Array Value} {below : List Frame} {meth : Method} {c : Code} {w : Wld} (G : Cxt p R s m args meth c w cX11_nearest 2 "PotBook" 6 0 0) (hr : meth.sig.returnType = some .int) {a1 : Int32} {μ : Mem} {r : Int32} {μ' : Mem} (h : B_nearest a1 μ = some (r, μ')) : Vj p l e R s m args below meth c w 2 0 0 (MQ below (QI w r μ') args s 0 0 w.2.2.2) 0 [some (.ref (wad w 11 0)), some (.int a1)] [] μ := by
  unfold B_nearest at h
  refine V_aload_n (i := 0) G eX11_nearest_0 rfl rfl ?_
  refine V_iload_n (i := 1) G eX11_nearest_1 rfl rfl ?_
  obtain ⟨⟨x1, μ2⟩, h1, h⟩ := bdS h
  refine V_callI (As := [.int a1]) (st := []) G lkX11_187 (B_laid_ok h1) (by decide) rfl rfl (Nat.le_of_ble_eq_true rfl) eX11_nearest_2 ?_
  refine V_if_le G eX11_nearest_5 h (fun h => ?_) (fun h => ?_)
  · refine V_iconst (n := -1) (v := (-1)) G eX11_nearest_19 rfl ?_
    exact V_riM G hr eX11_nearest_20 h
  · refine V_aload_n (i := 0) G eX11_nearest_8 rfl rfl ?_
    refine V_get (v := .ref (wad w 10 0)) G fgX11_62 rfl eX11_nearest_9 ?_
    refine V_iload_n (i := 1) G eX11_nearest_12 rfl rfl ?_
    obtain ⟨⟨x3, μ4⟩, h1, h⟩ := bdS h
    refine V_callI (As := [.int a1]) (st := []) G lkX11_332 (Taster_leastOff_ok h1) (by decide) rfl rfl (Nat.le_of_ble_eq_true rfl) eX11_nearest_13 ?_
    refine V_goto G eX11_nearest_16 ?_
    exact V_riM G hr eX11_nearest_20 h
theorem B_nearest_ok {l : Launch} {w : Wld} {a1 : Int32} {μ : Mem} {r : Int32} {μ' : Mem} (h : B_nearest a1 μ = some (r, μ')) : CtI l w yX11_nearest cX11_nearest 2 .int 6 [.ref (wad w 11 0), .int a1] μ r μ' :=
  Ct_of (own := "PotBook") [some (.ref (wad w 11 0)), some (.int a1)] (by decide +kernel) rfl rfl (Nat.le_of_ble_eq_true rfl) fun p e s m args below meth c G hr => B_nearest_run G hr h
set_option maxRecDepth 100000 in
set_option maxHeartbeats 4000000 in
theorem Account_tooFew_l1_ok {p : Program} {l : Launch} {e : Env} {R : Room} {s : State} {m : MethodId} {args : Array Value} {below : List Frame} {meth : Method} {c : Code} {w : Wld} {Q : State → Prop} (G : Cxt p R s m args meth c w cX0_tooFew 5 "PotBook$Account" 3 0 0) {v1 : Int32} {v2 : Int32} {μ : Mem} {o1 : Int32} : ∀ {n : Nat} {v3 : Int32} {v4 : Int32}, Account_tooFew_l1 v1 v2 μ n v3 v4 = some o1 → Vj p l e R s m args below meth c w 5 0 0 Q 53 [none, none, none, some (.int o1), none] [] μ → Vj p l e R s m args below meth c w 5 0 0 Q 5 [some (.ref (wad w 0 0)), some (.int v1), some (.int v2), some (.int v3), some (.int v4)] [] μ := by
  intro n
  induction n with
  | zero => intro v3 v4 h K; exact noS h
  | succ n ih =>
    intro v3 v4 h K
    replace h : Account_tooFew_l1b v1 v2 μ (Account_tooFew_l1 v1 v2 μ n) v3 v4 = some o1 := h
    unfold Account_tooFew_l1b at h
    refine V_iload G eX0_tooFew_5 rfl ?_
    refine V_aload_n (i := 0) G eX0_tooFew_7 rfl rfl ?_
    refine V_get (v := .ref (wad w 7 0)) G fgX0_28 rfl eX0_tooFew_8 ?_
    refine V_get (v := .int (mI μ 808 0 0)) G fgX0_70 rfl eX0_tooFew_11 ?_
    refine V_icmp_ge G eX0_tooFew_14 h (fun h => ?_) (fun h => ?_)
    · cases h; exact V_sub (lS_n (lS_n (lS_n (lS_s (lS_n lS_0))))) K
    · refine V_aload_n (i := 0) G eX0_tooFew_17 rfl rfl ?_
      refine V_get (v := .ref (wad w 8 0)) G fgX0_32 rfl eX0_tooFew_18 ?_
      refine V_iload G eX0_tooFew_21 rfl ?_
      obtain ⟨x1, h1, h⟩ := bdS h
      refine V_callI (As := [.int v4]) (st := []) G lkX0_71 (Pot_partsOf_ok h1) (by decide) rfl rfl (Nat.le_of_ble_eq_true rfl) eX0_tooFew_23 ?_
      refine V_iload_n (i := 2) G eX0_tooFew_26 rfl rfl ?_
      refine V_imul G eX0_tooFew_27 ?_
      refine V_aload_n (i := 0) G eX0_tooFew_28 rfl rfl ?_
      refine V_get (v := .ref (wad w 10105 0)) G fgX0_21 rfl eX0_tooFew_29 ?_
      refine V_iload_n (i := 1) G eX0_tooFew_32 rfl rfl ?_
      refine V_aaldI (id := 105) G al_10105 eX0_tooFew_33 h (fun r2 hr2 h => ?_)
      refine V_iload G eX0_tooFew_34 rfl ?_
      refine V_iald G al_105 hr2 eX0_tooFew_36 h (fun x3 h => ?_)
      obtain ⟨x5, hj, h⟩ := bdS h
      have J : Vj p l e R s m args below meth c w 5 0 0 Q 47 [some (.ref (wad w 0 0)), some (.int v1), some (.int v2), some (.int x5), some (.int v4)] [] μ := by
        clear hj
        refine V_iinc (z := (nI 1)) (L' := (fun x6 => [some (.ref (wad w 0 0)), some (.int v1), some (.int v2), some (.int x5), some (.int x6)])) G eX0_tooFew_47 rfl rfl (by decide) rfl (fun _ => rfl) h (fun x6 h => ?_)
        refine V_goto G eX0_tooFew_50 ?_
        exact (ih h K)
      replace h := hj
      clear hj
      refine V_icmp_le G eX0_tooFew_37 h (fun h => ?_) (fun h => ?_)
      · cases h; exact J
      · refine V_iload_n (i := 3) G eX0_tooFew_40 rfl rfl ?_
        refine V_iconst (n := 1) (v := (nI 1)) G eX0_tooFew_41 rfl ?_
        refine V_iload G eX0_tooFew_42 rfl ?_
        refine V_ishl G eX0_tooFew_44 ?_
        refine V_ior G eX0_tooFew_45 ?_
        refine V_istore_n (i := 3) (L' := (fun x4 => [some (.ref (wad w 0 0)), some (.int v1), some (.int v2), some (.int x4), some (.int v4)])) G rfl eX0_tooFew_46 (by decide) rfl (fun _ => rfl) h (fun x4 h => ?_)
        cases h; exact J
set_option maxRecDepth 100000 in
set_option maxHeartbeats 4000000 in
theorem Account_tooFew_run {p : Program} {l : Launch} {e : Env} {R : Room} {s : State} {m : MethodId} {args : Array Value} {below : List Frame} {meth : Method} {c : Code} {w : Wld} (G : Cxt p R s m args meth c w cX0_tooFew 5 "PotBook$Account" 3 0 0) (hr : meth.sig.returnType = some .int) {a1 : Int32} {a2 : Int32} {μ : Mem} {r : Int32} (h : Account_tooFew a1 a2 μ = some r) : Vj p l e R s m args below meth c w 5 0 0 (MQ below (QI w r μ) args s 0 0 w.2.2.2) 0 [some (.ref (wad w 0 0)), some (.int a1), some (.int a2), none, none] [] μ := by
  unfold Account_tooFew at h
  refine V_iconst (n := 0) (v := (nI 0)) G eX0_tooFew_0 rfl ?_
  refine V_istoreA_n (i := 3) (L' := [some (.ref (wad w 0 0)), some (.int a1), some (.int a2), some (.int (nI 0)), none]) G rfl eX0_tooFew_1 (by decide) rfl rfl ?_
  refine V_iconst (n := 0) (v := (nI 0)) G eX0_tooFew_2 rfl ?_
  refine V_istoreA (i := 4) (L' := [some (.ref (wad w 0 0)), some (.int a1), some (.int a2), some (.int (nI 0)), some (.int (nI 0))]) G eX0_tooFew_3 (by decide) rfl rfl ?_
  obtain ⟨x1, h1, h⟩ := bdS h
  refine Account_tooFew_l1_ok G h1 ?_
  refine V_iload_n (i := 3) G eX0_tooFew_53 rfl rfl ?_
  exact V_ri G hr eX0_tooFew_54 h
theorem Account_tooFew_ok {l : Launch} {w : Wld} {a1 : Int32} {a2 : Int32} {μ : Mem} {r : Int32} (h : Account_tooFew a1 a2 μ = some r) : CtI l w yX0_tooFew cX0_tooFew 5 .int 3 [.ref (wad w 0 0), .int a1, .int a2] μ r μ :=
  Ct_of (own := "PotBook$Account") [some (.ref (wad w 0 0)), some (.int a1), some (.int a2), none, none] (by decide +kernel) rfl rfl (Nat.le_of_ble_eq_true rfl) fun p e s m args below meth c G hr => Account_tooFew_run G hr h
set_option maxRecDepth 100000 in
set_option maxHeartbeats 4000000 in
theorem B_lacking_run {p : Program} {l : Launch} {e : Env} {R : Room} {s : State} {m : MethodId} {args : Array Value} {below : List Frame} {meth : Method} {c : Code} {w : Wld} (G : Cxt p R s m args meth c w cX11_lacking 5 "PotBook" 7 0 0) (hr : meth.sig.returnType = some .int) {a1 : Int32} {a2 : Int32} {a3 : Int32} {a4 : Int32} {μ : Mem} {r : Int32} {μ' : Mem} (h : B_lacking a1 a2 a3 a4 μ = some (r, μ')) : Vj p l e R s m args below meth c w 5 0 0 (MQ below (QI w r μ') args s 0 0 w.2.2.2) 0 [some (.ref (wad w 11 0)), some (.int a1), some (.int a2), some (.int a3), some (.int a4)] [] μ := by
  unfold B_lacking at h
  refine V_aload_n (i := 0) G eX11_lacking_0 rfl rfl ?_
  refine V_get (v := .ref (wad w 0 0)) G fgX11_87 rfl eX11_lacking_1 ?_
  refine V_iload_n (i := 1) G eX11_lacking_4 rfl rfl ?_
  obtain ⟨x1, h1, h⟩ := bdS h
  refine V_callI (As := [.int a1]) (st := []) G lkX11_270 (Account_has_ok h1) (by decide) rfl rfl (Nat.le_of_ble_eq_true rfl) eX11_lacking_5 ?_
  refine V_if_eq G eX11_lacking_8 h (fun h => ?_) (fun h => ?_)
  · refine V_iconst (n := -1) (v := (-1)) G eX11_lacking_31 rfl ?_
    exact V_riM G hr eX11_lacking_32 h
  · refine V_iload G eX11_lacking_11 rfl ?_
    refine V_iconst (n := 1) (v := (nI 1)) G eX11_lacking_13 rfl ?_
    refine V_bipush (n := 99) (v := (nI 99)) G eX11_lacking_14 rfl ?_
    obtain ⟨x2, h1, h⟩ := bdS h
    refine V_callIS (As := [.int a4, .int (nI 1), .int (nI 99)]) (st := []) G lkX11_127 (B_isWithin_ok (μ := μ) h1) (by decide) rfl rfl (Nat.le_of_ble_eq_true rfl) eX11_lacking_16 ?_
    refine V_if_eq G eX11_lacking_19 h (fun h => ?_) (fun h => ?_)
    · refine V_iconst (n := -1) (v := (-1)) G eX11_lacking_31 rfl ?_
      exact V_riM G hr eX11_lacking_32 h
    · refine V_aload_n (i := 0) G eX11_lacking_22 rfl rfl ?_
      refine V_iload_n (i := 2) G eX11_lacking_23 rfl rfl ?_
      refine V_iload_n (i := 3) G eX11_lacking_24 rfl rfl ?_
      obtain ⟨⟨x3, μ4⟩, h1, h⟩ := bdS h
      refine V_callI (As := [.int a2, .int a3]) (st := []) G lkX11_190 (B_shows_ok h1) (by decide) rfl rfl (Nat.le_of_ble_eq_true rfl) eX11_lacking_25 ?_
      refine V_if_ne G eX11_lacking_28 h (fun h => ?_) (fun h => ?_)
      · refine V_aload_n (i := 0) G eX11_lacking_33 rfl rfl ?_
        refine V_get (v := .ref (wad w 0 0)) G fgX11_87 rfl eX11_lacking_34 ?_
        refine V_iload_n (i := 1) G eX11_lacking_37 rfl rfl ?_
        refine V_iload G eX11_lacking_38 rfl ?_
        obtain ⟨x5, h1, h⟩ := bdS h
        refine V_callI (As := [.int a1, .int a4]) (st := []) G lkX11_335 (Account_tooFew_ok h1) (by decide) rfl rfl (Nat.le_of_ble_eq_true rfl) eX11_lacking_40 ?_
        exact V_riM G hr eX11_lacking_43 h
      · refine V_iconst (n := -1) (v := (-1)) G eX11_lacking_31 rfl ?_
        exact V_riM G hr eX11_lacking_32 h
theorem B_lacking_ok {l : Launch} {w : Wld} {a1 : Int32} {a2 : Int32} {a3 : Int32} {a4 : Int32} {μ : Mem} {r : Int32} {μ' : Mem} (h : B_lacking a1 a2 a3 a4 μ = some (r, μ')) : CtI l w yX11_lacking cX11_lacking 5 .int 7 [.ref (wad w 11 0), .int a1, .int a2, .int a3, .int a4] μ r μ' :=
  Ct_of (own := "PotBook") [some (.ref (wad w 11 0)), some (.int a1), some (.int a2), some (.int a3), some (.int a4)] (by decide +kernel) rfl rfl (Nat.le_of_ble_eq_true rfl) fun p e s m args below meth c G hr => B_lacking_run G hr h
set_option maxRecDepth 100000 in
set_option maxHeartbeats 4000000 in
theorem Account_messesFrom_l1_ok {p : Program} {l : Launch} {e : Env} {R : Room} {s : State} {m : MethodId} {args : Array Value} {below : List Frame} {meth : Method} {c : Code} {w : Wld} {Q : State → Prop} (G : Cxt p R s m args meth c w cX0_messesFrom 5 "PotBook$Account" 3 0 0) {v1 : Int32} {μ : Mem} {o1 : Int32} : ∀ {n : Nat} {v2 : Int32} {v3 : Int32}, Account_messesFrom_l1 v1 μ n v2 v3 = some o1 → Vj p l e R s m args below meth c w 5 0 0 Q 53 [none, none, some (.int o1), none, none] [] μ → Vj p l e R s m args below meth c w 5 0 0 Q 5 [some (.ref (wad w 0 0)), some (.int v1), some (.int v2), some (.int v3), none] [] μ := by
  intro n
  induction n with
  | zero => intro v2 v3 h K; exact noS h
  | succ n ih =>
    intro v2 v3 h K
    replace h : Account_messesFrom_l1b v1 μ (Account_messesFrom_l1 v1 μ n) v2 v3 = some o1 := h
    unfold Account_messesFrom_l1b at h
    refine V_iload_n (i := 3) G eX0_messesFrom_5 rfl rfl ?_
    refine V_aload_n (i := 0) G eX0_messesFrom_6 rfl rfl ?_
    refine V_get (v := .ref (wad w 7 0)) G fgX0_28 rfl eX0_messesFrom_7 ?_
    refine V_get (v := .int (mI μ 808 0 0)) G fgX0_70 rfl eX0_messesFrom_10 ?_
    refine V_icmp_ge G eX0_messesFrom_13 h (fun h => ?_) (fun h => ?_)
    · cases h; exact V_sub (lS_n (lS_n (lS_s (lS_n (lS_n lS_0))))) K
    · refine V_aload_n (i := 0) G eX0_messesFrom_16 rfl rfl ?_
      refine V_get (v := .ref (wad w 8 0)) G fgX0_32 rfl eX0_messesFrom_17 ?_
      refine V_iload_n (i := 3) G eX0_messesFrom_20 rfl rfl ?_
      obtain ⟨x1, h1, h⟩ := bdS h
      refine V_callI (As := [.int v3]) (st := []) G lkX0_71 (Pot_partsOf_ok h1) (by decide) rfl rfl (Nat.le_of_ble_eq_true rfl) eX0_messesFrom_21 ?_
      refine V_istoreA (i := 4) (L' := [some (.ref (wad w 0 0)), some (.int v1), some (.int v2), some (.int v3), some (.int x1)]) G eX0_messesFrom_24 (by decide) rfl rfl ?_
      refine V_iload G eX0_messesFrom_26 rfl ?_
      obtain ⟨x6, hj, h⟩ := bdS h
      have J : Vj p l e R s m args below meth c w 5 0 0 Q 47 [some (.ref (wad w 0 0)), some (.int v1), some (.int x6), some (.int v3), none] [] μ := by
        clear hj
        refine V_iinc (z := (nI 1)) (L' := (fun x7 => [some (.ref (wad w 0 0)), some (.int v1), some (.int x6), some (.int x7), none])) G eX0_messesFrom_47 rfl rfl (by decide) rfl (fun _ => rfl) h (fun x7 h => ?_)
        refine V_goto G eX0_messesFrom_50 ?_
        exact (ih h K)
      replace h := hj
      clear hj
      refine V_if_le G eX0_messesFrom_28 h (fun h => ?_) (fun h => ?_)
      · cases h; exact V_sub (lS_s (lS_s (lS_s (lS_s (lS_n lS_0))))) J
      · refine V_iload_n (i := 2) G eX0_messesFrom_31 rfl rfl ?_
        refine V_aload_n (i := 0) G eX0_messesFrom_32 rfl rfl ?_
        refine V_get (v := .ref (wad w 10105 0)) G fgX0_21 rfl eX0_messesFrom_33 ?_
        refine V_iload_n (i := 1) G eX0_messesFrom_36 rfl rfl ?_
        refine V_aaldI (id := 105) G al_10105 eX0_messesFrom_37 h (fun r2 hr2 h => ?_)
        refine V_iload_n (i := 3) G eX0_messesFrom_38 rfl rfl ?_
        refine V_iald G al_105 hr2 eX0_messesFrom_39 h (fun x3 h => ?_)
        refine V_iload G eX0_messesFrom_40 rfl ?_
        refine V_idiv G eX0_messesFrom_42 h (fun x4 h => ?_)
        refine V_jMin G mkX0_74 (by decide) (Nat.le_of_ble_eq_true rfl) eX0_messesFrom_43 ?_
        refine V_istore_n (i := 2) (L' := (fun x5 => [some (.ref (wad w 0 0)), some (.int v1), some (.int x5), some (.int v3), some (.int x1)])) G rfl eX0_messesFrom_46 (by decide) rfl (fun _ => rfl) h (fun x5 h => ?_)
        cases h; exact V_sub (lS_s (lS_s (lS_s (lS_s (lS_n lS_0))))) J
set_option maxRecDepth 100000 in
set_option maxHeartbeats 4000000 in
theorem Account_messesFrom_run {p : Program} {l : Launch} {e : Env} {R : Room} {s : State} {m : MethodId} {args : Array Value} {below : List Frame} {meth : Method} {c : Code} {w : Wld} (G : Cxt p R s m args meth c w cX0_messesFrom 5 "PotBook$Account" 3 0 0) (hr : meth.sig.returnType = some .int) {a1 : Int32} {μ : Mem} {r : Int32} (h : Account_messesFrom a1 μ = some r) : Vj p l e R s m args below meth c w 5 0 0 (MQ below (QI w r μ) args s 0 0 w.2.2.2) 0 [some (.ref (wad w 0 0)), some (.int a1), none, none, none] [] μ := by
  unfold Account_messesFrom at h
  refine V_bipush (n := 99) (v := (nI 99)) G eX0_messesFrom_0 rfl ?_
  refine V_istoreA_n (i := 2) (L' := [some (.ref (wad w 0 0)), some (.int a1), some (.int (nI 99)), none, none]) G rfl eX0_messesFrom_2 (by decide) rfl rfl ?_
  refine V_iconst (n := 0) (v := (nI 0)) G eX0_messesFrom_3 rfl ?_
  refine V_istoreA_n (i := 3) (L' := [some (.ref (wad w 0 0)), some (.int a1), some (.int (nI 99)), some (.int (nI 0)), none]) G rfl eX0_messesFrom_4 (by decide) rfl rfl ?_
  obtain ⟨x1, h1, h⟩ := bdS h
  refine Account_messesFrom_l1_ok G h1 ?_
  refine V_iload_n (i := 2) G eX0_messesFrom_53 rfl rfl ?_
  exact V_ri G hr eX0_messesFrom_54 h
theorem Account_messesFrom_ok {l : Launch} {w : Wld} {a1 : Int32} {μ : Mem} {r : Int32} (h : Account_messesFrom a1 μ = some r) : CtI l w yX0_messesFrom cX0_messesFrom 5 .int 3 [.ref (wad w 0 0), .int a1] μ r μ :=
  Ct_of (own := "PotBook$Account") [some (.ref (wad w 0 0)), some (.int a1), none, none, none] (by decide +kernel) rfl rfl (Nat.le_of_ble_eq_true rfl) fun p e s m args below meth c G hr => Account_messesFrom_run G hr h
set_option maxRecDepth 100000 in
set_option maxHeartbeats 4000000 in
theorem B_enough_run {p : Program} {l : Launch} {e : Env} {R : Room} {s : State} {m : MethodId} {args : Array Value} {below : List Frame} {meth : Method} {c : Code} {w : Wld} (G : Cxt p R s m args meth c w cX11_enough 4 "PotBook" 7 0 0) (hr : meth.sig.returnType = some .int) {a1 : Int32} {a2 : Int32} {a3 : Int32} {μ : Mem} {r : Int32} {μ' : Mem} (h : B_enough a1 a2 a3 μ = some (r, μ')) : Vj p l e R s m args below meth c w 4 0 0 (MQ below (QI w r μ') args s 0 0 w.2.2.2) 0 [some (.ref (wad w 11 0)), some (.int a1), some (.int a2), some (.int a3)] [] μ := by
  unfold B_enough at h
  refine V_aload_n (i := 0) G eX11_enough_0 rfl rfl ?_
  refine V_get (v := .ref (wad w 0 0)) G fgX11_87 rfl eX11_enough_1 ?_
  refine V_iload_n (i := 1) G eX11_enough_4 rfl rfl ?_
  obtain ⟨x1, h1, h⟩ := bdS h
  refine V_callI (As := [.int a1]) (st := []) G lkX11_270 (Account_has_ok h1) (by decide) rfl rfl (Nat.le_of_ble_eq_true rfl) eX11_enough_5 ?_
  refine V_if_eq G eX11_enough_8 h (fun h => ?_) (fun h => ?_)
  · refine V_iconst (n := -1) (v := (-1)) G eX11_enough_31 rfl ?_
    exact V_riM G hr eX11_enough_32 h
  · refine V_aload_n (i := 0) G eX11_enough_11 rfl rfl ?_
    refine V_iload_n (i := 2) G eX11_enough_12 rfl rfl ?_
    refine V_iload_n (i := 3) G eX11_enough_13 rfl rfl ?_
    obtain ⟨⟨x2, μ3⟩, h1, h⟩ := bdS h
    refine V_callI (As := [.int a2, .int a3]) (st := []) G lkX11_190 (B_shows_ok h1) (by decide) rfl rfl (Nat.le_of_ble_eq_true rfl) eX11_enough_14 ?_
    refine V_if_eq G eX11_enough_17 h (fun h => ?_) (fun h => ?_)
    · refine V_iconst (n := -1) (v := (-1)) G eX11_enough_31 rfl ?_
      exact V_riM G hr eX11_enough_32 h
    · refine V_aload_n (i := 0) G eX11_enough_20 rfl rfl ?_
      refine V_get (v := .ref (wad w 0 0)) G fgX11_87 rfl eX11_enough_21 ?_
      refine V_iload_n (i := 1) G eX11_enough_24 rfl rfl ?_
      obtain ⟨x4, h1, h⟩ := bdS h
      refine V_callI (As := [.int a1]) (st := []) G lkX11_338 (Account_messesFrom_ok h1) (by decide) rfl rfl (Nat.le_of_ble_eq_true rfl) eX11_enough_25 ?_
      refine V_goto G eX11_enough_28 ?_
      exact V_riM G hr eX11_enough_32 h
theorem B_enough_ok {l : Launch} {w : Wld} {a1 : Int32} {a2 : Int32} {a3 : Int32} {μ : Mem} {r : Int32} {μ' : Mem} (h : B_enough a1 a2 a3 μ = some (r, μ')) : CtI l w yX11_enough cX11_enough 4 .int 7 [.ref (wad w 11 0), .int a1, .int a2, .int a3] μ r μ' :=
  Ct_of (own := "PotBook") [some (.ref (wad w 11 0)), some (.int a1), some (.int a2), some (.int a3)] (by decide +kernel) rfl rfl (Nat.le_of_ble_eq_true rfl) fun p e s m args below meth c G hr => B_enough_run G hr h
set_option maxRecDepth 100000 in
set_option maxHeartbeats 4000000 in
theorem B_wasted_run {p : Program} {l : Launch} {e : Env} {R : Room} {s : State} {m : MethodId} {args : Array Value} {below : List Frame} {meth : Method} {c : Code} {w : Wld} (G : Cxt p R s m args meth c w cX11_wasted 5 "PotBook" 66 0 0) (hr : meth.sig.returnType = some .int) {a1 : Int32} {a2 : Int32} {a3 : Int32} {a4 : Int32} {μ : Mem} {r : Int32} {μ' : Mem} (h : B_wasted a1 a2 a3 a4 μ = some (r, μ')) : Vj p l e R s m args below meth c w 5 0 0 (MQ below (QI w r μ') args s 0 0 w.2.2.2) 0 [some (.ref (wad w 11 0)), some (.int a1), some (.int a2), some (.int a3), some (.int a4)] [] μ := by
  unfold B_wasted at h
  refine V_iload G eX11_wasted_0 rfl ?_
  refine V_if_lt G eX11_wasted_2 h (fun h => ?_) (fun h => ?_)
  · refine V_iconst (n := -1) (v := (-1)) G eX11_wasted_15 rfl ?_
    exact V_riM G hr eX11_wasted_16 h
  · refine V_aload_n (i := 0) G eX11_wasted_5 rfl rfl ?_
    refine V_iload_n (i := 1) G eX11_wasted_6 rfl rfl ?_
    refine V_iload_n (i := 2) G eX11_wasted_7 rfl rfl ?_
    refine V_iload_n (i := 3) G eX11_wasted_8 rfl rfl ?_
    obtain ⟨x1, h1, h⟩ := bdS h
    refine V_callI (As := [.int a1, .int a2, .int a3]) (st := []) G lkX11_277 (B_isAsked_ok h1) (by decide) rfl rfl (Nat.le_of_ble_eq_true rfl) eX11_wasted_9 ?_
    refine V_if_ne G eX11_wasted_12 h (fun h => ?_) (fun h => ?_)
    · refine V_aload_n (i := 0) G eX11_wasted_17 rfl rfl ?_
      refine V_get (v := .ref (wad w 5 0)) G fgX11_96 rfl eX11_wasted_18 ?_
      refine V_iload_n (i := 1) G eX11_wasted_21 rfl rfl ?_
      refine V_iload_n (i := 2) G eX11_wasted_22 rfl rfl ?_
      refine V_iload_n (i := 3) G eX11_wasted_23 rfl rfl ?_
      refine V_iload G eX11_wasted_24 rfl ?_
      obtain ⟨μ2, h1, h⟩ := bdS h
      refine V_callV (As := [.int a1, .int a2, .int a3, .int a4]) (st := []) G lkX11_280 (Menus_layOut_ok h1) (by decide) rfl rfl (Nat.le_of_ble_eq_true rfl) eX11_wasted_26 ?_
      refine V_iload G eX11_wasted_29 rfl ?_
      refine V_aload_n (i := 0) G eX11_wasted_31 rfl rfl ?_
      refine V_get (v := .ref (wad w 5 0)) G fgX11_96 rfl eX11_wasted_32 ?_
      refine V_get (v := .ref (wad w 609 0)) G fgX11_283 rfl eX11_wasted_35 ?_
      refine V_iconst (n := 0) (v := (nI 0)) G eX11_wasted_38 rfl ?_
      refine V_iald G al_609 (by decide) eX11_wasted_39 h (fun x3 h => ?_)
      refine V_icmp_ge G eX11_wasted_40 h (fun h => ?_) (fun h => ?_)
      · refine V_iconst (n := -1) (v := (-1)) G eX11_wasted_53 rfl ?_
        exact V_riM G hr eX11_wasted_54 h
      · refine V_aload_n (i := 0) G eX11_wasted_43 rfl rfl ?_
        refine V_get (v := .ref (wad w 5 0)) G fgX11_96 rfl eX11_wasted_44 ?_
        refine V_get (v := .int (mI μ2 614 0 0)) G fgX11_341 rfl eX11_wasted_47 ?_
        refine V_goto G eX11_wasted_50 ?_
        exact V_riM G hr eX11_wasted_54 h
    · refine V_iconst (n := -1) (v := (-1)) G eX11_wasted_15 rfl ?_
      exact V_riM G hr eX11_wasted_16 h
theorem B_wasted_ok {l : Launch} {w : Wld} {a1 : Int32} {a2 : Int32} {a3 : Int32} {a4 : Int32} {μ : Mem} {r : Int32} {μ' : Mem} (h : B_wasted a1 a2 a3 a4 μ = some (r, μ')) : CtI l w yX11_wasted cX11_wasted 5 .int 66 [.ref (wad w 11 0), .int a1, .int a2, .int a3, .int a4] μ r μ' :=
  Ct_of (own := "PotBook") [some (.ref (wad w 11 0)), some (.int a1), some (.int a2), some (.int a3), some (.int a4)] (by decide +kernel) rfl rfl (Nat.le_of_ble_eq_true rfl) fun p e s m args below meth c G hr => B_wasted_run G hr h
set_option maxRecDepth 100000 in
set_option maxHeartbeats 4000000 in
theorem B_lean_run {p : Program} {l : Launch} {e : Env} {R : Room} {s : State} {m : MethodId} {args : Array Value} {below : List Frame} {meth : Method} {c : Code} {w : Wld} (G : Cxt p R s m args meth c w cX11_lean 5 "PotBook" 66 0 0) (hr : meth.sig.returnType = some .int) {a1 : Int32} {a2 : Int32} {a3 : Int32} {a4 : Int32} {μ : Mem} {r : Int32} {μ' : Mem} (h : B_lean a1 a2 a3 a4 μ = some (r, μ')) : Vj p l e R s m args below meth c w 5 0 0 (MQ below (QI w r μ') args s 0 0 w.2.2.2) 0 [some (.ref (wad w 11 0)), some (.int a1), some (.int a2), some (.int a3), some (.int a4)] [] μ := by
  unfold B_lean at h
  refine V_iload G eX11_lean_0 rfl ?_
  refine V_iconst (n := 0) (v := (nI 0)) G eX11_lean_2 rfl ?_
  refine V_iconst (n := 2) (v := (nI 2)) G eX11_lean_3 rfl ?_
  obtain ⟨x1, h1, h⟩ := bdS h
  refine V_callIS (As := [.int a4, .int (nI 0), .int (nI 2)]) (st := []) G lkX11_127 (B_isWithin_ok (μ := μ) h1) (by decide) rfl rfl (Nat.le_of_ble_eq_true rfl) eX11_lean_4 ?_
  refine V_if_eq G eX11_lean_7 h (fun h => ?_) (fun h => ?_)
  · refine V_iconst (n := -1) (v := (-1)) G eX11_lean_20 rfl ?_
    exact V_riM G hr eX11_lean_21 h
  · refine V_aload_n (i := 0) G eX11_lean_10 rfl rfl ?_
    refine V_iload_n (i := 1) G eX11_lean_11 rfl rfl ?_
    refine V_iload_n (i := 2) G eX11_lean_12 rfl rfl ?_
    refine V_iload_n (i := 3) G eX11_lean_13 rfl rfl ?_
    obtain ⟨x2, h1, h⟩ := bdS h
    refine V_callI (As := [.int a1, .int a2, .int a3]) (st := []) G lkX11_277 (B_isAsked_ok h1) (by decide) rfl rfl (Nat.le_of_ble_eq_true rfl) eX11_lean_14 ?_
    refine V_if_ne G eX11_lean_17 h (fun h => ?_) (fun h => ?_)
    · refine V_aload_n (i := 0) G eX11_lean_22 rfl rfl ?_
      refine V_get (v := .ref (wad w 5 0)) G fgX11_96 rfl eX11_lean_23 ?_
      refine V_iload_n (i := 1) G eX11_lean_26 rfl rfl ?_
      refine V_iload_n (i := 2) G eX11_lean_27 rfl rfl ?_
      refine V_iload_n (i := 3) G eX11_lean_28 rfl rfl ?_
      refine V_iconst (n := -1) (v := (-1)) G eX11_lean_29 rfl ?_
      obtain ⟨μ3, h1, h⟩ := bdS h
      refine V_callV (As := [.int a1, .int a2, .int a3, .int (-1)]) (st := []) G lkX11_280 (Menus_layOut_ok h1) (by decide) rfl rfl (Nat.le_of_ble_eq_true rfl) eX11_lean_30 ?_
      refine V_aload_n (i := 0) G eX11_lean_33 rfl rfl ?_
      refine V_get (v := .ref (wad w 5 0)) G fgX11_96 rfl eX11_lean_34 ?_
      refine V_get (v := .ref (wad w 609 0)) G fgX11_283 rfl eX11_lean_37 ?_
      refine V_iconst (n := 0) (v := (nI 0)) G eX11_lean_40 rfl ?_
      refine V_iald G al_609 (by decide) eX11_lean_41 h (fun x4 h => ?_)
      refine V_if_le G eX11_lean_42 h (fun h => ?_) (fun h => ?_)
      · refine V_iconst (n := -1) (v := (-1)) G eX11_lean_60 rfl ?_
        exact V_riM G hr eX11_lean_61 h
      · refine V_aload_n (i := 0) G eX11_lean_45 rfl rfl ?_
        refine V_get (v := .ref (wad w 5 0)) G fgX11_96 rfl eX11_lean_46 ?_
        refine V_get (v := .ref (wad w 609 0)) G fgX11_283 rfl eX11_lean_49 ?_
        refine V_iconst (n := 5) (v := (nI 5)) G eX11_lean_52 rfl ?_
        refine V_iload G eX11_lean_53 rfl ?_
        refine V_iadd G eX11_lean_55 ?_
        refine V_iald G al_609 (by decide) eX11_lean_56 h (fun x5 h => ?_)
        refine V_goto G eX11_lean_57 ?_
        exact V_riM G hr eX11_lean_61 h
    · refine V_iconst (n := -1) (v := (-1)) G eX11_lean_20 rfl ?_
      exact V_riM G hr eX11_lean_21 h
theorem B_lean_ok {l : Launch} {w : Wld} {a1 : Int32} {a2 : Int32} {a3 : Int32} {a4 : Int32} {μ : Mem} {r : Int32} {μ' : Mem} (h : B_lean a1 a2 a3 a4 μ = some (r, μ')) : CtI l w yX11_lean cX11_lean 5 .int 66 [.ref (wad w 11 0), .int a1, .int a2, .int a3, .int a4] μ r μ' :=
  Ct_of (own := "PotBook") [some (.ref (wad w 11 0)), some (.int a1), some (.int a2), some (.int a3), some (.int a4)] (by decide +kernel) rfl rfl (Nat.le_of_ble_eq_true rfl) fun p e s m args below meth c G hr => B_lean_run G hr h
set_option maxRecDepth 100000 in
set_option maxHeartbeats 4000000 in
theorem J_compare_run {p : Program} {l : Launch} {e : Env} {R : Room} {s : State} {m : MethodId} {args : Array Value} {below : List Frame} {meth : Method} {c : Code} {w : Wld} (G : Cxt p R s m args meth c w cJ6_compare_7cf53 2 "java/lang/Integer" 1 0 0) (hr : meth.sig.returnType = some .int) {a1 : Int32} {a2 : Int32} {μ : Mem} {r : Int32} (h : J_compare a1 a2 = some r) : Vj p l e R s m args below meth c w 2 0 0 (MQ below (QI w r μ) args s 0 0 w.2.2.2) 0 [some (.int a1), some (.int a2)] [] μ := by
  unfold J_compare at h
  refine V_iload_n (i := 0) G eJ6_compare_7cf53_0 rfl rfl ?_
  refine V_iload_n (i := 1) G eJ6_compare_7cf53_1 rfl rfl ?_
  refine V_icmp_ge G eJ6_compare_7cf53_2 h (fun h => ?_) (fun h => ?_)
  · refine V_iload_n (i := 0) G eJ6_compare_7cf53_9 rfl rfl ?_
    refine V_iload_n (i := 1) G eJ6_compare_7cf53_10 rfl rfl ?_
    refine V_icmp_ne G eJ6_compare_7cf53_11 h (fun h => ?_) (fun h => ?_)
    · refine V_iconst (n := 1) (v := (nI 1)) G eJ6_compare_7cf53_18 rfl ?_
      exact V_ri G hr eJ6_compare_7cf53_19 h
    · refine V_iconst (n := 0) (v := (nI 0)) G eJ6_compare_7cf53_14 rfl ?_
      refine V_goto G eJ6_compare_7cf53_15 ?_
      exact V_ri G hr eJ6_compare_7cf53_19 h
  · refine V_iconst (n := -1) (v := (-1)) G eJ6_compare_7cf53_5 rfl ?_
    refine V_goto G eJ6_compare_7cf53_6 ?_
    exact V_ri G hr eJ6_compare_7cf53_19 h
theorem J_compare_ok {l : Launch} {w : Wld} {a1 : Int32} {a2 : Int32} {μ : Mem} {r : Int32} (h : J_compare a1 a2 = some r) : CtI l w yJ6_compare_7cf53 cJ6_compare_7cf53 2 .int 1 [.int a1, .int a2] μ r μ :=
  Ct_of (own := "java/lang/Integer") [some (.int a1), some (.int a2)] (by decide +kernel) rfl rfl (Nat.le_of_ble_eq_true rfl) fun p e s m args below meth c G hr => J_compare_run G hr h
set_option maxRecDepth 100000 in
set_option maxHeartbeats 4000000 in
theorem Taster_lead_l2_ok {p : Program} {l : Launch} {e : Env} {R : Room} {s : State} {m : MethodId} {args : Array Value} {below : List Frame} {meth : Method} {c : Code} {w : Wld} {Q : State → Prop} (G : Cxt p R s m args meth c w cX10_lead 7 "PotBook$Taster" 4 0 0) {v1 : Int32} {v2 : Int32} {v3 : Int32} {v5 : Int32} {μ : Mem} {o1 : Int32} : ∀ {n : Nat} {v4 : Int32} {v6 : Int32}, Taster_lead_l2 v1 v2 v3 v5 μ n v4 v6 = some o1 → Vj p l e R s m args below meth c w 7 0 0 Q 135 [some (.ref (wad w 10 0)), some (.int v1), some (.int v2), some (.int v3), some (.int o1), some (.int v5), none] [] μ → Vj p l e R s m args below meth c w 7 0 0 Q 82 [some (.ref (wad w 10 0)), some (.int v1), some (.int v2), some (.int v3), some (.int v4), some (.int v5), some (.int v6)] [] μ := by
  intro n
  induction n with
  | zero => intro v4 v6 h K; exact noS h
  | succ n ih =>
    intro v4 v6 h K
    replace h : Taster_lead_l2b v1 v2 v3 v5 μ (Taster_lead_l2 v1 v2 v3 v5 μ n) v4 v6 = some o1 := h
    unfold Taster_lead_l2b at h
    refine V_iload G eX10_lead_82 rfl ?_
    refine V_iload G eX10_lead_84 rfl ?_
    refine V_icmp_ge G eX10_lead_86 h (fun h => ?_) (fun h => ?_)
    · cases h; exact V_sub (lS_s (lS_s (lS_s (lS_s (lS_s (lS_s (lS_n lS_0))))))) K
    · refine V_iload G eX10_lead_89 rfl ?_
      refine V_aload_n (i := 0) G eX10_lead_91 rfl rfl ?_
      refine V_get (v := .ref (wad w 1106 0)) G fgX10_18 rfl eX10_lead_92 ?_
      refine V_iload G eX10_lead_95 rfl ?_
      refine V_iald G al_1106 (by decide) eX10_lead_97 h (fun x1 h => ?_)
      refine V_aload_n (i := 0) G eX10_lead_98 rfl rfl ?_
      refine V_get (v := .ref (wad w 1106 0)) G fgX10_18 rfl eX10_lead_99 ?_
      refine V_iload G eX10_lead_102 rfl ?_
      refine V_iald G al_1106 (by decide) eX10_lead_104 h (fun x2 h => ?_)
      obtain ⟨x3, h1, h⟩ := bdS h
      refine V_callIS (As := [.int x1, .int x2]) (st := [.int v4]) G lkX10_125 (J_compare_ok (μ := μ) h1) (by decide) rfl rfl (Nat.le_of_ble_eq_true rfl) eX10_lead_105 ?_
      refine V_aload_n (i := 0) G eX10_lead_108 rfl rfl ?_
      refine V_get (v := .ref (wad w 1107 0)) G fgX10_21 rfl eX10_lead_109 ?_
      refine V_iload G eX10_lead_112 rfl ?_
      refine V_iald G al_1107 (by decide) eX10_lead_114 h (fun x4 h => ?_)
      refine V_aload_n (i := 0) G eX10_lead_115 rfl rfl ?_
      refine V_get (v := .ref (wad w 1107 0)) G fgX10_21 rfl eX10_lead_116 ?_
      refine V_iload G eX10_lead_119 rfl ?_
      refine V_iald G al_1107 (by decide) eX10_lead_121 h (fun x5 h => ?_)
      obtain ⟨x6, h1, h⟩ := bdS h
      refine V_callIS (As := [.int x4, .int x5]) (st := [.int x3, .int v4]) G lkX10_125 (J_compare_ok (μ := μ) h1) (by decide) rfl rfl (Nat.le_of_ble_eq_true rfl) eX10_lead_122 ?_
      refine V_imul G eX10_lead_125 ?_
      refine V_iadd G eX10_lead_126 ?_
      refine V_istore (i := 4) (L' := (fun x7 => [some (.ref (wad w 10 0)), some (.int v1), some (.int v2), some (.int v3), some (.int x7), some (.int v5), some (.int v6)])) G eX10_lead_127 (by decide) rfl (fun _ => rfl) h (fun x7 h => ?_)
      refine V_iinc (z := (nI 1)) (L' := (fun x8 => [some (.ref (wad w 10 0)), some (.int v1), some (.int v2), some (.int v3), some (.int x7), some (.int v5), some (.int x8)])) G eX10_lead_129 rfl rfl (by decide) rfl (fun _ => rfl) h (fun x8 h => ?_)
      refine V_goto G eX10_lead_132 ?_
      exact (ih h K)
set_option maxRecDepth 100000 in
set_option maxHeartbeats 4000000 in
theorem Taster_lead_l1_ok {p : Program} {l : Launch} {e : Env} {R : Room} {s : State} {m : MethodId} {args : Array Value} {below : List Frame} {meth : Method} {c : Code} {w : Wld} {Q : State → Prop} (G : Cxt p R s m args meth c w cX10_lead 7 "PotBook$Taster" 4 0 0) {v1 : Int32} {v2 : Int32} {v3 : Int32} {o1 : Int32} {μo : Mem} : ∀ {n : Nat} {v4 : Int32} {v5 : Int32} {μ : Mem}, Taster_lead_l1 v1 v2 v3 n v4 v5 μ = some (o1, μo) → Vj p l e R s m args below meth c w 7 0 0 Q 141 [none, none, none, none, some (.int o1), none, none] [] μo → Vj p l e R s m args below meth c w 7 0 0 Q 20 [some (.ref (wad w 10 0)), some (.int v1), some (.int v2), some (.int v3), some (.int v4), some (.int v5), none] [] μ := by
  intro n
  induction n with
  | zero => intro v4 v5 μ h K; exact noS h
  | succ n ih =>
    intro v4 v5 μ h K
    replace h : Taster_lead_l1b v1 v2 v3 (Taster_lead_l1 v1 v2 v3 n) v4 v5 μ = some (o1, μo) := h
    unfold Taster_lead_l1b at h
    refine V_iload G eX10_lead_20 rfl ?_
    refine V_iload_n (i := 3) G eX10_lead_22 rfl rfl ?_
    refine V_icmp_ge G eX10_lead_23 h (fun h => ?_) (fun h => ?_)
    · cases h; exact V_sub (lS_n (lS_n (lS_n (lS_n (lS_s (lS_n (lS_n lS_0))))))) K
    · refine V_aload_n (i := 0) G eX10_lead_26 rfl rfl ?_
      refine V_get (v := .ref (wad w 8 0)) G fgX10_36 rfl eX10_lead_27 ?_
      refine V_iload G eX10_lead_30 rfl ?_
      obtain ⟨μ1, h1, h⟩ := bdS h
      refine V_callV (As := [.int v5]) (st := []) G lkX10_74 (Pot_show_ok h1) (by decide) rfl rfl (Nat.le_of_ble_eq_true rfl) eX10_lead_32 ?_
      refine V_aload_n (i := 0) G eX10_lead_35 rfl rfl ?_
      refine V_get (v := .ref (wad w 1106 0)) G fgX10_18 rfl eX10_lead_36 ?_
      refine V_iload G eX10_lead_39 rfl ?_
      refine V_aload_n (i := 0) G eX10_lead_41 rfl rfl ?_
      refine V_get (v := .ref (wad w 4 0)) G fgX10_32 rfl eX10_lead_42 ?_
      refine V_iload_n (i := 1) G eX10_lead_45 rfl rfl ?_
      refine V_aload_n (i := 0) G eX10_lead_46 rfl rfl ?_
      refine V_get (v := .ref (wad w 8 0)) G fgX10_36 rfl eX10_lead_47 ?_
      refine V_get (v := .ref (wad w 918 0)) G fgX10_78 rfl eX10_lead_50 ?_
      obtain ⟨⟨x2, μ3⟩, h1, h⟩ := bdS h
      refine V_callI (As := [.int v1, .ref (wad w 918 0)]) (st := [.int v5, .ref (wad w 1106 0)]) G lkX10_81 (Laws_valueOf_ok h1) (by decide) rfl rfl (Nat.le_of_ble_eq_true rfl) eX10_lead_53 ?_
      refine V_iast G al_1106 (by decide) eX10_lead_56 h (fun μ4 h => ?_)
      refine V_aload_n (i := 0) G eX10_lead_57 rfl rfl ?_
      refine V_get (v := .ref (wad w 1107 0)) G fgX10_21 rfl eX10_lead_58 ?_
      refine V_iload G eX10_lead_61 rfl ?_
      refine V_aload_n (i := 0) G eX10_lead_63 rfl rfl ?_
      refine V_get (v := .ref (wad w 4 0)) G fgX10_32 rfl eX10_lead_64 ?_
      refine V_iload_n (i := 2) G eX10_lead_67 rfl rfl ?_
      refine V_aload_n (i := 0) G eX10_lead_68 rfl rfl ?_
      refine V_get (v := .ref (wad w 8 0)) G fgX10_36 rfl eX10_lead_69 ?_
      refine V_get (v := .ref (wad w 918 0)) G fgX10_78 rfl eX10_lead_72 ?_
      obtain ⟨⟨x5, μ6⟩, h1, h⟩ := bdS h
      refine V_callI (As := [.int v2, .ref (wad w 918 0)]) (st := [.int v5, .ref (wad w 1107 0)]) G lkX10_81 (Laws_valueOf_ok h1) (by decide) rfl rfl (Nat.le_of_ble_eq_true rfl) eX10_lead_75 ?_
      refine V_iast G al_1107 (by decide) eX10_lead_78 h (fun μ7 h => ?_)
      refine V_iconst (n := 0) (v := (nI 0)) G eX10_lead_79 rfl ?_
      refine V_istoreA (i := 6) (L' := [some (.ref (wad w 10 0)), some (.int v1), some (.int v2), some (.int v3), some (.int v4), some (.int v5), some (.int (nI 0))]) G eX10_lead_80 (by decide) rfl rfl ?_
      obtain ⟨x8, h1, h⟩ := bdS h
      refine Taster_lead_l2_ok G h1 ?_
      refine V_iinc (z := (nI 1)) (L' := (fun x9 => [some (.ref (wad w 10 0)), some (.int v1), some (.int v2), some (.int v3), some (.int x8), some (.int x9), none])) G eX10_lead_135 rfl rfl (by decide) rfl (fun _ => rfl) h (fun x9 h => ?_)
      refine V_goto G eX10_lead_138 ?_
      exact (ih h K)
set_option maxRecDepth 100000 in
set_option maxHeartbeats 4000000 in
theorem Taster_lead_run {p : Program} {l : Launch} {e : Env} {R : Room} {s : State} {m : MethodId} {args : Array Value} {below : List Frame} {meth : Method} {c : Code} {w : Wld} (G : Cxt p R s m args meth c w cX10_lead 7 "PotBook$Taster" 4 0 0) (hr : meth.sig.returnType = some .int) {a1 : Int32} {a2 : Int32} {μ : Mem} {r : Int32} {μ' : Mem} (h : Taster_lead a1 a2 μ = some (r, μ')) : Vj p l e R s m args below meth c w 7 0 0 (MQ below (QI w r μ') args s 0 0 w.2.2.2) 0 [some (.ref (wad w 10 0)), some (.int a1), some (.int a2), none, none, none, none] [] μ := by
  unfold Taster_lead at h
  refine V_aload_n (i := 0) G eX10_lead_0 rfl rfl ?_
  refine V_get (v := .ref (wad w 8 0)) G fgX10_36 rfl eX10_lead_1 ?_
  obtain ⟨x1, h1, h⟩ := bdS h
  refine V_callI (As := []) (st := []) G lkX10_46 (Pot_shownCount_ok h1) (by decide) rfl rfl (Nat.le_of_ble_eq_true rfl) eX10_lead_4 ?_
  refine V_sipush (n := 300) (v := (nI 300)) G eX10_lead_7 rfl ?_
  refine V_jMin G mkX10_54 (by decide) (Nat.le_of_ble_eq_true rfl) eX10_lead_10 ?_
  refine V_istore_n (i := 3) (L' := (fun x2 => [some (.ref (wad w 10 0)), some (.int a1), some (.int a2), some (.int x2), none, none, none])) G rfl eX10_lead_13 (by decide) rfl (fun _ => rfl) h (fun x2 h => ?_)
  refine V_iconst (n := 0) (v := (nI 0)) G eX10_lead_14 rfl ?_
  refine V_istoreA (i := 4) (L' := [some (.ref (wad w 10 0)), some (.int a1), some (.int a2), some (.int x2), some (.int (nI 0)), none, none]) G eX10_lead_15 (by decide) rfl rfl ?_
  refine V_iconst (n := 0) (v := (nI 0)) G eX10_lead_17 rfl ?_
  refine V_istoreA (i := 5) (L' := [some (.ref (wad w 10 0)), some (.int a1), some (.int a2), some (.int x2), some (.int (nI 0)), some (.int (nI 0)), none]) G eX10_lead_18 (by decide) rfl rfl ?_
  obtain ⟨⟨x3, μ4⟩, h1, h⟩ := bdS h
  refine Taster_lead_l1_ok G h1 ?_
  refine V_iload G eX10_lead_141 rfl ?_
  exact V_riM G hr eX10_lead_143 h
theorem Taster_lead_ok {l : Launch} {w : Wld} {a1 : Int32} {a2 : Int32} {μ : Mem} {r : Int32} {μ' : Mem} (h : Taster_lead a1 a2 μ = some (r, μ')) : CtI l w yX10_lead cX10_lead 7 .int 4 [.ref (wad w 10 0), .int a1, .int a2] μ r μ' :=
  Ct_of (own := "PotBook$Taster") [some (.ref (wad w 10 0)), some (.int a1), some (.int a2), none, none, none, none] (by decide +kernel) rfl rfl (Nat.le_of_ble_eq_true rfl) fun p e s m args below meth c G hr => Taster_lead_run G hr h
set_option maxRecDepth 100000 in
set_option maxHeartbeats 4000000 in
theorem B_softer_run {p : Program} {l : Launch} {e : Env} {R : Room} {s : State} {m : MethodId} {args : Array Value} {below : List Frame} {meth : Method} {c : Code} {w : Wld} (G : Cxt p R s m args meth c w cX11_softer 5 "PotBook" 6 0 0) (hr : meth.sig.returnType = some .int) {a1 : Int32} {a2 : Int32} {a3 : Int32} {μ : Mem} {r : Int32} {μ' : Mem} (h : B_softer a1 a2 a3 μ = some (r, μ')) : Vj p l e R s m args below meth c w 5 0 0 (MQ below (QI w r μ') args s 0 0 w.2.2.2) 0 [some (.ref (wad w 11 0)), some (.int a1), some (.int a2), some (.int a3), none] [] μ := by
  unfold B_softer at h
  refine V_aload_n (i := 0) G eX11_softer_0 rfl rfl ?_
  refine V_get (v := .ref (wad w 4 0)) G fgX11_35 rfl eX11_softer_1 ?_
  refine V_iload_n (i := 2) G eX11_softer_4 rfl rfl ?_
  obtain ⟨x1, h1, h⟩ := bdS h
  refine V_callI (As := [.int a2]) (st := []) G lkX11_180 (Laws_has_ok h1) (by decide) rfl rfl (Nat.le_of_ble_eq_true rfl) eX11_softer_5 ?_
  refine V_if_eq G eX11_softer_8 h (fun h => ?_) (fun h => ?_)
  · refine V_ldc (v := (-10000000)) G cnI_X11_213 eX11_softer_22 ?_
    exact V_riM G hr eX11_softer_24 h
  · refine V_aload_n (i := 0) G eX11_softer_11 rfl rfl ?_
    refine V_get (v := .ref (wad w 4 0)) G fgX11_35 rfl eX11_softer_12 ?_
    refine V_iload_n (i := 3) G eX11_softer_15 rfl rfl ?_
    obtain ⟨x2, h1, h⟩ := bdS h
    refine V_callI (As := [.int a3]) (st := []) G lkX11_180 (Laws_has_ok h1) (by decide) rfl rfl (Nat.le_of_ble_eq_true rfl) eX11_softer_16 ?_
    refine V_if_ne G eX11_softer_19 h (fun h => ?_) (fun h => ?_)
    · refine V_aload_n (i := 0) G eX11_softer_25 rfl rfl ?_
      refine V_iload_n (i := 1) G eX11_softer_26 rfl rfl ?_
      obtain ⟨⟨x3, μ4⟩, h1, h⟩ := bdS h
      refine V_callI (As := [.int a1]) (st := []) G lkX11_187 (B_laid_ok h1) (by decide) rfl rfl (Nat.le_of_ble_eq_true rfl) eX11_softer_27 ?_
      refine V_istoreA (i := 4) (L' := [some (.ref (wad w 11 0)), some (.int a1), some (.int a2), some (.int a3), some (.int x3)]) G eX11_softer_30 (by decide) rfl rfl ?_
      refine V_iload G eX11_softer_32 rfl ?_
      refine V_if_lt G eX11_softer_34 h (fun h => ?_) (fun h => ?_)
      · refine V_ldc (v := (-10000000)) G cnI_X11_213 eX11_softer_57 ?_
        exact V_riM G hr eX11_softer_59 h
      · refine V_iload G eX11_softer_37 rfl ?_
        refine V_sipush (n := 300) (v := (nI 300)) G eX11_softer_39 rfl ?_
        refine V_icmp_gt G eX11_softer_42 h (fun h => ?_) (fun h => ?_)
        · refine V_ldc (v := (-10000000)) G cnI_X11_213 eX11_softer_57 ?_
          exact V_riM G hr eX11_softer_59 h
        · refine V_aload_n (i := 0) G eX11_softer_45 rfl rfl ?_
          refine V_get (v := .ref (wad w 10 0)) G fgX11_62 rfl eX11_softer_46 ?_
          refine V_iload_n (i := 2) G eX11_softer_49 rfl rfl ?_
          refine V_iload_n (i := 3) G eX11_softer_50 rfl rfl ?_
          obtain ⟨⟨x5, μ6⟩, h1, h⟩ := bdS h
          refine V_callI (As := [.int a2, .int a3]) (st := []) G lkX11_344 (Taster_lead_ok h1) (by decide) rfl rfl (Nat.le_of_ble_eq_true rfl) eX11_softer_51 ?_
          refine V_goto G eX11_softer_54 ?_
          exact V_riM G hr eX11_softer_59 h
    · refine V_ldc (v := (-10000000)) G cnI_X11_213 eX11_softer_22 ?_
      exact V_riM G hr eX11_softer_24 h
theorem B_softer_ok {l : Launch} {w : Wld} {a1 : Int32} {a2 : Int32} {a3 : Int32} {μ : Mem} {r : Int32} {μ' : Mem} (h : B_softer a1 a2 a3 μ = some (r, μ')) : CtI l w yX11_softer cX11_softer 5 .int 6 [.ref (wad w 11 0), .int a1, .int a2, .int a3] μ r μ' :=
  Ct_of (own := "PotBook") [some (.ref (wad w 11 0)), some (.int a1), some (.int a2), some (.int a3), none] (by decide +kernel) rfl rfl (Nat.le_of_ble_eq_true rfl) fun p e s m args below meth c G hr => B_softer_run G hr h
set_option maxRecDepth 100000 in
set_option maxHeartbeats 4000000 in
theorem Pot_isKept_l1_ok {p : Program} {l : Launch} {e : Env} {R : Room} {s : State} {m : MethodId} {args : Array Value} {below : List Frame} {meth : Method} {c : Code} {w : Wld} {Q : State → Prop} (G : Cxt p R s m args meth c w cX8_isKept 6 "PotBook$Pot" 1 0 0) {v1 : Int32} {μ : Mem} {o1 : Int32} : ∀ {n : Nat} {v2 : Int32} {v3 : Int32} {v4 : Int32}, Pot_isKept_l1 v1 μ n v2 v3 v4 = some o1 → Vj p l e R s m args below meth c w 6 0 0 Q 62 [some (.ref (wad w 8 0)), some (.int v1), some (.int o1), none, none, none] [] μ → Vj p l e R s m args below meth c w 6 0 0 Q 15 [some (.ref (wad w 8 0)), some (.int v1), some (.int v2), some (.int v3), some (.int v4), none] [] μ := by
  intro n
  induction n with
  | zero => intro v2 v3 v4 h K; exact noS h
  | succ n ih =>
    intro v2 v3 v4 h K
    replace h : Pot_isKept_l1b v1 μ (Pot_isKept_l1 v1 μ n) v2 v3 v4 = some o1 := h
    unfold Pot_isKept_l1b at h
    refine V_iload G eX8_isKept_15 rfl ?_
    refine V_bipush (n := 16) (v := (nI 16)) G eX8_isKept_17 rfl ?_
    refine V_icmp_ge G eX8_isKept_19 h (fun h => ?_) (fun h => ?_)
    · cases h; exact V_sub (lS_s (lS_s (lS_s (lS_n (lS_n (lS_n lS_0)))))) K
    · refine V_iload_n (i := 2) G eX8_isKept_22 rfl rfl ?_
      refine V_iload_n (i := 3) G eX8_isKept_23 rfl rfl ?_
      refine V_icmp_ge G eX8_isKept_24 h (fun h => ?_) (fun h => ?_)
      · cases h; exact V_sub (lS_s (lS_s (lS_s (lS_n (lS_n (lS_n lS_0)))))) K
      · refine V_iload_n (i := 2) G eX8_isKept_27 rfl rfl ?_
        refine V_iload_n (i := 3) G eX8_isKept_28 rfl rfl ?_
        refine V_iadd G eX8_isKept_29 ?_
        refine V_iconst (n := 2) (v := (nI 2)) G eX8_isKept_30 rfl ?_
        refine V_idiv G eX8_isKept_31 h (fun x1 h => ?_)
        refine V_istoreA (i := 5) (L' := [some (.ref (wad w 8 0)), some (.int v1), some (.int v2), some (.int v3), some (.int v4), some (.int x1)]) G eX8_isKept_32 (by decide) rfl rfl ?_
        refine V_aload_n (i := 0) G eX8_isKept_34 rfl rfl ?_
        refine V_get (v := .ref (wad w 913 0)) G fgX8_39 rfl eX8_isKept_35 ?_
        refine V_iload G eX8_isKept_38 rfl ?_
        refine V_iald G al_913 (by decide) eX8_isKept_40 h (fun x2 h => ?_)
        refine V_iload_n (i := 1) G eX8_isKept_41 rfl rfl ?_
        obtain ⟨⟨x4, x5⟩, hj, h⟩ := bdS h
        have J : Vj p l e R s m args below meth c w 6 0 0 Q 56 [some (.ref (wad w 8 0)), some (.int v1), some (.int x4), some (.int x5), some (.int v4), none] [] μ := by
          clear hj
          refine V_iinc (z := (nI 1)) (L' := (fun x6 => [some (.ref (wad w 8 0)), some (.int v1), some (.int x4), some (.int x5), some (.int x6), none])) G eX8_isKept_56 rfl rfl (by decide) rfl (fun _ => rfl) h (fun x6 h => ?_)
          refine V_goto G eX8_isKept_59 ?_
          exact (ih h K)
        replace h := hj
        clear hj
        refine V_icmp_ge G eX8_isKept_42 h (fun h => ?_) (fun h => ?_)
        · refine V_iload G eX8_isKept_53 rfl ?_
          refine V_istoreA_n (i := 3) (L' := [some (.ref (wad w 8 0)), some (.int v1), some (.int v2), some (.int x1), some (.int v4), some (.int x1)]) G rfl eX8_isKept_55 (by decide) rfl rfl ?_
          cases h; exact V_sub (lS_s (lS_s (lS_s (lS_s (lS_s (lS_n lS_0)))))) J
        · refine V_iload G eX8_isKept_45 rfl ?_
          refine V_iconst (n := 1) (v := (nI 1)) G eX8_isKept_47 rfl ?_
          refine V_iadd G eX8_isKept_48 ?_
          refine V_istore_n (i := 2) (L' := (fun x3 => [some (.ref (wad w 8 0)), some (.int v1), some (.int x3), some (.int v3), some (.int v4), some (.int x1)])) G rfl eX8_isKept_49 (by decide) rfl (fun _ => rfl) h (fun x3 h => ?_)
          refine V_goto G eX8_isKept_50 ?_
          cases h; exact V_sub (lS_s (lS_s (lS_s (lS_s (lS_s (lS_n lS_0)))))) J
set_option maxRecDepth 100000 in
set_option maxHeartbeats 4000000 in
theorem Pot_isKept_run {p : Program} {l : Launch} {e : Env} {R : Room} {s : State} {m : MethodId} {args : Array Value} {below : List Frame} {meth : Method} {c : Code} {w : Wld} (G : Cxt p R s m args meth c w cX8_isKept 6 "PotBook$Pot" 1 0 0) (hr : meth.sig.returnType = some .boolean) {a1 : Int32} {μ : Mem} {r : Int32} (h : Pot_isKept a1 μ = some r) : Vj p l e R s m args below meth c w 6 0 0 (MQ below (QI w r μ) args s 0 0 w.2.2.2) 0 [some (.ref (wad w 8 0)), some (.int a1), none, none, none, none] [] μ := by
  unfold Pot_isKept at h
  refine V_iconst (n := 0) (v := (nI 0)) G eX8_isKept_0 rfl ?_
  refine V_istoreA_n (i := 2) (L' := [some (.ref (wad w 8 0)), some (.int a1), some (.int (nI 0)), none, none, none]) G rfl eX8_isKept_1 (by decide) rfl rfl ?_
  refine V_aload_n (i := 0) G eX8_isKept_2 rfl rfl ?_
  refine V_get (v := .ref (wad w 910 0)) G fgX8_30 rfl eX8_isKept_3 ?_
  refine V_aload_n (i := 0) G eX8_isKept_6 rfl rfl ?_
  refine V_get (v := .int (mI μ 912 0 0)) G fgX8_36 rfl eX8_isKept_7 ?_
  refine V_iald G al_910 (by decide) eX8_isKept_10 h (fun x1 h => ?_)
  refine V_istoreA_n (i := 3) (L' := [some (.ref (wad w 8 0)), some (.int a1), some (.int (nI 0)), some (.int x1), none, none]) G rfl eX8_isKept_11 (by decide) rfl rfl ?_
  refine V_iconst (n := 0) (v := (nI 0)) G eX8_isKept_12 rfl ?_
  refine V_istoreA (i := 4) (L' := [some (.ref (wad w 8 0)), some (.int a1), some (.int (nI 0)), some (.int x1), some (.int (nI 0)), none]) G eX8_isKept_13 (by decide) rfl rfl ?_
  obtain ⟨x2, h1, h⟩ := bdS h
  refine Pot_isKept_l1_ok G h1 ?_
  refine V_iload_n (i := 2) G eX8_isKept_62 rfl rfl ?_
  refine V_aload_n (i := 0) G eX8_isKept_63 rfl rfl ?_
  refine V_get (v := .ref (wad w 910 0)) G fgX8_30 rfl eX8_isKept_64 ?_
  refine V_aload_n (i := 0) G eX8_isKept_67 rfl rfl ?_
  refine V_get (v := .int (mI μ 912 0 0)) G fgX8_36 rfl eX8_isKept_68 ?_
  refine V_iald G al_910 (by decide) eX8_isKept_71 h (fun x3 h => ?_)
  refine V_icmp_ge G eX8_isKept_72 h (fun h => ?_) (fun h => ?_)
  · refine V_iconst (n := 0) (v := (nI 0)) G eX8_isKept_89 rfl ?_
    exact V_rz G hr eX8_isKept_90 h
  · refine V_aload_n (i := 0) G eX8_isKept_75 rfl rfl ?_
    refine V_get (v := .ref (wad w 913 0)) G fgX8_39 rfl eX8_isKept_76 ?_
    refine V_iload_n (i := 2) G eX8_isKept_79 rfl rfl ?_
    refine V_iald G al_913 (by decide) eX8_isKept_80 h (fun x4 h => ?_)
    refine V_iload_n (i := 1) G eX8_isKept_81 rfl rfl ?_
    refine V_icmp_ne G eX8_isKept_82 h (fun h => ?_) (fun h => ?_)
    · refine V_iconst (n := 0) (v := (nI 0)) G eX8_isKept_89 rfl ?_
      exact V_rz G hr eX8_isKept_90 h
    · refine V_iconst (n := 1) (v := (nI 1)) G eX8_isKept_85 rfl ?_
      refine V_goto G eX8_isKept_86 ?_
      exact V_rz G hr eX8_isKept_90 h
theorem Pot_isKept_ok {l : Launch} {w : Wld} {a1 : Int32} {μ : Mem} {r : Int32} (h : Pot_isKept a1 μ = some r) : CtI l w yX8_isKept cX8_isKept 6 .boolean 1 [.ref (wad w 8 0), .int a1] μ r μ :=
  Ct_of (own := "PotBook$Pot") [some (.ref (wad w 8 0)), some (.int a1), none, none, none, none] (by decide +kernel) rfl rfl (Nat.le_of_ble_eq_true rfl) fun p e s m args below meth c G hr => Pot_isKept_run G hr h
set_option maxRecDepth 100000 in
set_option maxHeartbeats 4000000 in
theorem Pot_turns_run {p : Program} {l : Launch} {e : Env} {R : Room} {s : State} {m : MethodId} {args : Array Value} {below : List Frame} {meth : Method} {c : Code} {w : Wld} (G : Cxt p R s m args meth c w cX8_turns 8 "PotBook$Pot" 3 0 0) (hr : meth.sig.returnType = some .boolean) {a1 : Int32} {a2 : Int32} {a3 : Int32} {μ : Mem} {r : Int32} (h : Pot_turns a1 a2 a3 μ = some r) : Vj p l e R s m args below meth c w 8 0 0 (MQ below (QI w r μ) args s 0 0 w.2.2.2) 0 [some (.ref (wad w 8 0)), some (.int a1), some (.int a2), some (.int a3), none, none, none, none] [] μ := by
  unfold Pot_turns at h
  refine V_aload_n (i := 0) G eX8_turns_0 rfl rfl ?_
  refine V_iload_n (i := 1) G eX8_turns_1 rfl rfl ?_
  refine V_iload_n (i := 2) G eX8_turns_2 rfl rfl ?_
  obtain ⟨x1, h1, h⟩ := bdS h
  refine V_callI (As := [.int a1, .int a2]) (st := []) G lkX8_159 (Pot_partsAt_ok h1) (by decide) rfl rfl (Nat.le_of_ble_eq_true rfl) eX8_turns_3 ?_
  refine V_istoreA (i := 4) (L' := [some (.ref (wad w 8 0)), some (.int a1), some (.int a2), some (.int a3), some (.int x1), none, none, none]) G eX8_turns_6 (by decide) rfl rfl ?_
  refine V_aload_n (i := 0) G eX8_turns_8 rfl rfl ?_
  refine V_iload_n (i := 1) G eX8_turns_9 rfl rfl ?_
  refine V_iload_n (i := 3) G eX8_turns_10 rfl rfl ?_
  obtain ⟨x2, h1, h⟩ := bdS h
  refine V_callI (As := [.int a1, .int a3]) (st := []) G lkX8_159 (Pot_partsAt_ok h1) (by decide) rfl rfl (Nat.le_of_ble_eq_true rfl) eX8_turns_11 ?_
  refine V_istoreA (i := 5) (L' := [some (.ref (wad w 8 0)), some (.int a1), some (.int a2), some (.int a3), some (.int x1), some (.int x2), none, none]) G eX8_turns_14 (by decide) rfl rfl ?_
  refine V_iload G eX8_turns_16 rfl ?_
  refine V_iload G eX8_turns_18 rfl ?_
  refine V_isub G eX8_turns_20 ?_
  refine V_istore (i := 6) (L' := (fun x3 => [some (.ref (wad w 8 0)), some (.int a1), some (.int a2), some (.int a3), some (.int x1), some (.int x2), some (.int x3), none])) G eX8_turns_21 (by decide) rfl (fun _ => rfl) h (fun x3 h => ?_)
  refine V_iload G eX8_turns_23 rfl ?_
  refine V_aload_n (i := 0) G eX8_turns_25 rfl rfl ?_
  refine V_get (v := .ref (wad w 914 0)) G fgX8_42 rfl eX8_turns_26 ?_
  refine V_iload_n (i := 2) G eX8_turns_29 rfl rfl ?_
  refine V_iald G al_914 (by decide) eX8_turns_30 h (fun x4 h => ?_)
  refine V_aload_n (i := 0) G eX8_turns_31 rfl rfl ?_
  refine V_get (v := .ref (wad w 914 0)) G fgX8_42 rfl eX8_turns_32 ?_
  refine V_iload_n (i := 2) G eX8_turns_35 rfl rfl ?_
  refine V_iald G al_914 (by decide) eX8_turns_36 h (fun x5 h => ?_)
  refine V_aload_n (i := 0) G eX8_turns_37 rfl rfl ?_
  refine V_get (v := .ref (wad w 915 0)) G fgX8_45 rfl eX8_turns_38 ?_
  refine V_iload_n (i := 2) G eX8_turns_41 rfl rfl ?_
  refine V_iald G al_915 (by decide) eX8_turns_42 h (fun x6 h => ?_)
  refine V_iadd G eX8_turns_43 ?_
  refine V_iconst (n := 1) (v := (nI 1)) G eX8_turns_44 rfl ?_
  refine V_isub G eX8_turns_45 ?_
  obtain ⟨x7, h1, h⟩ := bdS h
  refine V_callIS (As := [.int x2, .int x4, .int ((x5 + x6) - (nI 1))]) (st := []) G lkX8_162 (B_isWithin_ok (μ := μ) h1) (by decide) rfl rfl (Nat.le_of_ble_eq_true rfl) eX8_turns_46 ?_
  obtain ⟨x12, hj, h⟩ := bdS h
  have J : Vj p l e R s m args below meth c w 8 0 0 (MQ below (QI w r μ) args s 0 0 w.2.2.2) 86 [some (.ref (wad w 8 0)), some (.int a1), some (.int a2), some (.int a3), none, none, some (.int x3), none] [.int x12] μ := by
    clear hj
    refine V_istoreA (i := 7) (L' := [some (.ref (wad w 8 0)), some (.int a1), some (.int a2), some (.int a3), none, none, some (.int x3), some (.int x12)]) G eX8_turns_86 (by decide) rfl rfl ?_
    refine V_iload G eX8_turns_88 rfl ?_
    refine V_if_eq G eX8_turns_90 h (fun h => ?_) (fun h => ?_)
    · refine V_iconst (n := 0) (v := (nI 0)) G eX8_turns_130 rfl ?_
      exact V_rz G hr eX8_turns_131 h
    · refine V_aload_n (i := 0) G eX8_turns_93 rfl rfl ?_
      refine V_aload_n (i := 0) G eX8_turns_94 rfl rfl ?_
      refine V_get (v := .ref (wad w 913 0)) G fgX8_39 rfl eX8_turns_95 ?_
      refine V_iload_n (i := 1) G eX8_turns_98 rfl rfl ?_
      refine V_iald G al_913 (by decide) eX8_turns_99 h (fun x13 h => ?_)
      refine V_iload G eX8_turns_100 rfl ?_
      refine V_aload_n (i := 0) G eX8_turns_102 rfl rfl ?_
      refine V_get (v := .ref (wad w 916 0)) G fgX8_48 rfl eX8_turns_103 ?_
      refine V_iload_n (i := 2) G eX8_turns_106 rfl rfl ?_
      refine V_iald G al_916 (by decide) eX8_turns_107 h (fun x14 h => ?_)
      refine V_imul G eX8_turns_108 ?_
      refine V_iadd G eX8_turns_109 ?_
      refine V_iload G eX8_turns_110 rfl ?_
      refine V_aload_n (i := 0) G eX8_turns_112 rfl rfl ?_
      refine V_get (v := .ref (wad w 916 0)) G fgX8_48 rfl eX8_turns_113 ?_
      refine V_iload_n (i := 3) G eX8_turns_116 rfl rfl ?_
      refine V_iald G al_916 (by decide) eX8_turns_117 h (fun x15 h => ?_)
      refine V_imul G eX8_turns_118 ?_
      refine V_isub G eX8_turns_119 ?_
      obtain ⟨x16, h1, h⟩ := bdS h
      refine V_callI (As := [.int ((x13 + (x3 * x14)) - (x3 * x15))]) (st := []) G lkX8_166 (Pot_isKept_ok h1) (by decide) rfl rfl (Nat.le_of_ble_eq_true rfl) eX8_turns_120 ?_
      refine V_if_eq G eX8_turns_123 h (fun h => ?_) (fun h => ?_)
      · refine V_iconst (n := 0) (v := (nI 0)) G eX8_turns_130 rfl ?_
        exact V_rz G hr eX8_turns_131 h
      · refine V_iconst (n := 1) (v := (nI 1)) G eX8_turns_126 rfl ?_
        refine V_goto G eX8_turns_127 ?_
        exact V_rz G hr eX8_turns_131 h
  replace h := hj
  clear hj
  refine V_if_eq G eX8_turns_49 h (fun h => ?_) (fun h => ?_)
  · refine V_iconst (n := 0) (v := (nI 0)) G eX8_turns_85 rfl ?_
    cases h; exact V_sub (lS_s (lS_s (lS_s (lS_s (lS_n (lS_n (lS_s (lS_n lS_0)))))))) J
  · refine V_iload G eX8_turns_52 rfl ?_
    refine V_aload_n (i := 0) G eX8_turns_54 rfl rfl ?_
    refine V_get (v := .ref (wad w 914 0)) G fgX8_42 rfl eX8_turns_55 ?_
    refine V_iload_n (i := 3) G eX8_turns_58 rfl rfl ?_
    refine V_iald G al_914 (by decide) eX8_turns_59 h (fun x8 h => ?_)
    refine V_aload_n (i := 0) G eX8_turns_60 rfl rfl ?_
    refine V_get (v := .ref (wad w 914 0)) G fgX8_42 rfl eX8_turns_61 ?_
    refine V_iload_n (i := 3) G eX8_turns_64 rfl rfl ?_
    refine V_iald G al_914 (by decide) eX8_turns_65 h (fun x9 h => ?_)
    refine V_aload_n (i := 0) G eX8_turns_66 rfl rfl ?_
    refine V_get (v := .ref (wad w 915 0)) G fgX8_45 rfl eX8_turns_67 ?_
    refine V_iload_n (i := 3) G eX8_turns_70 rfl rfl ?_
    refine V_iald G al_915 (by decide) eX8_turns_71 h (fun x10 h => ?_)
    refine V_iadd G eX8_turns_72 ?_
    refine V_iconst (n := 1) (v := (nI 1)) G eX8_turns_73 rfl ?_
    refine V_isub G eX8_turns_74 ?_
    obtain ⟨x11, h1, h⟩ := bdS h
    refine V_callIS (As := [.int x1, .int x8, .int ((x9 + x10) - (nI 1))]) (st := []) G lkX8_162 (B_isWithin_ok (μ := μ) h1) (by decide) rfl rfl (Nat.le_of_ble_eq_true rfl) eX8_turns_75 ?_
    refine V_if_eq G eX8_turns_78 h (fun h => ?_) (fun h => ?_)
    · refine V_iconst (n := 0) (v := (nI 0)) G eX8_turns_85 rfl ?_
      cases h; exact V_sub (lS_s (lS_s (lS_s (lS_s (lS_n (lS_n (lS_s (lS_n lS_0)))))))) J
    · refine V_iconst (n := 1) (v := (nI 1)) G eX8_turns_81 rfl ?_
      refine V_goto G eX8_turns_82 ?_
      cases h; exact V_sub (lS_s (lS_s (lS_s (lS_s (lS_n (lS_n (lS_s (lS_n lS_0)))))))) J
theorem Pot_turns_ok {l : Launch} {w : Wld} {a1 : Int32} {a2 : Int32} {a3 : Int32} {μ : Mem} {r : Int32} (h : Pot_turns a1 a2 a3 μ = some r) : CtI l w yX8_turns cX8_turns 8 .boolean 3 [.ref (wad w 8 0), .int a1, .int a2, .int a3] μ r μ :=
  Ct_of (own := "PotBook$Pot") [some (.ref (wad w 8 0)), some (.int a1), some (.int a2), some (.int a3), none, none, none, none] (by decide +kernel) rfl rfl (Nat.le_of_ble_eq_true rfl) fun p e s m args below meth c G hr => Pot_turns_run G hr h
set_option maxRecDepth 100000 in
set_option maxHeartbeats 4000000 in
theorem Taster_turnedAbout_l1_ok {p : Program} {l : Launch} {e : Env} {R : Room} {s : State} {m : MethodId} {args : Array Value} {below : List Frame} {meth : Method} {c : Code} {w : Wld} {Q : State → Prop} (G : Cxt p R s m args meth c w cX10_turnedAbout 5 "PotBook$Taster" 4 0 0) {v1 : Int32} {v2 : Int32} {μ : Mem} {o1 : Int32} : ∀ {n : Nat} {v3 : Int32} {v4 : Int32}, Taster_turnedAbout_l1 v1 v2 μ n v3 v4 = some o1 → Vj p l e R s m args below meth c w 5 0 0 Q 40 [none, none, none, some (.int o1), none] [] μ → Vj p l e R s m args below meth c w 5 0 0 Q 5 [some (.ref (wad w 10 0)), some (.int v1), some (.int v2), some (.int v3), some (.int v4)] [] μ := by
  intro n
  induction n with
  | zero => intro v3 v4 h K; exact noS h
  | succ n ih =>
    intro v3 v4 h K
    replace h : Taster_turnedAbout_l1b v1 v2 μ (Taster_turnedAbout_l1 v1 v2 μ n) v3 v4 = some o1 := h
    unfold Taster_turnedAbout_l1b at h
    refine V_iload G eX10_turnedAbout_5 rfl ?_
    refine V_aload_n (i := 0) G eX10_turnedAbout_7 rfl rfl ?_
    refine V_get (v := .ref (wad w 8 0)) G fgX10_36 rfl eX10_turnedAbout_8 ?_
    obtain ⟨x1, h1, h⟩ := bdS h
    refine V_callI (As := []) (st := [.int v4]) G lkX10_46 (Pot_shownCount_ok h1) (by decide) rfl rfl (Nat.le_of_ble_eq_true rfl) eX10_turnedAbout_11 ?_
    refine V_icmp_ge G eX10_turnedAbout_14 h (fun h => ?_) (fun h => ?_)
    · cases h; exact V_sub (lS_n (lS_n (lS_n (lS_s (lS_n lS_0))))) K
    · refine V_aload_n (i := 0) G eX10_turnedAbout_17 rfl rfl ?_
      refine V_get (v := .ref (wad w 8 0)) G fgX10_36 rfl eX10_turnedAbout_18 ?_
      refine V_iload G eX10_turnedAbout_21 rfl ?_
      refine V_iload_n (i := 1) G eX10_turnedAbout_23 rfl rfl ?_
      refine V_iload_n (i := 2) G eX10_turnedAbout_24 rfl rfl ?_
      obtain ⟨x2, h1, h⟩ := bdS h
      refine V_callI (As := [.int v4, .int v1, .int v2]) (st := []) G lkX10_128 (Pot_turns_ok h1) (by decide) rfl rfl (Nat.le_of_ble_eq_true rfl) eX10_turnedAbout_25 ?_
      obtain ⟨x4, hj, h⟩ := bdS h
      have J : Vj p l e R s m args below meth c w 5 0 0 Q 34 [some (.ref (wad w 10 0)), some (.int v1), some (.int v2), some (.int x4), some (.int v4)] [] μ := by
        clear hj
        refine V_iinc (z := (nI 1)) (L' := (fun x5 => [some (.ref (wad w 10 0)), some (.int v1), some (.int v2), some (.int x4), some (.int x5)])) G eX10_turnedAbout_34 rfl rfl (by decide) rfl (fun _ => rfl) h (fun x5 h => ?_)
        refine V_goto G eX10_turnedAbout_37 ?_
        exact (ih h K)
      replace h := hj
      clear hj
      refine V_if_eq G eX10_turnedAbout_28 h (fun h => ?_) (fun h => ?_)
      · cases h; exact J
      · refine V_iinc (z := (nI 1)) (L' := (fun x3 => [some (.ref (wad w 10 0)), some (.int v1), some (.int v2), some (.int x3), some (.int v4)])) G eX10_turnedAbout_31 rfl rfl (by decide) rfl (fun _ => rfl) h (fun x3 h => ?_)
        cases h; exact J
set_option maxRecDepth 100000 in
set_option maxHeartbeats 4000000 in
theorem Taster_turnedAbout_run {p : Program} {l : Launch} {e : Env} {R : Room} {s : State} {m : MethodId} {args : Array Value} {below : List Frame} {meth : Method} {c : Code} {w : Wld} (G : Cxt p R s m args meth c w cX10_turnedAbout 5 "PotBook$Taster" 4 0 0) (hr : meth.sig.returnType = some .int) {a1 : Int32} {a2 : Int32} {μ : Mem} {r : Int32} (h : Taster_turnedAbout a1 a2 μ = some r) : Vj p l e R s m args below meth c w 5 0 0 (MQ below (QI w r μ) args s 0 0 w.2.2.2) 0 [some (.ref (wad w 10 0)), some (.int a1), some (.int a2), none, none] [] μ := by
  unfold Taster_turnedAbout at h
  refine V_iconst (n := 0) (v := (nI 0)) G eX10_turnedAbout_0 rfl ?_
  refine V_istoreA_n (i := 3) (L' := [some (.ref (wad w 10 0)), some (.int a1), some (.int a2), some (.int (nI 0)), none]) G rfl eX10_turnedAbout_1 (by decide) rfl rfl ?_
  refine V_iconst (n := 0) (v := (nI 0)) G eX10_turnedAbout_2 rfl ?_
  refine V_istoreA (i := 4) (L' := [some (.ref (wad w 10 0)), some (.int a1), some (.int a2), some (.int (nI 0)), some (.int (nI 0))]) G eX10_turnedAbout_3 (by decide) rfl rfl ?_
  obtain ⟨x1, h1, h⟩ := bdS h
  refine Taster_turnedAbout_l1_ok G h1 ?_
  refine V_iload_n (i := 3) G eX10_turnedAbout_40 rfl rfl ?_
  exact V_ri G hr eX10_turnedAbout_41 h
theorem Taster_turnedAbout_ok {l : Launch} {w : Wld} {a1 : Int32} {a2 : Int32} {μ : Mem} {r : Int32} (h : Taster_turnedAbout a1 a2 μ = some r) : CtI l w yX10_turnedAbout cX10_turnedAbout 5 .int 4 [.ref (wad w 10 0), .int a1, .int a2] μ r μ :=
  Ct_of (own := "PotBook$Taster") [some (.ref (wad w 10 0)), some (.int a1), some (.int a2), none, none] (by decide +kernel) rfl rfl (Nat.le_of_ble_eq_true rfl) fun p e s m args below meth c G hr => Taster_turnedAbout_run G hr h
set_option maxRecDepth 100000 in
set_option maxHeartbeats 4000000 in
theorem B_swapped_run {p : Program} {l : Launch} {e : Env} {R : Room} {s : State} {m : MethodId} {args : Array Value} {below : List Frame} {meth : Method} {c : Code} {w : Wld} (G : Cxt p R s m args meth c w cX11_swapped 6 "PotBook" 6 0 0) (hr : meth.sig.returnType = some .int) {a1 : Int32} {a2 : Int32} {a3 : Int32} {μ : Mem} {r : Int32} {μ' : Mem} (h : B_swapped a1 a2 a3 μ = some (r, μ')) : Vj p l e R s m args below meth c w 6 0 0 (MQ below (QI w r μ') args s 0 0 w.2.2.2) 0 [some (.ref (wad w 11 0)), some (.int a1), some (.int a2), some (.int a3), none, none] [] μ := by
  unfold B_swapped at h
  refine V_iload_n (i := 2) G eX11_swapped_0 rfl rfl ?_
  refine V_iload_n (i := 3) G eX11_swapped_1 rfl rfl ?_
  refine V_icmp_eq G eX11_swapped_2 h (fun h => ?_) (fun h => ?_)
  · refine V_iconst (n := -1) (v := (-1)) G eX11_swapped_16 rfl ?_
    exact V_riM G hr eX11_swapped_17 h
  · refine V_aload_n (i := 0) G eX11_swapped_5 rfl rfl ?_
    refine V_get (v := .ref (wad w 6 0)) G fgX11_28 rfl eX11_swapped_6 ?_
    refine V_iload_n (i := 1) G eX11_swapped_9 rfl rfl ?_
    obtain ⟨x1, h1, h⟩ := bdS h
    refine V_callI (As := [.int a1]) (st := []) G lkX11_156 (Pages_has_ok h1) (by decide) rfl rfl (Nat.le_of_ble_eq_true rfl) eX11_swapped_10 ?_
    refine V_if_ne G eX11_swapped_13 h (fun h => ?_) (fun h => ?_)
    · refine V_aload_n (i := 0) G eX11_swapped_18 rfl rfl ?_
      refine V_get (v := .ref (wad w 6 0)) G fgX11_28 rfl eX11_swapped_19 ?_
      refine V_iload_n (i := 1) G eX11_swapped_22 rfl rfl ?_
      refine V_iload_n (i := 2) G eX11_swapped_23 rfl rfl ?_
      obtain ⟨x2, h1, h⟩ := bdS h
      refine V_callI (As := [.int a1, .int a2]) (st := []) G lkX11_197 (Pages_placeOf_ok h1) (by decide) rfl rfl (Nat.le_of_ble_eq_true rfl) eX11_swapped_24 ?_
      refine V_istoreA (i := 4) (L' := [some (.ref (wad w 11 0)), some (.int a1), some (.int a2), some (.int a3), some (.int x2), none]) G eX11_swapped_27 (by decide) rfl rfl ?_
      refine V_aload_n (i := 0) G eX11_swapped_29 rfl rfl ?_
      refine V_get (v := .ref (wad w 6 0)) G fgX11_28 rfl eX11_swapped_30 ?_
      refine V_iload_n (i := 1) G eX11_swapped_33 rfl rfl ?_
      refine V_iload_n (i := 3) G eX11_swapped_34 rfl rfl ?_
      obtain ⟨x3, h1, h⟩ := bdS h
      refine V_callI (As := [.int a1, .int a3]) (st := []) G lkX11_197 (Pages_placeOf_ok h1) (by decide) rfl rfl (Nat.le_of_ble_eq_true rfl) eX11_swapped_35 ?_
      refine V_istoreA (i := 5) (L' := [some (.ref (wad w 11 0)), some (.int a1), some (.int a2), some (.int a3), some (.int x2), some (.int x3)]) G eX11_swapped_38 (by decide) rfl rfl ?_
      refine V_iload G eX11_swapped_40 rfl ?_
      refine V_iconst (n := -1) (v := (-1)) G eX11_swapped_42 rfl ?_
      refine V_icmp_eq G eX11_swapped_43 h (fun h => ?_) (fun h => ?_)
      · refine V_iconst (n := -1) (v := (-1)) G eX11_swapped_74 rfl ?_
        exact V_riM G hr eX11_swapped_75 h
      · refine V_iload G eX11_swapped_46 rfl ?_
        refine V_iconst (n := -1) (v := (-1)) G eX11_swapped_48 rfl ?_
        refine V_icmp_eq G eX11_swapped_49 h (fun h => ?_) (fun h => ?_)
        · refine V_iconst (n := -1) (v := (-1)) G eX11_swapped_74 rfl ?_
          exact V_riM G hr eX11_swapped_75 h
        · refine V_aload_n (i := 0) G eX11_swapped_52 rfl rfl ?_
          refine V_iload_n (i := 1) G eX11_swapped_53 rfl rfl ?_
          obtain ⟨⟨x4, μ5⟩, h1, h⟩ := bdS h
          refine V_callI (As := [.int a1]) (st := []) G lkX11_187 (B_laid_ok h1) (by decide) rfl rfl (Nat.le_of_ble_eq_true rfl) eX11_swapped_54 ?_
          refine V_if_lt G eX11_swapped_57 h (fun h => ?_) (fun h => ?_)
          · refine V_iconst (n := -1) (v := (-1)) G eX11_swapped_74 rfl ?_
            exact V_riM G hr eX11_swapped_75 h
          · refine V_aload_n (i := 0) G eX11_swapped_60 rfl rfl ?_
            refine V_get (v := .ref (wad w 10 0)) G fgX11_62 rfl eX11_swapped_61 ?_
            refine V_iload G eX11_swapped_64 rfl ?_
            refine V_iload G eX11_swapped_66 rfl ?_
            obtain ⟨x6, h1, h⟩ := bdS h
            refine V_callI (As := [.int x2, .int x3]) (st := []) G lkX11_347 (Taster_turnedAbout_ok h1) (by decide) rfl rfl (Nat.le_of_ble_eq_true rfl) eX11_swapped_68 ?_
            refine V_goto G eX11_swapped_71 ?_
            exact V_riM G hr eX11_swapped_75 h
    · refine V_iconst (n := -1) (v := (-1)) G eX11_swapped_16 rfl ?_
      exact V_riM G hr eX11_swapped_17 h
theorem B_swapped_ok {l : Launch} {w : Wld} {a1 : Int32} {a2 : Int32} {a3 : Int32} {μ : Mem} {r : Int32} {μ' : Mem} (h : B_swapped a1 a2 a3 μ = some (r, μ')) : CtI l w yX11_swapped cX11_swapped 6 .int 6 [.ref (wad w 11 0), .int a1, .int a2, .int a3] μ r μ' :=
  Ct_of (own := "PotBook") [some (.ref (wad w 11 0)), some (.int a1), some (.int a2), some (.int a3), none, none] (by decide +kernel) rfl rfl (Nat.le_of_ble_eq_true rfl) fun p e s m args below meth c G hr => B_swapped_run G hr h
set_option maxRecDepth 100000 in
set_option maxHeartbeats 4000000 in
theorem B_count_run {p : Program} {l : Launch} {e : Env} {R : Room} {s : State} {m : MethodId} {args : Array Value} {below : List Frame} {meth : Method} {c : Code} {w : Wld} (G : Cxt p R s m args meth c w cX11_count 2 "PotBook" 1 0 0) (hr : meth.sig.returnType = some .int) {a1 : Int32} {μ : Mem} {r : Int32} (h : B_count a1 μ = some r) : Vj p l e R s m args below meth c w 2 0 0 (MQ below (QI w r μ) args s 0 0 w.2.2.2) 0 [some (.ref (wad w 11 0)), some (.int a1)] [] μ := by
  unfold B_count at h
  refine V_iload_n (i := 1) G eX11_count_0 rfl rfl ?_
  by_cases c0 : a1 = (nI 0)
  · rw [if_pos c0] at h
    refine V_tswIn (v := (nI 0)) (off := 51) (tgt := 52) G eX11_count_1 c0 (by decide) (by decide) rfl rfl ?_
    refine V_aload_n (i := 0) G eX11_count_52 rfl rfl ?_
    refine V_get (v := .ref (wad w 6 0)) G fgX11_28 rfl eX11_count_53 ?_
    refine V_get (v := .int (mI μ 712 0 0)) G fgX11_120 rfl eX11_count_56 ?_
    exact V_ri G hr eX11_count_59 h
  · rw [if_neg c0] at h
    by_cases c1 : a1 = (nI 1)
    · rw [if_pos c1] at h
      refine V_tswIn (v := (nI 1)) (off := 59) (tgt := 60) G eX11_count_1 c1 (by decide) (by decide) rfl rfl ?_
      refine V_aload_n (i := 0) G eX11_count_60 rfl rfl ?_
      refine V_get (v := .ref (wad w 4 0)) G fgX11_35 rfl eX11_count_61 ?_
      refine V_get (v := .int (mI μ 504 0 0)) G fgX11_126 rfl eX11_count_64 ?_
      exact V_ri G hr eX11_count_67 h
    · rw [if_neg c1] at h
      by_cases c2 : a1 = (nI 2)
      · rw [if_pos c2] at h
        refine V_tswIn (v := (nI 2)) (off := 67) (tgt := 68) G eX11_count_1 c2 (by decide) (by decide) rfl rfl ?_
        refine V_aload_n (i := 0) G eX11_count_68 rfl rfl ?_
        refine V_get (v := .ref (wad w 7 0)) G fgX11_19 rfl eX11_count_69 ?_
        refine V_get (v := .int (mI μ 808 0 0)) G fgX11_131 rfl eX11_count_72 ?_
        exact V_ri G hr eX11_count_75 h
      · rw [if_neg c2] at h
        by_cases c3 : a1 = (nI 3)
        · rw [if_pos c3] at h
          refine V_tswIn (v := (nI 3)) (off := 75) (tgt := 76) G eX11_count_1 c3 (by decide) (by decide) rfl rfl ?_
          refine V_aload_n (i := 0) G eX11_count_76 rfl rfl ?_
          refine V_get (v := .ref (wad w 8 0)) G fgX11_53 rfl eX11_count_77 ?_
          refine V_get (v := .int (mI μ 904 0 0)) G fgX11_350 rfl eX11_count_80 ?_
          exact V_ri G hr eX11_count_83 h
        · rw [if_neg c3] at h
          by_cases c4 : a1 = (nI 4)
          · rw [if_pos c4] at h
            refine V_tswIn (v := (nI 4)) (off := 83) (tgt := 84) G eX11_count_1 c4 (by decide) (by decide) rfl rfl ?_
            refine V_aload_n (i := 0) G eX11_count_84 rfl rfl ?_
            refine V_get (v := .ref (wad w 4 0)) G fgX11_35 rfl eX11_count_85 ?_
            refine V_get (v := .int (mI μ 507 0 0)) G fgX11_220 rfl eX11_count_88 ?_
            exact V_ri G hr eX11_count_91 h
          · rw [if_neg c4] at h
            by_cases c5 : a1 = (nI 5)
            · rw [if_pos c5] at h
              refine V_tswIn (v := (nI 5)) (off := 91) (tgt := 92) G eX11_count_1 c5 (by decide) (by decide) rfl rfl ?_
              refine V_aload_n (i := 0) G eX11_count_92 rfl rfl ?_
              refine V_get (v := .ref (wad w 1 0)) G fgX11_78 rfl eX11_count_93 ?_
              refine V_get (v := .int (mI μ 206 0 0)) G fgX11_234 rfl eX11_count_96 ?_
              exact V_ri G hr eX11_count_99 h
            · rw [if_neg c5] at h
              by_cases c6 : a1 = (nI 6)
              · rw [if_pos c6] at h
                refine V_tswIn (v := (nI 6)) (off := 99) (tgt := 100) G eX11_count_1 c6 (by decide) (by decide) rfl rfl ?_
                refine V_aload_n (i := 0) G eX11_count_100 rfl rfl ?_
                refine V_get (v := .ref (wad w 0 0)) G fgX11_87 rfl eX11_count_101 ?_
                refine V_get (v := .int (mI μ 106 0 0)) G fgX11_266 rfl eX11_count_104 ?_
                exact V_ri G hr eX11_count_107 h
              · rw [if_neg c6] at h
                by_cases c7 : a1 = (nI 7)
                · rw [if_pos c7] at h
                  refine V_tswIn (v := (nI 7)) (off := 107) (tgt := 108) G eX11_count_1 c7 (by decide) (by decide) rfl rfl ?_
                  refine V_aload_n (i := 0) G eX11_count_108 rfl rfl ?_
                  refine V_get (v := .ref (wad w 9 0)) G fgX11_10 rfl eX11_count_109 ?_
                  refine V_get (v := .int (mI μ 1001 0 0)) G fgX11_104 rfl eX11_count_112 ?_
                  exact V_ri G hr eX11_count_115 h
                · rw [if_neg c7] at h
                  by_cases c8 : a1 = (nI 8)
                  · rw [if_pos c8] at h
                    refine V_tswIn (v := (nI 8)) (off := 115) (tgt := 116) G eX11_count_1 c8 (by decide) (by decide) rfl rfl ?_
                    refine V_aload_n (i := 0) G eX11_count_116 rfl rfl ?_
                    refine V_get (v := .ref (wad w 8 0)) G fgX11_53 rfl eX11_count_117 ?_
                    refine V_get (v := .int (mI μ 903 0 0)) G fgX11_353 rfl eX11_count_120 ?_
                    exact V_ri G hr eX11_count_123 h
                  · rw [if_neg c8] at h
                    refine V_tswOut G eX11_count_1 (fun k h1 h2 q => ?_) (tgt := 124) rfl ?_
                    · rcases (show k = 0 ∨ k = 1 ∨ k = 2 ∨ k = 3 ∨ k = 4 ∨ k = 5 ∨ k = 6 ∨ k = 7 ∨ k = 8 by omega) with rfl | rfl | rfl | rfl | rfl | rfl | rfl | rfl | rfl
                      · exact c0 q
                      · exact c1 q
                      · exact c2 q
                      · exact c3 q
                      · exact c4 q
                      · exact c5 q
                      · exact c6 q
                      · exact c7 q
                      · exact c8 q
                    · refine V_iconst (n := -1) (v := (-1)) G eX11_count_124 rfl ?_
                      exact V_ri G hr eX11_count_125 h
theorem B_count_ok {l : Launch} {w : Wld} {a1 : Int32} {μ : Mem} {r : Int32} (h : B_count a1 μ = some r) : CtI l w yX11_count cX11_count 2 .int 1 [.ref (wad w 11 0), .int a1] μ r μ :=
  Ct_of (own := "PotBook") [some (.ref (wad w 11 0)), some (.int a1)] (by decide +kernel) rfl rfl (Nat.le_of_ble_eq_true rfl) fun p e s m args below meth c G hr => B_count_run G hr h
set_option maxRecDepth 100000 in
set_option maxHeartbeats 4000000 in
theorem M_in_run {p : Program} {l : Launch} {e : Env} {R : Room} {s : State} {m : MethodId} {args : Array Value} {below : List Frame} {meth : Method} {c : Code} {w : Wld} (G : Cxt p R s m args meth c w cX12_in 3 "PotBookModel" 1 0 0) (hr : meth.sig.returnType = some .boolean) {a1 : Int32} {a2 : Int32} {a3 : Int32} {μ : Mem} {r : Int32} (h : M_in a1 a2 a3 = some r) : Vj p l e R s m args below meth c w 3 0 0 (MQ below (QI w r μ) args s 0 0 w.2.2.2) 0 [some (.int a1), some (.int a2), some (.int a3)] [] μ := by
  unfold M_in at h
  refine V_iload_n (i := 0) G eX12_in_0 rfl rfl ?_
  refine V_iload_n (i := 1) G eX12_in_1 rfl rfl ?_
  refine V_icmp_lt G eX12_in_2 h (fun h => ?_) (fun h => ?_)
  · refine V_iconst (n := 0) (v := (nI 0)) G eX12_in_14 rfl ?_
    exact V_rz G hr eX12_in_15 h
  · refine V_iload_n (i := 0) G eX12_in_5 rfl rfl ?_
    refine V_iload_n (i := 2) G eX12_in_6 rfl rfl ?_
    refine V_icmp_gt G eX12_in_7 h (fun h => ?_) (fun h => ?_)
    · refine V_iconst (n := 0) (v := (nI 0)) G eX12_in_14 rfl ?_
      exact V_rz G hr eX12_in_15 h
    · refine V_iconst (n := 1) (v := (nI 1)) G eX12_in_10 rfl ?_
      refine V_goto G eX12_in_11 ?_
      exact V_rz G hr eX12_in_15 h
theorem M_in_ok {l : Launch} {w : Wld} {a1 : Int32} {a2 : Int32} {a3 : Int32} {μ : Mem} {r : Int32} (h : M_in a1 a2 a3 = some r) : CtI l w yX12_in cX12_in 3 .boolean 1 [.int a1, .int a2, .int a3] μ r μ :=
  Ct_of (own := "PotBookModel") [some (.int a1), some (.int a2), some (.int a3)] (by decide +kernel) rfl rfl (Nat.le_of_ble_eq_true rfl) fun p e s m args below meth c G hr => M_in_run G hr h
set_option maxRecDepth 100000 in
set_option maxHeartbeats 4000000 in
theorem M_has_run {p : Program} {l : Launch} {e : Env} {R : Room} {s : State} {m : MethodId} {args : Array Value} {below : List Frame} {meth : Method} {c : Code} {w : Wld} (G : Cxt p R s m args meth c w cX12_has 2 "PotBookModel" 1 0 0) (hr : meth.sig.returnType = some .boolean) {a1 : Int32} {a2 : Int32} {μ : Mem} {r : Int32} (h : M_has a1 a2 = some r) : Vj p l e R s m args below meth c w 2 0 0 (MQ below (QI w r μ) args s 0 0 w.2.2.2) 0 [some (.int a1), some (.int a2)] [] μ := by
  unfold M_has at h
  refine V_iload_n (i := 0) G eX12_has_0 rfl rfl ?_
  refine V_iload_n (i := 1) G eX12_has_1 rfl rfl ?_
  refine V_ishr G eX12_has_2 ?_
  refine V_iconst (n := 1) (v := (nI 1)) G eX12_has_3 rfl ?_
  refine V_iand G eX12_has_4 ?_
  refine V_iconst (n := 1) (v := (nI 1)) G eX12_has_5 rfl ?_
  refine V_icmp_ne G eX12_has_6 h (fun h => ?_) (fun h => ?_)
  · refine V_iconst (n := 0) (v := (nI 0)) G eX12_has_13 rfl ?_
    exact V_rz G hr eX12_has_14 h
  · refine V_iconst (n := 1) (v := (nI 1)) G eX12_has_9 rfl ?_
    refine V_goto G eX12_has_10 ?_
    exact V_rz G hr eX12_has_14 h
theorem M_has_ok {l : Launch} {w : Wld} {a1 : Int32} {a2 : Int32} {μ : Mem} {r : Int32} (h : M_has a1 a2 = some r) : CtI l w yX12_has cX12_has 2 .boolean 1 [.int a1, .int a2] μ r μ :=
  Ct_of (own := "PotBookModel") [some (.int a1), some (.int a2)] (by decide +kernel) rfl rfl (Nat.le_of_ble_eq_true rfl) fun p e s m args below meth c G hr => M_has_run G hr h
set_option maxRecDepth 100000 in
set_option maxHeartbeats 4000000 in
theorem M_thrown_run {p : Program} {l : Launch} {e : Env} {R : Room} {s : State} {m : MethodId} {args : Array Value} {below : List Frame} {meth : Method} {c : Code} {w : Wld} (G : Cxt p R s m args meth c w cX12_thrown 1 "PotBookModel" 1 0 0) (hr : meth.sig.returnType = some .int) {μ : Mem} {r : Int32} (h : M_thrown μ = some r) : Vj p l e R s m args below meth c w 1 0 0 (MQ below (QI w r μ) args s 0 0 w.2.2.2) 0 [some (.ref (wad w 12 0))] [] μ := by
  unfold M_thrown at h
  refine V_aload_n (i := 0) G eX12_thrown_0 rfl rfl ?_
  refine V_get (v := .int (mI μ 1300 0 0)) G fgX12_175 rfl eX12_thrown_1 ?_
  exact V_ri G hr eX12_thrown_4 h
theorem M_thrown_ok {l : Launch} {w : Wld} {μ : Mem} {r : Int32} (h : M_thrown μ = some r) : CtI l w yX12_thrown cX12_thrown 1 .int 1 [.ref (wad w 12 0)] μ r μ :=
  Ct_of (own := "PotBookModel") [some (.ref (wad w 12 0))] (by decide +kernel) rfl rfl (Nat.le_of_ble_eq_true rfl) fun p e s m args below meth c G hr => M_thrown_run G hr h
set_option maxRecDepth 100000 in
set_option maxHeartbeats 4000000 in
theorem M_byteOf_run {p : Program} {l : Launch} {e : Env} {R : Room} {s : State} {m : MethodId} {args : Array Value} {below : List Frame} {meth : Method} {c : Code} {w : Wld} (G : Cxt p R s m args meth c w cX12_byteOf 7 "PotBookModel" 1 0 0) (hr : meth.sig.returnType = some .int) {a1 : Int32} {a2 : Int32} {a3 : Int32} {a4 : Int32} {a5 : Int32} {a6 : Int32} {μ : Mem} {r : Int32} (h : M_byteOf a1 a2 a3 a4 a5 a6 = some r) : Vj p l e R s m args below meth c w 7 0 0 (MQ below (QI w r μ) args s 0 0 w.2.2.2) 0 [some (.int a1), some (.int a2), some (.int a3), some (.int a4), some (.int a5), some (.int a6), none] [] μ := by
  unfold M_byteOf at h
  refine V_iload G eX12_byteOf_0 rfl ?_
  refine V_iconst (n := 4) (v := (nI 4)) G eX12_byteOf_2 rfl ?_
  obtain ⟨x1, hj, h⟩ := bdS h
  have J : Vj p l e R s m args below meth c w 7 0 0 (MQ below (QI w r μ) args s 0 0 w.2.2.2) 45 [none, none, none, none, none, some (.int a6), none] [.int x1] μ := by
    clear hj
    refine V_istoreA (i := 6) (L' := [none, none, none, none, none, some (.int a6), some (.int x1)]) G eX12_byteOf_45 (by decide) rfl rfl ?_
    refine V_iload G eX12_byteOf_47 rfl ?_
    refine V_bipush (n := 24) (v := (nI 24)) G eX12_byteOf_49 rfl ?_
    refine V_bipush (n := 8) (v := (nI 8)) G eX12_byteOf_51 rfl ?_
    refine V_iload G eX12_byteOf_53 rfl ?_
    refine V_iconst (n := 4) (v := (nI 4)) G eX12_byteOf_55 rfl ?_
    refine V_irem G eX12_byteOf_56 h (fun x2 h => ?_)
    refine V_imul G eX12_byteOf_57 ?_
    refine V_isub G eX12_byteOf_58 ?_
    refine V_ishr G eX12_byteOf_59 ?_
    refine V_sipush (n := 255) (v := (nI 255)) G eX12_byteOf_60 rfl ?_
    refine V_iand G eX12_byteOf_63 ?_
    exact V_ri G hr eX12_byteOf_64 h
  replace h := hj
  clear hj
  refine V_icmp_ge G eX12_byteOf_3 h (fun h => ?_) (fun h => ?_)
  · refine V_iload G eX12_byteOf_10 rfl ?_
    refine V_bipush (n := 8) (v := (nI 8)) G eX12_byteOf_12 rfl ?_
    refine V_icmp_ge G eX12_byteOf_14 h (fun h => ?_) (fun h => ?_)
    · refine V_iload G eX12_byteOf_21 rfl ?_
      refine V_bipush (n := 12) (v := (nI 12)) G eX12_byteOf_23 rfl ?_
      refine V_icmp_ge G eX12_byteOf_25 h (fun h => ?_) (fun h => ?_)
      · refine V_iload G eX12_byteOf_32 rfl ?_
        refine V_bipush (n := 16) (v := (nI 16)) G eX12_byteOf_34 rfl ?_
        refine V_icmp_ge G eX12_byteOf_36 h (fun h => ?_) (fun h => ?_)
        · refine V_iload G eX12_byteOf_43 rfl ?_
          cases h; exact V_sub (lS_n (lS_n (lS_n (lS_n (lS_n (lS_s (lS_n lS_0))))))) J
        · refine V_iload_n (i := 3) G eX12_byteOf_39 rfl rfl ?_
          refine V_goto G eX12_byteOf_40 ?_
          cases h; exact V_sub (lS_n (lS_n (lS_n (lS_n (lS_n (lS_s (lS_n lS_0))))))) J
      · refine V_iload_n (i := 2) G eX12_byteOf_28 rfl rfl ?_
        refine V_goto G eX12_byteOf_29 ?_
        cases h; exact V_sub (lS_n (lS_n (lS_n (lS_n (lS_n (lS_s (lS_n lS_0))))))) J
    · refine V_iload_n (i := 1) G eX12_byteOf_17 rfl rfl ?_
      refine V_goto G eX12_byteOf_18 ?_
      cases h; exact V_sub (lS_n (lS_n (lS_n (lS_n (lS_n (lS_s (lS_n lS_0))))))) J
  · refine V_iload_n (i := 0) G eX12_byteOf_6 rfl rfl ?_
    refine V_goto G eX12_byteOf_7 ?_
    cases h; exact V_sub (lS_n (lS_n (lS_n (lS_n (lS_n (lS_s (lS_n lS_0))))))) J
theorem M_byteOf_ok {l : Launch} {w : Wld} {a1 : Int32} {a2 : Int32} {a3 : Int32} {a4 : Int32} {a5 : Int32} {a6 : Int32} {μ : Mem} {r : Int32} (h : M_byteOf a1 a2 a3 a4 a5 a6 = some r) : CtI l w yX12_byteOf cX12_byteOf 7 .int 1 [.int a1, .int a2, .int a3, .int a4, .int a5, .int a6] μ r μ :=
  Ct_of (own := "PotBookModel") [some (.int a1), some (.int a2), some (.int a3), some (.int a4), some (.int a5), some (.int a6), none] (by decide +kernel) rfl rfl (Nat.le_of_ble_eq_true rfl) fun p e s m args below meth c G hr => M_byteOf_run G hr h
set_option maxRecDepth 100000 in
set_option maxHeartbeats 4000000 in
theorem M_feed_l1_ok {p : Program} {l : Launch} {e : Env} {R : Room} {s : State} {m : MethodId} {args : Array Value} {below : List Frame} {meth : Method} {c : Code} {w : Wld} {Q : State → Prop} (G : Cxt p R s m args meth c w cX12_feed 9 "PotBookModel" 2 0 0) {v1 : Int32} {v2 : Int32} {v3 : Int32} {v4 : Int32} {v5 : Int32} {μ : Mem} {o1 : Int32} : ∀ {n : Nat} {v6 : Int32} {v7 : Int32}, M_feed_l1 v1 v2 v3 v4 v5 μ n v6 v7 = some o1 → Vj p l e R s m args below meth c w 9 0 0 Q 44 [some (.ref (wad w 12 0)), some (.int v1), some (.int v2), some (.int v3), some (.int v4), some (.int v5), some (.int o1), none, none] [] μ → Vj p l e R s m args below meth c w 9 0 0 Q 6 [some (.ref (wad w 12 0)), some (.int v1), some (.int v2), some (.int v3), some (.int v4), some (.int v5), some (.int v6), some (.int v7), none] [] μ := by
  intro n
  induction n with
  | zero => intro v6 v7 h K; exact noS h
  | succ n ih =>
    intro v6 v7 h K
    replace h : M_feed_l1b v1 v2 v3 v4 v5 μ (M_feed_l1 v1 v2 v3 v4 v5 μ n) v6 v7 = some o1 := h
    unfold M_feed_l1b at h
    refine V_iload G eX12_feed_6 rfl ?_
    refine V_bipush (n := 20) (v := (nI 20)) G eX12_feed_8 rfl ?_
    refine V_icmp_ge G eX12_feed_10 h (fun h => ?_) (fun h => ?_)
    · cases h; exact V_sub (lS_s (lS_s (lS_s (lS_s (lS_s (lS_s (lS_s (lS_n (lS_n lS_0))))))))) K
    · refine V_iload G eX12_feed_13 rfl ?_
      refine V_iload_n (i := 1) G eX12_feed_15 rfl rfl ?_
      refine V_iload_n (i := 2) G eX12_feed_16 rfl rfl ?_
      refine V_iload_n (i := 3) G eX12_feed_17 rfl rfl ?_
      refine V_iload G eX12_feed_18 rfl ?_
      refine V_iload G eX12_feed_20 rfl ?_
      refine V_iload G eX12_feed_22 rfl ?_
      obtain ⟨x1, h1, h⟩ := bdS h
      refine V_callIS (As := [.int v1, .int v2, .int v3, .int v4, .int v5, .int v7]) (st := [.int v6]) G lkX12_178 (M_byteOf_ok (μ := μ) h1) (by decide) rfl rfl (Nat.le_of_ble_eq_true rfl) eX12_feed_24 ?_
      obtain ⟨x2, hj, h⟩ := bdS h
      have J : Vj p l e R s m args below meth c w 9 0 0 Q 35 [some (.ref (wad w 12 0)), some (.int v1), some (.int v2), some (.int v3), some (.int v4), some (.int v5), none, some (.int v7), none] [.int x2, .int v6] μ := by
        clear hj
        refine V_iadd G eX12_feed_35 ?_
        refine V_istore (i := 6) (L' := (fun x3 => [some (.ref (wad w 12 0)), some (.int v1), some (.int v2), some (.int v3), some (.int v4), some (.int v5), some (.int x3), some (.int v7), none])) G eX12_feed_36 (by decide) rfl (fun _ => rfl) h (fun x3 h => ?_)
        refine V_iinc (z := (nI 1)) (L' := (fun x4 => [some (.ref (wad w 12 0)), some (.int v1), some (.int v2), some (.int v3), some (.int v4), some (.int v5), some (.int x3), some (.int x4), none])) G eX12_feed_38 rfl rfl (by decide) rfl (fun _ => rfl) h (fun x4 h => ?_)
        refine V_goto G eX12_feed_41 ?_
        exact (ih h K)
      replace h := hj
      clear hj
      refine V_if_eq G eX12_feed_27 h (fun h => ?_) (fun h => ?_)
      · refine V_iconst (n := 0) (v := (nI 0)) G eX12_feed_34 rfl ?_
        cases h; exact V_sub (lS_s (lS_s (lS_s (lS_s (lS_s (lS_s (lS_n (lS_s (lS_n lS_0))))))))) J
      · refine V_iconst (n := 1) (v := (nI 1)) G eX12_feed_30 rfl ?_
        refine V_goto G eX12_feed_31 ?_
        cases h; exact V_sub (lS_s (lS_s (lS_s (lS_s (lS_s (lS_s (lS_n (lS_s (lS_n lS_0))))))))) J
set_option maxRecDepth 100000 in
set_option maxHeartbeats 4000000 in
theorem M_feed_l2_ok {p : Program} {l : Launch} {e : Env} {R : Room} {s : State} {m : MethodId} {args : Array Value} {below : List Frame} {meth : Method} {c : Code} {w : Wld} {Q : State → Prop} (G : Cxt p R s m args meth c w cX12_feed 9 "PotBookModel" 2 0 0) {v1 : Int32} {v2 : Int32} {v3 : Int32} {v4 : Int32} {v5 : Int32} {μo : Mem} : ∀ {n : Nat} {v7 : Int32} {μ : Mem}, M_feed_l2 v1 v2 v3 v4 v5 n v7 μ = some μo → Vj p l e R s m args below meth c w 9 0 0 Q 114 [some (.ref (wad w 12 0)), none, none, none, none, none, none, none, none] [] μo → Vj p l e R s m args below meth c w 9 0 0 Q 61 [some (.ref (wad w 12 0)), some (.int v1), some (.int v2), some (.int v3), some (.int v4), some (.int v5), none, some (.int v7), none] [] μ := by
  intro n
  induction n with
  | zero => intro v7 μ h K; exact noS h
  | succ n ih =>
    intro v7 μ h K
    replace h : M_feed_l2b v1 v2 v3 v4 v5 (M_feed_l2 v1 v2 v3 v4 v5 n) v7 μ = some μo := h
    unfold M_feed_l2b at h
    refine V_iload G eX12_feed_61 rfl ?_
    refine V_bipush (n := 20) (v := (nI 20)) G eX12_feed_63 rfl ?_
    refine V_icmp_ge G eX12_feed_65 h (fun h => ?_) (fun h => ?_)
    · cases h; exact V_sub (lS_s (lS_n (lS_n (lS_n (lS_n (lS_n (lS_n (lS_n (lS_n lS_0))))))))) K
    · refine V_iload_n (i := 1) G eX12_feed_68 rfl rfl ?_
      refine V_iload_n (i := 2) G eX12_feed_69 rfl rfl ?_
      refine V_iload_n (i := 3) G eX12_feed_70 rfl rfl ?_
      refine V_iload G eX12_feed_71 rfl ?_
      refine V_iload G eX12_feed_73 rfl ?_
      refine V_iload G eX12_feed_75 rfl ?_
      obtain ⟨x1, h1, h⟩ := bdS h
      refine V_callIS (As := [.int v1, .int v2, .int v3, .int v4, .int v5, .int v7]) (st := []) G lkX12_178 (M_byteOf_ok (μ := μ) h1) (by decide) rfl rfl (Nat.le_of_ble_eq_true rfl) eX12_feed_77 ?_
      refine V_istoreA (i := 8) (L' := [some (.ref (wad w 12 0)), some (.int v1), some (.int v2), some (.int v3), some (.int v4), some (.int v5), none, some (.int v7), some (.int x1)]) G eX12_feed_80 (by decide) rfl rfl ?_
      refine V_iload G eX12_feed_82 rfl ?_
      obtain ⟨μ4, hj, h⟩ := bdS h
      have J : Vj p l e R s m args below meth c w 9 0 0 Q 108 [some (.ref (wad w 12 0)), some (.int v1), some (.int v2), some (.int v3), some (.int v4), some (.int v5), none, some (.int v7), none] [] μ4 := by
        clear hj
        refine V_iinc (z := (nI 1)) (L' := (fun x5 => [some (.ref (wad w 12 0)), some (.int v1), some (.int v2), some (.int v3), some (.int v4), some (.int v5), none, some (.int x5), none])) G eX12_feed_108 rfl rfl (by decide) rfl (fun _ => rfl) h (fun x5 h => ?_)
        refine V_goto G eX12_feed_111 ?_
        exact (ih h K)
      replace h := hj
      clear hj
      refine V_if_eq G eX12_feed_84 h (fun h => ?_) (fun h => ?_)
      · cases h; exact V_sub (lS_s (lS_s (lS_s (lS_s (lS_s (lS_s (lS_n (lS_s (lS_n lS_0))))))))) J
      · refine V_aload_n (i := 0) G eX12_feed_87 rfl rfl ?_
        refine V_get (v := .ref (wad w 1301 0)) G fgX12_7 rfl eX12_feed_88 ?_
        refine V_aload_n (i := 0) G eX12_feed_91 rfl rfl ?_
        refine V_get (v := .int (mI μ 1302 0 0)) G fgX12_182 rfl eX12_feed_92 ?_
        refine V_iload G eX12_feed_95 rfl ?_
        refine V_iast G al_1301 (by decide) eX12_feed_97 h (fun μ2 h => ?_)
        refine V_aload_n (i := 0) G eX12_feed_98 rfl rfl ?_
        refine V_dup G eX12_feed_99 rfl ?_
        refine V_get (v := .int (mI μ2 1302 0 0)) G fgX12_182 rfl eX12_feed_100 ?_
        refine V_iconst (n := 1) (v := (nI 1)) G eX12_feed_103 rfl ?_
        refine V_iadd G eX12_feed_104 ?_
        refine V_put G fgX12_182 fp_12_2 eX12_feed_105 h (fun μ3 h => ?_)
        cases h; exact V_sub (lS_s (lS_s (lS_s (lS_s (lS_s (lS_s (lS_n (lS_s (lS_n lS_0))))))))) J
set_option maxRecDepth 100000 in
set_option maxHeartbeats 4000000 in
theorem M_feed_run {p : Program} {l : Launch} {e : Env} {R : Room} {s : State} {m : MethodId} {args : Array Value} {below : List Frame} {meth : Method} {c : Code} {w : Wld} (G : Cxt p R s m args meth c w cX12_feed 9 "PotBookModel" 2 0 0) (hr : meth.sig.returnType = some .int) {a1 : Int32} {a2 : Int32} {a3 : Int32} {a4 : Int32} {a5 : Int32} {μ : Mem} {r : Int32} {μ' : Mem} (h : M_feed a1 a2 a3 a4 a5 μ = some (r, μ')) : Vj p l e R s m args below meth c w 9 0 0 (MQ below (QI w r μ') args s 0 0 w.2.2.2) 0 [some (.ref (wad w 12 0)), some (.int a1), some (.int a2), some (.int a3), some (.int a4), some (.int a5), none, none, none] [] μ := by
  unfold M_feed at h
  refine V_iconst (n := 0) (v := (nI 0)) G eX12_feed_0 rfl ?_
  refine V_istoreA (i := 6) (L' := [some (.ref (wad w 12 0)), some (.int a1), some (.int a2), some (.int a3), some (.int a4), some (.int a5), some (.int (nI 0)), none, none]) G eX12_feed_1 (by decide) rfl rfl ?_
  refine V_iconst (n := 0) (v := (nI 0)) G eX12_feed_3 rfl ?_
  refine V_istoreA (i := 7) (L' := [some (.ref (wad w 12 0)), some (.int a1), some (.int a2), some (.int a3), some (.int a4), some (.int a5), some (.int (nI 0)), some (.int (nI 0)), none]) G eX12_feed_4 (by decide) rfl rfl ?_
  obtain ⟨x1, h1, h⟩ := bdS h
  refine M_feed_l1_ok G h1 ?_
  refine V_aload_n (i := 0) G eX12_feed_44 rfl rfl ?_
  refine V_get (v := .int (mI μ 1302 0 0)) G fgX12_182 rfl eX12_feed_45 ?_
  refine V_iload G eX12_feed_48 rfl ?_
  refine V_iadd G eX12_feed_50 ?_
  refine V_bipush (n := 120) (v := (nI 120)) G eX12_feed_51 rfl ?_
  refine V_icmp_le G eX12_feed_53 h (fun h => ?_) (fun h => ?_)
  · refine V_iconst (n := 0) (v := (nI 0)) G eX12_feed_58 rfl ?_
    refine V_istoreA (i := 7) (L' := [some (.ref (wad w 12 0)), some (.int a1), some (.int a2), some (.int a3), some (.int a4), some (.int a5), some (.int x1), some (.int (nI 0)), none]) G eX12_feed_59 (by decide) rfl rfl ?_
    obtain ⟨μ2, h1, h⟩ := bdS h
    refine V_sub (lS_s (lS_s (lS_s (lS_s (lS_s (lS_s (lS_n (lS_s (lS_n lS_0))))))))) ?_
    refine M_feed_l2_ok G h1 ?_
    refine V_aload_n (i := 0) G eX12_feed_114 rfl rfl ?_
    refine V_get (v := .int (mI μ2 1302 0 0)) G fgX12_182 rfl eX12_feed_115 ?_
    exact V_riM G hr eX12_feed_118 h
  · refine V_iconst (n := -1) (v := (-1)) G eX12_feed_56 rfl ?_
    exact V_riM G hr eX12_feed_57 h
theorem M_feed_ok {l : Launch} {w : Wld} {a1 : Int32} {a2 : Int32} {a3 : Int32} {a4 : Int32} {a5 : Int32} {μ : Mem} {r : Int32} {μ' : Mem} (h : M_feed a1 a2 a3 a4 a5 μ = some (r, μ')) : CtI l w yX12_feed cX12_feed 9 .int 2 [.ref (wad w 12 0), .int a1, .int a2, .int a3, .int a4, .int a5] μ r μ' :=
  Ct_of (own := "PotBookModel") [some (.ref (wad w 12 0)), some (.int a1), some (.int a2), some (.int a3), some (.int a4), some (.int a5), none, none, none] (by decide +kernel) rfl rfl (Nat.le_of_ble_eq_true rfl) fun p e s m args below meth c G hr => M_feed_run G hr h
set_option maxRecDepth 100000 in
set_option maxHeartbeats 4000000 in
theorem M_end_run {p : Program} {l : Launch} {e : Env} {R : Room} {s : State} {m : MethodId} {args : Array Value} {below : List Frame} {meth : Method} {c : Code} {w : Wld} (G : Cxt p R s m args meth c w cX12_end 2 "PotBookModel" 1 0 0) (hr : meth.sig.returnType = some .boolean) {a1 : Int32} {μ : Mem} {r : Int32} {μ' : Mem} (h : M_end a1 μ = some (r, μ')) : Vj p l e R s m args below meth c w 2 0 0 (MQ below (QI w r μ') args s 0 0 w.2.2.2) 0 [some (.ref (wad w 12 0)), some (.int a1)] [] μ := by
  unfold M_end at h
  refine V_iload_n (i := 1) G eX12_end_0 rfl rfl ?_
  refine V_if_lt G eX12_end_1 h (fun h => ?_) (fun h => ?_)
  · refine V_iconst (n := 0) (v := (nI 0)) G eX12_end_12 rfl ?_
    exact V_rzM G hr eX12_end_13 h
  · refine V_iload_n (i := 1) G eX12_end_4 rfl rfl ?_
    refine V_aload_n (i := 0) G eX12_end_5 rfl rfl ?_
    refine V_get (v := .int (mI μ 1302 0 0)) G fgX12_182 rfl eX12_end_6 ?_
    refine V_icmp_le G eX12_end_9 h (fun h => ?_) (fun h => ?_)
    · refine V_aload_n (i := 0) G eX12_end_14 rfl rfl ?_
      refine V_iload_n (i := 1) G eX12_end_15 rfl rfl ?_
      refine V_put G fgX12_182 fp_12_2 eX12_end_16 h (fun μ1 h => ?_)
      refine V_iconst (n := 1) (v := (nI 1)) G eX12_end_19 rfl ?_
      exact V_rzM G hr eX12_end_20 h
    · refine V_iconst (n := 0) (v := (nI 0)) G eX12_end_12 rfl ?_
      exact V_rzM G hr eX12_end_13 h
theorem M_end_ok {l : Launch} {w : Wld} {a1 : Int32} {μ : Mem} {r : Int32} {μ' : Mem} (h : M_end a1 μ = some (r, μ')) : CtI l w yX12_end cX12_end 2 .boolean 1 [.ref (wad w 12 0), .int a1] μ r μ' :=
  Ct_of (own := "PotBookModel") [some (.ref (wad w 12 0)), some (.int a1)] (by decide +kernel) rfl rfl (Nat.le_of_ble_eq_true rfl) fun p e s m args below meth c G hr => M_end_run G hr h
set_option maxRecDepth 100000 in
set_option maxHeartbeats 4000000 in
theorem M_here_run {p : Program} {l : Launch} {e : Env} {R : Room} {s : State} {m : MethodId} {args : Array Value} {below : List Frame} {meth : Method} {c : Code} {w : Wld} (G : Cxt p R s m args meth c w cX12_here 1 "PotBookModel" 1 0 0) (hr : meth.sig.returnType = some .int) {μ : Mem} {r : Int32} (h : M_here μ = some r) : Vj p l e R s m args below meth c w 1 0 0 (MQ below (QI w r μ) args s 0 0 w.2.2.2) 0 [some (.ref (wad w 12 0))] [] μ := by
  unfold M_here at h
  refine V_aload_n (i := 0) G eX12_here_0 rfl rfl ?_
  refine V_get (v := .int (mI μ 1303 0 0)) G fgX12_185 rfl eX12_here_1 ?_
  refine V_aload_n (i := 0) G eX12_here_4 rfl rfl ?_
  refine V_get (v := .int (mI μ 1302 0 0)) G fgX12_182 rfl eX12_here_5 ?_
  refine V_icmp_ge G eX12_here_8 h (fun h => ?_) (fun h => ?_)
  · refine V_iconst (n := -1) (v := (-1)) G eX12_here_23 rfl ?_
    exact V_ri G hr eX12_here_24 h
  · refine V_aload_n (i := 0) G eX12_here_11 rfl rfl ?_
    refine V_get (v := .ref (wad w 1301 0)) G fgX12_7 rfl eX12_here_12 ?_
    refine V_aload_n (i := 0) G eX12_here_15 rfl rfl ?_
    refine V_get (v := .int (mI μ 1303 0 0)) G fgX12_185 rfl eX12_here_16 ?_
    refine V_iald G al_1301 (by decide) eX12_here_19 h (fun x1 h => ?_)
    refine V_goto G eX12_here_20 ?_
    exact V_ri G hr eX12_here_24 h
theorem M_here_ok {l : Launch} {w : Wld} {μ : Mem} {r : Int32} (h : M_here μ = some r) : CtI l w yX12_here cX12_here 1 .int 1 [.ref (wad w 12 0)] μ r μ :=
  Ct_of (own := "PotBookModel") [some (.ref (wad w 12 0))] (by decide +kernel) rfl rfl (Nat.le_of_ble_eq_true rfl) fun p e s m args below meth c G hr => M_here_run G hr h
set_option maxRecDepth 100000 in
set_option maxHeartbeats 4000000 in
theorem M_look_l1_ok {p : Program} {l : Launch} {e : Env} {R : Room} {s : State} {m : MethodId} {args : Array Value} {below : List Frame} {meth : Method} {c : Code} {w : Wld} {Q : State → Prop} (G : Cxt p R s m args meth c w cX12_look 1 "PotBookModel" 2 0 0) {μo : Mem} : ∀ {n : Nat} {μ : Mem}, M_look_l1 n μ = some μo → Vj p l e R s m args below meth c w 1 0 0 Q 22 [some (.ref (wad w 12 0))] [] μo → Vj p l e R s m args below meth c w 1 0 0 Q 0 [some (.ref (wad w 12 0))] [] μ := by
  intro n
  induction n with
  | zero => intro μ h K; exact noS h
  | succ n ih =>
    intro μ h K
    replace h : M_look_l1b (M_look_l1 n) μ = some μo := h
    unfold M_look_l1b at h
    refine V_aload_n (i := 0) G eX12_look_0 rfl rfl ?_
    obtain ⟨x1, h1, h⟩ := bdS h
    refine V_callI (As := []) (st := []) G lkX12_188 (M_here_ok h1) (by decide) rfl rfl (Nat.le_of_ble_eq_true rfl) eX12_look_1 ?_
    refine V_bipush (n := 32) (v := (nI 32)) G eX12_look_4 rfl ?_
    refine V_icmp_ne G eX12_look_6 h (fun h => ?_) (fun h => ?_)
    · cases h; exact K
    · refine V_aload_n (i := 0) G eX12_look_9 rfl rfl ?_
      refine V_dup G eX12_look_10 rfl ?_
      refine V_get (v := .int (mI μ 1303 0 0)) G fgX12_185 rfl eX12_look_11 ?_
      refine V_iconst (n := 1) (v := (nI 1)) G eX12_look_14 rfl ?_
      refine V_iadd G eX12_look_15 ?_
      refine V_put G fgX12_185 fp_12_3 eX12_look_16 h (fun μ2 h => ?_)
      refine V_goto G eX12_look_19 ?_
      exact (ih h K)
set_option maxRecDepth 100000 in
set_option maxHeartbeats 4000000 in
theorem M_look_run {p : Program} {l : Launch} {e : Env} {R : Room} {s : State} {m : MethodId} {args : Array Value} {below : List Frame} {meth : Method} {c : Code} {w : Wld} (G : Cxt p R s m args meth c w cX12_look 1 "PotBookModel" 2 0 0) (hr : meth.sig.returnType = some .int) {μ : Mem} {r : Int32} {μ' : Mem} (h : M_look μ = some (r, μ')) : Vj p l e R s m args below meth c w 1 0 0 (MQ below (QI w r μ') args s 0 0 w.2.2.2) 0 [some (.ref (wad w 12 0))] [] μ := by
  unfold M_look at h
  obtain ⟨μ1, h1, h⟩ := bdS h
  refine M_look_l1_ok G h1 ?_
  refine V_aload_n (i := 0) G eX12_look_22 rfl rfl ?_
  obtain ⟨x2, h1, h⟩ := bdS h
  refine V_callI (As := []) (st := []) G lkX12_188 (M_here_ok h1) (by decide) rfl rfl (Nat.le_of_ble_eq_true rfl) eX12_look_23 ?_
  exact V_riM G hr eX12_look_26 h
theorem M_look_ok {l : Launch} {w : Wld} {μ : Mem} {r : Int32} {μ' : Mem} (h : M_look μ = some (r, μ')) : CtI l w yX12_look cX12_look 1 .int 2 [.ref (wad w 12 0)] μ r μ' :=
  Ct_of (own := "PotBookModel") [some (.ref (wad w 12 0))] (by decide +kernel) rfl rfl (Nat.le_of_ble_eq_true rfl) fun p e s m args below meth c G hr => M_look_run G hr h
set_option maxRecDepth 100000 in
set_option maxHeartbeats 4000000 in
theorem M_bad_run {p : Program} {l : Launch} {e : Env} {R : Room} {s : State} {m : MethodId} {args : Array Value} {below : List Frame} {meth : Method} {c : Code} {w : Wld} (G : Cxt p R s m args meth c w cX12_bad 1 "PotBookModel" 1 0 0) (hr : meth.sig.returnType = none) {μ : Mem} {μ' : Mem} (h : M_bad μ = some μ') : Vj p l e R s m args below meth c w 1 0 0 (MQ below (QV w μ') args s 0 0 w.2.2.2) 0 [some (.ref (wad w 12 0))] [] μ := by
  unfold M_bad at h
  refine V_aload_n (i := 0) G eX12_bad_0 rfl rfl ?_
  refine V_aload_n (i := 0) G eX12_bad_1 rfl rfl ?_
  refine V_get (v := .int (mI μ 1304 0 0)) G fgX12_192 rfl eX12_bad_2 ?_
  refine V_iconst (n := -1) (v := (-1)) G eX12_bad_5 rfl ?_
  refine V_icmp_ne G eX12_bad_6 h (fun h => ?_) (fun h => ?_)
  · refine V_aload_n (i := 0) G eX12_bad_16 rfl rfl ?_
    refine V_get (v := .int (mI μ 1304 0 0)) G fgX12_192 rfl eX12_bad_17 ?_
    refine V_put G fgX12_192 fp_12_4 eX12_bad_20 h (fun μ1 h => ?_)
    exact V_rvM G hr eX12_bad_23 h
  · refine V_aload_n (i := 0) G eX12_bad_9 rfl rfl ?_
    refine V_get (v := .int (mI μ 1303 0 0)) G fgX12_185 rfl eX12_bad_10 ?_
    refine V_goto G eX12_bad_13 ?_
    refine V_put G fgX12_192 fp_12_4 eX12_bad_20 h (fun μ2 h => ?_)
    exact V_rvM G hr eX12_bad_23 h
theorem M_bad_ok {l : Launch} {w : Wld} {μ : Mem} {μ' : Mem} (h : M_bad μ = some μ') : CtV l w yX12_bad cX12_bad 1 1 [.ref (wad w 12 0)] μ μ' :=
  Ct_of (own := "PotBookModel") [some (.ref (wad w 12 0))] (by decide +kernel) rfl rfl (Nat.le_of_ble_eq_true rfl) fun p e s m args below meth c G hr => M_bad_run G hr h
set_option maxRecDepth 100000 in
set_option maxHeartbeats 4000000 in
theorem M_isDigit_run {p : Program} {l : Launch} {e : Env} {R : Room} {s : State} {m : MethodId} {args : Array Value} {below : List Frame} {meth : Method} {c : Code} {w : Wld} (G : Cxt p R s m args meth c w cX12_isDigit 1 "PotBookModel" 1 0 0) (hr : meth.sig.returnType = some .boolean) {a1 : Int32} {μ : Mem} {r : Int32} (h : M_isDigit a1 = some r) : Vj p l e R s m args below meth c w 1 0 0 (MQ below (QI w r μ) args s 0 0 w.2.2.2) 0 [some (.int a1)] [] μ := by
  unfold M_isDigit at h
  refine V_iload_n (i := 0) G eX12_isDigit_0 rfl rfl ?_
  refine V_bipush (n := 48) (v := (nI 48)) G eX12_isDigit_1 rfl ?_
  refine V_icmp_lt G eX12_isDigit_3 h (fun h => ?_) (fun h => ?_)
  · refine V_iconst (n := 0) (v := (nI 0)) G eX12_isDigit_16 rfl ?_
    exact V_rz G hr eX12_isDigit_17 h
  · refine V_iload_n (i := 0) G eX12_isDigit_6 rfl rfl ?_
    refine V_bipush (n := 57) (v := (nI 57)) G eX12_isDigit_7 rfl ?_
    refine V_icmp_gt G eX12_isDigit_9 h (fun h => ?_) (fun h => ?_)
    · refine V_iconst (n := 0) (v := (nI 0)) G eX12_isDigit_16 rfl ?_
      exact V_rz G hr eX12_isDigit_17 h
    · refine V_iconst (n := 1) (v := (nI 1)) G eX12_isDigit_12 rfl ?_
      refine V_goto G eX12_isDigit_13 ?_
      exact V_rz G hr eX12_isDigit_17 h
theorem M_isDigit_ok {l : Launch} {w : Wld} {a1 : Int32} {μ : Mem} {r : Int32} (h : M_isDigit a1 = some r) : CtI l w yX12_isDigit cX12_isDigit 1 .boolean 1 [.int a1] μ r μ :=
  Ct_of (own := "PotBookModel") [some (.int a1)] (by decide +kernel) rfl rfl (Nat.le_of_ble_eq_true rfl) fun p e s m args below meth c G hr => M_isDigit_run G hr h
set_option maxRecDepth 100000 in
set_option maxHeartbeats 4000000 in
theorem M_isThing_run {p : Program} {l : Launch} {e : Env} {R : Room} {s : State} {m : MethodId} {args : Array Value} {below : List Frame} {meth : Method} {c : Code} {w : Wld} (G : Cxt p R s m args meth c w cX12_isThing 2 "PotBookModel" 2 0 0) (hr : meth.sig.returnType = some .boolean) {a1 : Int32} {μ : Mem} {r : Int32} (h : M_isThing a1 μ = some r) : Vj p l e R s m args below meth c w 2 0 0 (MQ below (QI w r μ) args s 0 0 w.2.2.2) 0 [some (.ref (wad w 12 0)), some (.int a1)] [] μ := by
  unfold M_isThing at h
  refine V_iload_n (i := 1) G eX12_isThing_0 rfl rfl ?_
  refine V_iconst (n := 0) (v := (nI 0)) G eX12_isThing_1 rfl ?_
  refine V_aload_n (i := 0) G eX12_isThing_2 rfl rfl ?_
  refine V_get (v := .int (mI μ 1314 0 0)) G fgX12_195 rfl eX12_isThing_3 ?_
  refine V_iconst (n := 1) (v := (nI 1)) G eX12_isThing_6 rfl ?_
  refine V_isub G eX12_isThing_7 ?_
  obtain ⟨x1, h1, h⟩ := bdS h
  refine V_callIS (As := [.int a1, .int (nI 0), .int ((mI μ 1314 0 0) - (nI 1))]) (st := []) G lkX12_198 (M_in_ok (μ := μ) h1) (by decide) rfl rfl (Nat.le_of_ble_eq_true rfl) eX12_isThing_8 ?_
  exact V_rz G hr eX12_isThing_11 h
theorem M_isThing_ok {l : Launch} {w : Wld} {a1 : Int32} {μ : Mem} {r : Int32} (h : M_isThing a1 μ = some r) : CtI l w yX12_isThing cX12_isThing 2 .boolean 2 [.ref (wad w 12 0), .int a1] μ r μ :=
  Ct_of (own := "PotBookModel") [some (.ref (wad w 12 0)), some (.int a1)] (by decide +kernel) rfl rfl (Nat.le_of_ble_eq_true rfl) fun p e s m args below meth c G hr => M_isThing_run G hr h
set_option maxRecDepth 100000 in
set_option maxHeartbeats 4000000 in
theorem M_thing_l1_ok {p : Program} {l : Launch} {e : Env} {R : Room} {s : State} {m : MethodId} {args : Array Value} {below : List Frame} {meth : Method} {c : Code} {w : Wld} {Q : State → Prop} (G : Cxt p R s m args meth c w cX12_thing 9 "PotBookModel" 2 0 0) {v6 : Int32} {μ : Mem} {o1 : Int32} : ∀ {n : Nat} {v7 : Int32} {v8 : Int32}, M_thing_l1 v6 n v7 v8 = some o1 → Vj p l e R s m args below meth c w 9 0 0 Q 147 [some (.ref (wad w 12 0)), none, none, none, none, none, none, some (.int o1), none] [] μ → Vj p l e R s m args below meth c w 9 0 0 Q 116 [some (.ref (wad w 12 0)), none, none, none, none, none, some (.int v6), some (.int v7), some (.int v8)] [] μ := by
  intro n
  induction n with
  | zero => intro v7 v8 h K; exact noS h
  | succ n ih =>
    intro v7 v8 h K
    replace h : M_thing_l1b v6 (M_thing_l1 v6 n) v7 v8 = some o1 := h
    unfold M_thing_l1b at h
    refine V_iload G eX12_thing_116 rfl ?_
    refine V_iload G eX12_thing_118 rfl ?_
    refine V_icmp_eq G eX12_thing_120 h (fun h => ?_) (fun h => ?_)
    · cases h; exact V_sub (lS_s (lS_n (lS_n (lS_n (lS_n (lS_n (lS_n (lS_s (lS_n lS_0))))))))) K
    · refine V_iload G eX12_thing_123 rfl ?_
      refine V_iconst (n := 1) (v := (nI 1)) G eX12_thing_125 rfl ?_
      refine V_iload G eX12_thing_126 rfl ?_
      refine V_bipush (n := 12) (v := (nI 12)) G eX12_thing_128 rfl ?_
      refine V_irem G eX12_thing_130 h (fun x1 h => ?_)
      refine V_ishl G eX12_thing_131 ?_
      refine V_ior G eX12_thing_132 ?_
      refine V_istore (i := 7) (L' := (fun x2 => [some (.ref (wad w 12 0)), none, none, none, none, none, some (.int v6), some (.int x2), some (.int v8)])) G eX12_thing_133 (by decide) rfl (fun _ => rfl) h (fun x2 h => ?_)
      refine V_iload G eX12_thing_135 rfl ?_
      refine V_bipush (n := 12) (v := (nI 12)) G eX12_thing_137 rfl ?_
      refine V_irem G eX12_thing_139 h (fun x3 h => ?_)
      refine V_iconst (n := 1) (v := (nI 1)) G eX12_thing_140 rfl ?_
      refine V_iadd G eX12_thing_141 ?_
      refine V_istore (i := 8) (L' := (fun x4 => [some (.ref (wad w 12 0)), none, none, none, none, none, some (.int v6), some (.int x2), some (.int x4)])) G eX12_thing_142 (by decide) rfl (fun _ => rfl) h (fun x4 h => ?_)
      refine V_goto G eX12_thing_144 ?_
      exact (ih h K)
set_option maxRecDepth 100000 in
set_option maxHeartbeats 4000000 in
theorem M_thing_run {p : Program} {l : Launch} {e : Env} {R : Room} {s : State} {m : MethodId} {args : Array Value} {below : List Frame} {meth : Method} {c : Code} {w : Wld} (G : Cxt p R s m args meth c w cX12_thing 9 "PotBookModel" 2 0 0) (hr : meth.sig.returnType = some .int) {a1 : Int32} {a2 : Int32} {a3 : Int32} {a4 : Int32} {a5 : Int32} {a6 : Int32} {μ : Mem} {r : Int32} {μ' : Mem} (h : M_thing a1 a2 a3 a4 a5 a6 μ = some (r, μ')) : Vj p l e R s m args below meth c w 9 0 0 (MQ below (QI w r μ') args s 0 0 w.2.2.2) 0 [some (.ref (wad w 12 0)), some (.int a1), some (.int a2), some (.int a3), some (.int a4), some (.int a5), some (.int a6), none, none] [] μ := by
  unfold M_thing at h
  refine V_iload_n (i := 1) G eX12_thing_0 rfl rfl ?_
  refine V_iconst (n := 0) (v := (nI 0)) G eX12_thing_1 rfl ?_
  refine V_bipush (n := 99) (v := (nI 99)) G eX12_thing_2 rfl ?_
  obtain ⟨x1, h1, h⟩ := bdS h
  refine V_callIS (As := [.int a1, .int (nI 0), .int (nI 99)]) (st := []) G lkX12_198 (M_in_ok (μ := μ) h1) (by decide) rfl rfl (Nat.le_of_ble_eq_true rfl) eX12_thing_4 ?_
  refine V_if_eq G eX12_thing_7 h (fun h => ?_) (fun h => ?_)
  · refine V_iconst (n := -1) (v := (-1)) G eX12_thing_61 rfl ?_
    exact V_riM G hr eX12_thing_62 h
  · refine V_iload_n (i := 2) G eX12_thing_10 rfl rfl ?_
    refine V_iconst (n := 0) (v := (nI 0)) G eX12_thing_11 rfl ?_
    refine V_bipush (n := 99) (v := (nI 99)) G eX12_thing_12 rfl ?_
    obtain ⟨x2, h1, h⟩ := bdS h
    refine V_callIS (As := [.int a2, .int (nI 0), .int (nI 99)]) (st := []) G lkX12_198 (M_in_ok (μ := μ) h1) (by decide) rfl rfl (Nat.le_of_ble_eq_true rfl) eX12_thing_14 ?_
    refine V_if_eq G eX12_thing_17 h (fun h => ?_) (fun h => ?_)
    · refine V_iconst (n := -1) (v := (-1)) G eX12_thing_61 rfl ?_
      exact V_riM G hr eX12_thing_62 h
    · refine V_iload_n (i := 3) G eX12_thing_20 rfl rfl ?_
      refine V_iconst (n := 0) (v := (nI 0)) G eX12_thing_21 rfl ?_
      refine V_bipush (n := 99) (v := (nI 99)) G eX12_thing_22 rfl ?_
      obtain ⟨x3, h1, h⟩ := bdS h
      refine V_callIS (As := [.int a3, .int (nI 0), .int (nI 99)]) (st := []) G lkX12_198 (M_in_ok (μ := μ) h1) (by decide) rfl rfl (Nat.le_of_ble_eq_true rfl) eX12_thing_24 ?_
      refine V_if_eq G eX12_thing_27 h (fun h => ?_) (fun h => ?_)
      · refine V_iconst (n := -1) (v := (-1)) G eX12_thing_61 rfl ?_
        exact V_riM G hr eX12_thing_62 h
      · refine V_iload G eX12_thing_30 rfl ?_
        refine V_iconst (n := 1) (v := (nI 1)) G eX12_thing_32 rfl ?_
        refine V_bipush (n := 12) (v := (nI 12)) G eX12_thing_33 rfl ?_
        obtain ⟨x4, h1, h⟩ := bdS h
        refine V_callIS (As := [.int a5, .int (nI 1), .int (nI 12)]) (st := []) G lkX12_198 (M_in_ok (μ := μ) h1) (by decide) rfl rfl (Nat.le_of_ble_eq_true rfl) eX12_thing_35 ?_
        refine V_if_eq G eX12_thing_38 h (fun h => ?_) (fun h => ?_)
        · refine V_iconst (n := -1) (v := (-1)) G eX12_thing_61 rfl ?_
          exact V_riM G hr eX12_thing_62 h
        · refine V_iload G eX12_thing_41 rfl ?_
          refine V_iconst (n := 1) (v := (nI 1)) G eX12_thing_43 rfl ?_
          refine V_bipush (n := 12) (v := (nI 12)) G eX12_thing_44 rfl ?_
          obtain ⟨x5, h1, h⟩ := bdS h
          refine V_callIS (As := [.int a6, .int (nI 1), .int (nI 12)]) (st := []) G lkX12_198 (M_in_ok (μ := μ) h1) (by decide) rfl rfl (Nat.le_of_ble_eq_true rfl) eX12_thing_46 ?_
          refine V_if_eq G eX12_thing_49 h (fun h => ?_) (fun h => ?_)
          · refine V_iconst (n := -1) (v := (-1)) G eX12_thing_61 rfl ?_
            exact V_riM G hr eX12_thing_62 h
          · refine V_aload_n (i := 0) G eX12_thing_52 rfl rfl ?_
            refine V_get (v := .int (mI μ 1314 0 0)) G fgX12_195 rfl eX12_thing_53 ?_
            refine V_bipush (n := 12) (v := (nI 12)) G eX12_thing_56 rfl ?_
            refine V_icmp_ne G eX12_thing_58 h (fun h => ?_) (fun h => ?_)
            · refine V_aload_n (i := 0) G eX12_thing_63 rfl rfl ?_
              refine V_get (v := .ref (wad w 1306 0)) G fgX12_13 rfl eX12_thing_64 ?_
              refine V_aload_n (i := 0) G eX12_thing_67 rfl rfl ?_
              refine V_get (v := .int (mI μ 1314 0 0)) G fgX12_195 rfl eX12_thing_68 ?_
              refine V_iload_n (i := 1) G eX12_thing_71 rfl rfl ?_
              refine V_iast G al_1306 (by decide) eX12_thing_72 h (fun μ6 h => ?_)
              refine V_aload_n (i := 0) G eX12_thing_73 rfl rfl ?_
              refine V_get (v := .ref (wad w 1307 0)) G fgX12_16 rfl eX12_thing_74 ?_
              refine V_aload_n (i := 0) G eX12_thing_77 rfl rfl ?_
              refine V_get (v := .int (mI μ6 1314 0 0)) G fgX12_195 rfl eX12_thing_78 ?_
              refine V_iload_n (i := 2) G eX12_thing_81 rfl rfl ?_
              refine V_iast G al_1307 (by decide) eX12_thing_82 h (fun μ7 h => ?_)
              refine V_aload_n (i := 0) G eX12_thing_83 rfl rfl ?_
              refine V_get (v := .ref (wad w 1308 0)) G fgX12_19 rfl eX12_thing_84 ?_
              refine V_aload_n (i := 0) G eX12_thing_87 rfl rfl ?_
              refine V_get (v := .int (mI μ7 1314 0 0)) G fgX12_195 rfl eX12_thing_88 ?_
              refine V_iload_n (i := 3) G eX12_thing_91 rfl rfl ?_
              refine V_iast G al_1308 (by decide) eX12_thing_92 h (fun μ8 h => ?_)
              refine V_aload_n (i := 0) G eX12_thing_93 rfl rfl ?_
              refine V_get (v := .ref (wad w 1309 0)) G fgX12_22 rfl eX12_thing_94 ?_
              refine V_aload_n (i := 0) G eX12_thing_97 rfl rfl ?_
              refine V_get (v := .int (mI μ8 1314 0 0)) G fgX12_195 rfl eX12_thing_98 ?_
              refine V_iload G eX12_thing_101 rfl ?_
              refine V_zast G al_1309 (by decide) eX12_thing_103 h (fun μ9 h => ?_)
              refine V_iconst (n := 1) (v := (nI 1)) G eX12_thing_104 rfl ?_
              refine V_iload G eX12_thing_105 rfl ?_
              refine V_iconst (n := 1) (v := (nI 1)) G eX12_thing_107 rfl ?_
              refine V_isub G eX12_thing_108 ?_
              refine V_ishl G eX12_thing_109 ?_
              refine V_istore (i := 7) (L' := (fun x10 => [some (.ref (wad w 12 0)), some (.int a1), some (.int a2), some (.int a3), some (.int a4), some (.int a5), some (.int a6), some (.int x10), none])) G eX12_thing_110 (by decide) rfl (fun _ => rfl) h (fun x10 h => ?_)
              refine V_iload G eX12_thing_112 rfl ?_
              refine V_istoreA (i := 8) (L' := [some (.ref (wad w 12 0)), some (.int a1), some (.int a2), some (.int a3), some (.int a4), some (.int a5), some (.int a6), some (.int x10), some (.int a5)]) G eX12_thing_114 (by decide) rfl rfl ?_
              obtain ⟨x11, h1, h⟩ := bdS h
              refine V_sub (lS_s (lS_n (lS_n (lS_n (lS_n (lS_n (lS_s (lS_s (lS_s lS_0))))))))) ?_
              refine M_thing_l1_ok G h1 ?_
              refine V_aload_n (i := 0) G eX12_thing_147 rfl rfl ?_
              refine V_get (v := .ref (wad w 1310 0)) G fgX12_26 rfl eX12_thing_148 ?_
              refine V_aload_n (i := 0) G eX12_thing_151 rfl rfl ?_
              refine V_get (v := .int (mI μ9 1314 0 0)) G fgX12_195 rfl eX12_thing_152 ?_
              refine V_iload G eX12_thing_155 rfl ?_
              refine V_iast G al_1310 (by decide) eX12_thing_157 h (fun μ12 h => ?_)
              refine V_aload_n (i := 0) G eX12_thing_158 rfl rfl ?_
              refine V_dup G eX12_thing_159 rfl ?_
              refine V_get (v := .int (mI μ12 1314 0 0)) G fgX12_195 rfl eX12_thing_160 ?_
              refine V_iconst (n := 1) (v := (nI 1)) G eX12_thing_163 rfl ?_
              refine V_iadd G eX12_thing_164 ?_
              refine V_put G fgX12_195 fp_12_14 eX12_thing_165 h (fun μ13 h => ?_)
              refine V_aload_n (i := 0) G eX12_thing_168 rfl rfl ?_
              refine V_get (v := .int (mI μ13 1314 0 0)) G fgX12_195 rfl eX12_thing_169 ?_
              refine V_iconst (n := 1) (v := (nI 1)) G eX12_thing_172 rfl ?_
              refine V_isub G eX12_thing_173 ?_
              exact V_riM G hr eX12_thing_174 h
            · refine V_iconst (n := -1) (v := (-1)) G eX12_thing_61 rfl ?_
              exact V_riM G hr eX12_thing_62 h
theorem M_thing_ok {l : Launch} {w : Wld} {a1 : Int32} {a2 : Int32} {a3 : Int32} {a4 : Int32} {a5 : Int32} {a6 : Int32} {μ : Mem} {r : Int32} {μ' : Mem} (h : M_thing a1 a2 a3 a4 a5 a6 μ = some (r, μ')) : CtI l w yX12_thing cX12_thing 9 .int 2 [.ref (wad w 12 0), .int a1, .int a2, .int a3, .int a4, .int a5, .int a6] μ r μ' :=
  Ct_of (own := "PotBookModel") [some (.ref (wad w 12 0)), some (.int a1), some (.int a2), some (.int a3), some (.int a4), some (.int a5), some (.int a6), none, none] (by decide +kernel) rfl rfl (Nat.le_of_ble_eq_true rfl) fun p e s m args below meth c G hr => M_thing_run G hr h
set_option maxRecDepth 100000 in
set_option maxHeartbeats 4000000 in
theorem M_isYear_run {p : Program} {l : Launch} {e : Env} {R : Room} {s : State} {m : MethodId} {args : Array Value} {below : List Frame} {meth : Method} {c : Code} {w : Wld} (G : Cxt p R s m args meth c w cX12_isYear 1 "PotBookModel" 2 0 0) (hr : meth.sig.returnType = some .boolean) {a1 : Int32} {μ : Mem} {r : Int32} (h : M_isYear a1 = some r) : Vj p l e R s m args below meth c w 1 0 0 (MQ below (QI w r μ) args s 0 0 w.2.2.2) 0 [some (.int a1)] [] μ := by
  unfold M_isYear at h
  refine V_iload_n (i := 0) G eX12_isYear_0 rfl rfl ?_
  refine V_sipush (n := 1200) (v := (nI 1200)) G eX12_isYear_1 rfl ?_
  refine V_sipush (n := 1999) (v := (nI 1999)) G eX12_isYear_4 rfl ?_
  obtain ⟨x1, h1, h⟩ := bdS h
  refine V_callIS (As := [.int a1, .int (nI 1200), .int (nI 1999)]) (st := []) G lkX12_198 (M_in_ok (μ := μ) h1) (by decide) rfl rfl (Nat.le_of_ble_eq_true rfl) eX12_isYear_7 ?_
  exact V_rz G hr eX12_isYear_10 h
theorem M_isYear_ok {l : Launch} {w : Wld} {a1 : Int32} {μ : Mem} {r : Int32} (h : M_isYear a1 = some r) : CtI l w yX12_isYear cX12_isYear 1 .boolean 2 [.int a1] μ r μ :=
  Ct_of (own := "PotBookModel") [some (.int a1)] (by decide +kernel) rfl rfl (Nat.le_of_ble_eq_true rfl) fun p e s m args below meth c G hr => M_isYear_run G hr h
set_option maxRecDepth 100000 in
set_option maxHeartbeats 4000000 in
theorem M_sized_run {p : Program} {l : Launch} {e : Env} {R : Room} {s : State} {m : MethodId} {args : Array Value} {below : List Frame} {meth : Method} {c : Code} {w : Wld} (G : Cxt p R s m args meth c w cX12_sized 4 "PotBookModel" 3 0 0) (hr : meth.sig.returnType = some .int) {a1 : Int32} {a2 : Int32} {a3 : Int32} {μ : Mem} {r : Int32} {μ' : Mem} (h : M_sized a1 a2 a3 μ = some (r, μ')) : Vj p l e R s m args below meth c w 4 0 0 (MQ below (QI w r μ') args s 0 0 w.2.2.2) 0 [some (.ref (wad w 12 0)), some (.int a1), some (.int a2), some (.int a3)] [] μ := by
  unfold M_sized at h
  refine V_aload_n (i := 0) G eX12_sized_0 rfl rfl ?_
  refine V_iload_n (i := 1) G eX12_sized_1 rfl rfl ?_
  obtain ⟨x1, h1, h⟩ := bdS h
  refine V_callI (As := [.int a1]) (st := []) G lkX12_202 (M_isThing_ok h1) (by decide) rfl rfl (Nat.le_of_ble_eq_true rfl) eX12_sized_2 ?_
  refine V_if_eq G eX12_sized_5 h (fun h => ?_) (fun h => ?_)
  · refine V_iconst (n := -1) (v := (-1)) G eX12_sized_68 rfl ?_
    exact V_riM G hr eX12_sized_69 h
  · refine V_iload_n (i := 2) G eX12_sized_8 rfl rfl ?_
    obtain ⟨x2, h1, h⟩ := bdS h
    refine V_callIS (As := [.int a2]) (st := []) G lkX12_206 (M_isYear_ok (μ := μ) h1) (by decide) rfl rfl (Nat.le_of_ble_eq_true rfl) eX12_sized_9 ?_
    refine V_if_eq G eX12_sized_12 h (fun h => ?_) (fun h => ?_)
    · refine V_iconst (n := -1) (v := (-1)) G eX12_sized_68 rfl ?_
      exact V_riM G hr eX12_sized_69 h
    · refine V_iload_n (i := 3) G eX12_sized_15 rfl rfl ?_
      refine V_iconst (n := 1) (v := (nI 1)) G eX12_sized_16 rfl ?_
      refine V_sipush (n := 999) (v := (nI 999)) G eX12_sized_17 rfl ?_
      obtain ⟨x3, h1, h⟩ := bdS h
      refine V_callIS (As := [.int a3, .int (nI 1), .int (nI 999)]) (st := []) G lkX12_198 (M_in_ok (μ := μ) h1) (by decide) rfl rfl (Nat.le_of_ble_eq_true rfl) eX12_sized_20 ?_
      refine V_if_eq G eX12_sized_23 h (fun h => ?_) (fun h => ?_)
      · refine V_iconst (n := -1) (v := (-1)) G eX12_sized_68 rfl ?_
        exact V_riM G hr eX12_sized_69 h
      · refine V_aload_n (i := 0) G eX12_sized_26 rfl rfl ?_
        refine V_get (v := .ref (wad w 1311 0)) G fgX12_29 rfl eX12_sized_27 ?_
        refine V_iload_n (i := 1) G eX12_sized_30 rfl rfl ?_
        refine V_iald G al_1311 (by decide) eX12_sized_31 h (fun x4 h => ?_)
        refine V_bipush (n := 6) (v := (nI 6)) G eX12_sized_32 rfl ?_
        refine V_icmp_eq G eX12_sized_34 h (fun h => ?_) (fun h => ?_)
        · refine V_iconst (n := -1) (v := (-1)) G eX12_sized_68 rfl ?_
          exact V_riM G hr eX12_sized_69 h
        · refine V_aload_n (i := 0) G eX12_sized_37 rfl rfl ?_
          refine V_get (v := .ref (wad w 1311 0)) G fgX12_29 rfl eX12_sized_38 ?_
          refine V_iload_n (i := 1) G eX12_sized_41 rfl rfl ?_
          refine V_iald G al_1311 (by decide) eX12_sized_42 h (fun x5 h => ?_)
          obtain ⟨k8, hkk8, h⟩ := kE h
          have Jk8 :  k8 () = some (r, μ') → Vj p l e R s m args below meth c w 4 0 0 (MQ below (QI w r μ') args s 0 0 w.2.2.2) 70 [some (.ref (wad w 12 0)), some (.int a1), some (.int a2), some (.int a3)] [] μ := by
            clear h
            intro h
            rw [hkk8] at h
            clear hkk8
            refine V_aload_n (i := 0) G eX12_sized_70 rfl rfl ?_
            refine V_get (v := .ref (wad w 1312 0)) G fgX12_32 rfl eX12_sized_71 ?_
            refine V_bipush (n := 6) (v := (nI 6)) G eX12_sized_74 rfl ?_
            refine V_iload_n (i := 1) G eX12_sized_76 rfl rfl ?_
            refine V_imul G eX12_sized_77 ?_
            refine V_aload_n (i := 0) G eX12_sized_78 rfl rfl ?_
            refine V_get (v := .ref (wad w 1311 0)) G fgX12_29 rfl eX12_sized_79 ?_
            refine V_iload_n (i := 1) G eX12_sized_82 rfl rfl ?_
            refine V_iald G al_1311 (by decide) eX12_sized_83 h (fun x9 h => ?_)
            refine V_iadd G eX12_sized_84 ?_
            refine V_iload_n (i := 2) G eX12_sized_85 rfl rfl ?_
            refine V_iast G al_1312 (by decide) eX12_sized_86 h (fun μ10 h => ?_)
            refine V_aload_n (i := 0) G eX12_sized_87 rfl rfl ?_
            refine V_get (v := .ref (wad w 1313 0)) G fgX12_35 rfl eX12_sized_88 ?_
            refine V_bipush (n := 6) (v := (nI 6)) G eX12_sized_91 rfl ?_
            refine V_iload_n (i := 1) G eX12_sized_93 rfl rfl ?_
            refine V_imul G eX12_sized_94 ?_
            refine V_aload_n (i := 0) G eX12_sized_95 rfl rfl ?_
            refine V_get (v := .ref (wad w 1311 0)) G fgX12_29 rfl eX12_sized_96 ?_
            refine V_iload_n (i := 1) G eX12_sized_99 rfl rfl ?_
            refine V_iald G al_1311 (by decide) eX12_sized_100 h (fun x11 h => ?_)
            refine V_iadd G eX12_sized_101 ?_
            refine V_iload_n (i := 3) G eX12_sized_102 rfl rfl ?_
            refine V_iast G al_1313 (by decide) eX12_sized_103 h (fun μ12 h => ?_)
            refine V_aload_n (i := 0) G eX12_sized_104 rfl rfl ?_
            refine V_get (v := .ref (wad w 1311 0)) G fgX12_29 rfl eX12_sized_105 ?_
            refine V_iload_n (i := 1) G eX12_sized_108 rfl rfl ?_
            refine V_dup2_11 G eX12_sized_109 rfl rfl ?_
            refine V_iald G al_1311 (by decide) eX12_sized_110 h (fun x13 h => ?_)
            refine V_iconst (n := 1) (v := (nI 1)) G eX12_sized_111 rfl ?_
            refine V_iadd G eX12_sized_112 ?_
            refine V_iast G al_1311 (by decide) eX12_sized_113 h (fun μ14 h => ?_)
            refine V_aload_n (i := 0) G eX12_sized_114 rfl rfl ?_
            refine V_get (v := .ref (wad w 1311 0)) G fgX12_29 rfl eX12_sized_115 ?_
            refine V_iload_n (i := 1) G eX12_sized_118 rfl rfl ?_
            refine V_iald G al_1311 (by decide) eX12_sized_119 h (fun x15 h => ?_)
            exact V_riM G hr eX12_sized_120 h
          refine V_if_le G eX12_sized_43 h (fun h => ?_) (fun h => ?_)
          · exact (Jk8 h)
          · refine V_iload_n (i := 2) G eX12_sized_46 rfl rfl ?_
            refine V_aload_n (i := 0) G eX12_sized_47 rfl rfl ?_
            refine V_get (v := .ref (wad w 1312 0)) G fgX12_32 rfl eX12_sized_48 ?_
            refine V_bipush (n := 6) (v := (nI 6)) G eX12_sized_51 rfl ?_
            refine V_iload_n (i := 1) G eX12_sized_53 rfl rfl ?_
            refine V_imul G eX12_sized_54 ?_
            refine V_aload_n (i := 0) G eX12_sized_55 rfl rfl ?_
            refine V_get (v := .ref (wad w 1311 0)) G fgX12_29 rfl eX12_sized_56 ?_
            refine V_iload_n (i := 1) G eX12_sized_59 rfl rfl ?_
            refine V_iald G al_1311 (by decide) eX12_sized_60 h (fun x6 h => ?_)
            refine V_iadd G eX12_sized_61 ?_
            refine V_iconst (n := 1) (v := (nI 1)) G eX12_sized_62 rfl ?_
            refine V_isub G eX12_sized_63 ?_
            refine V_iald G al_1312 (by decide) eX12_sized_64 h (fun x7 h => ?_)
            refine V_icmp_gt G eX12_sized_65 h (fun h => ?_) (fun h => ?_)
            · exact (Jk8 h)
            · refine V_iconst (n := -1) (v := (-1)) G eX12_sized_68 rfl ?_
              exact V_riM G hr eX12_sized_69 h
theorem M_sized_ok {l : Launch} {w : Wld} {a1 : Int32} {a2 : Int32} {a3 : Int32} {μ : Mem} {r : Int32} {μ' : Mem} (h : M_sized a1 a2 a3 μ = some (r, μ')) : CtI l w yX12_sized cX12_sized 4 .int 3 [.ref (wad w 12 0), .int a1, .int a2, .int a3] μ r μ' :=
  Ct_of (own := "PotBookModel") [some (.ref (wad w 12 0)), some (.int a1), some (.int a2), some (.int a3)] (by decide +kernel) rfl rfl (Nat.le_of_ble_eq_true rfl) fun p e s m args below meth c G hr => M_sized_run G hr h
set_option maxRecDepth 100000 in
set_option maxHeartbeats 4000000 in
theorem M_sizeIn_l1_ok {p : Program} {l : Launch} {e : Env} {R : Room} {s : State} {m : MethodId} {args : Array Value} {below : List Frame} {meth : Method} {c : Code} {w : Wld} {Q : State → Prop} (G : Cxt p R s m args meth c w cX12_sizeIn 5 "PotBookModel" 2 0 0) {v1 : Int32} {v2 : Int32} {μ : Mem} {o1 : Int32} : ∀ {n : Nat} {v3 : Int32}, M_sizeIn_l1 v1 v2 μ n v3 = some o1 → Vj p l e R s m args below meth c w 5 0 0 Q 45 [some (.ref (wad w 12 0)), some (.int v1), some (.int v2), some (.int o1), none] [] μ → Vj p l e R s m args below meth c w 5 0 0 Q 14 [some (.ref (wad w 12 0)), some (.int v1), some (.int v2), some (.int v3), none] [] μ := by
  intro n
  induction n with
  | zero => intro v3 h K; exact noS h
  | succ n ih =>
    intro v3 h K
    replace h : M_sizeIn_l1b v1 v2 μ (M_sizeIn_l1 v1 v2 μ n) v3 = some o1 := h
    unfold M_sizeIn_l1b at h
    refine V_iload_n (i := 3) G eX12_sizeIn_14 rfl rfl ?_
    refine V_aload_n (i := 0) G eX12_sizeIn_15 rfl rfl ?_
    refine V_get (v := .ref (wad w 1311 0)) G fgX12_29 rfl eX12_sizeIn_16 ?_
    refine V_iload_n (i := 1) G eX12_sizeIn_19 rfl rfl ?_
    refine V_iald G al_1311 (by decide) eX12_sizeIn_20 h (fun x1 h => ?_)
    refine V_icmp_ge G eX12_sizeIn_21 h (fun h => ?_) (fun h => ?_)
    · cases h; exact K
    · refine V_aload_n (i := 0) G eX12_sizeIn_24 rfl rfl ?_
      refine V_get (v := .ref (wad w 1312 0)) G fgX12_32 rfl eX12_sizeIn_25 ?_
      refine V_bipush (n := 6) (v := (nI 6)) G eX12_sizeIn_28 rfl ?_
      refine V_iload_n (i := 1) G eX12_sizeIn_30 rfl rfl ?_
      refine V_imul G eX12_sizeIn_31 ?_
      refine V_iload_n (i := 3) G eX12_sizeIn_32 rfl rfl ?_
      refine V_iadd G eX12_sizeIn_33 ?_
      refine V_iald G al_1312 (by decide) eX12_sizeIn_34 h (fun x2 h => ?_)
      refine V_iload_n (i := 2) G eX12_sizeIn_35 rfl rfl ?_
      refine V_icmp_gt G eX12_sizeIn_36 h (fun h => ?_) (fun h => ?_)
      · cases h; exact K
      · refine V_iinc (z := (nI 1)) (L' := (fun x3 => [some (.ref (wad w 12 0)), some (.int v1), some (.int v2), some (.int x3), none])) G eX12_sizeIn_39 rfl rfl (by decide) rfl (fun _ => rfl) h (fun x3 h => ?_)
        refine V_goto G eX12_sizeIn_42 ?_
        exact (ih h K)
set_option maxRecDepth 100000 in
set_option maxHeartbeats 4000000 in
theorem M_sizeIn_run {p : Program} {l : Launch} {e : Env} {R : Room} {s : State} {m : MethodId} {args : Array Value} {below : List Frame} {meth : Method} {c : Code} {w : Wld} (G : Cxt p R s m args meth c w cX12_sizeIn 5 "PotBookModel" 2 0 0) (hr : meth.sig.returnType = some .int) {a1 : Int32} {a2 : Int32} {μ : Mem} {r : Int32} (h : M_sizeIn a1 a2 μ = some r) : Vj p l e R s m args below meth c w 5 0 0 (MQ below (QI w r μ) args s 0 0 w.2.2.2) 0 [some (.ref (wad w 12 0)), some (.int a1), some (.int a2), none, none] [] μ := by
  unfold M_sizeIn at h
  refine V_aload_n (i := 0) G eX12_sizeIn_0 rfl rfl ?_
  refine V_get (v := .ref (wad w 1311 0)) G fgX12_29 rfl eX12_sizeIn_1 ?_
  refine V_iload_n (i := 1) G eX12_sizeIn_4 rfl rfl ?_
  refine V_iald G al_1311 (by decide) eX12_sizeIn_5 h (fun x1 h => ?_)
  refine V_if_ne G eX12_sizeIn_6 h (fun h => ?_) (fun h => ?_)
  · refine V_iconst (n := 0) (v := (nI 0)) G eX12_sizeIn_12 rfl ?_
    refine V_istoreA_n (i := 3) (L' := [some (.ref (wad w 12 0)), some (.int a1), some (.int a2), some (.int (nI 0)), none]) G rfl eX12_sizeIn_13 (by decide) rfl rfl ?_
    obtain ⟨x2, h1, h⟩ := bdS h
    refine M_sizeIn_l1_ok G h1 ?_
    refine V_iload_n (i := 3) G eX12_sizeIn_45 rfl rfl ?_
    obtain ⟨k12, hkk12, h⟩ := kE h
    have Jk12 :  k12 () = some r → Vj p l e R s m args below meth c w 5 0 0 (MQ below (QI w r μ) args s 0 0 w.2.2.2) 59 [some (.ref (wad w 12 0)), some (.int a1), none, some (.int x2), none] [] μ := by
      clear h
      intro h
      rw [hkk12] at h
      clear hkk12
      refine V_aload_n (i := 0) G eX12_sizeIn_59 rfl rfl ?_
      refine V_get (v := .ref (wad w 1313 0)) G fgX12_35 rfl eX12_sizeIn_60 ?_
      refine V_bipush (n := 6) (v := (nI 6)) G eX12_sizeIn_63 rfl ?_
      refine V_iload_n (i := 1) G eX12_sizeIn_65 rfl rfl ?_
      refine V_imul G eX12_sizeIn_66 ?_
      refine V_iconst (n := 0) (v := (nI 0)) G eX12_sizeIn_67 rfl ?_
      refine V_iload_n (i := 3) G eX12_sizeIn_68 rfl rfl ?_
      refine V_iconst (n := 1) (v := (nI 1)) G eX12_sizeIn_69 rfl ?_
      refine V_isub G eX12_sizeIn_70 ?_
      refine V_jMax G mkX12_209 (by decide) (Nat.le_of_ble_eq_true rfl) eX12_sizeIn_71 ?_
      refine V_iadd G eX12_sizeIn_74 ?_
      refine V_iald G al_1313 (by decide) eX12_sizeIn_75 h (fun x13 h => ?_)
      exact V_ri G hr eX12_sizeIn_76 h
    refine V_if_eq G eX12_sizeIn_46 h (fun h => ?_) (fun h => ?_)
    · exact V_sub (lS_s (lS_s (lS_n (lS_s (lS_n lS_0))))) (Jk12 h)
    · refine V_iload_n (i := 3) G eX12_sizeIn_49 rfl rfl ?_
      refine V_aload_n (i := 0) G eX12_sizeIn_50 rfl rfl ?_
      refine V_get (v := .ref (wad w 1311 0)) G fgX12_29 rfl eX12_sizeIn_51 ?_
      refine V_iload_n (i := 1) G eX12_sizeIn_54 rfl rfl ?_
      refine V_iald G al_1311 (by decide) eX12_sizeIn_55 h (fun x3 h => ?_)
      refine V_icmp_ne G eX12_sizeIn_56 h (fun h => ?_) (fun h => ?_)
      · refine V_bipush (n := 6) (v := (nI 6)) G eX12_sizeIn_77 rfl ?_
        refine V_iload_n (i := 1) G eX12_sizeIn_79 rfl rfl ?_
        refine V_imul G eX12_sizeIn_80 ?_
        refine V_iload_n (i := 3) G eX12_sizeIn_81 rfl rfl ?_
        refine V_iadd G eX12_sizeIn_82 ?_
        refine V_iconst (n := 1) (v := (nI 1)) G eX12_sizeIn_83 rfl ?_
        refine V_isub G eX12_sizeIn_84 ?_
        refine V_istore (i := 4) (L' := (fun x4 => [some (.ref (wad w 12 0)), some (.int a1), some (.int a2), some (.int x2), some (.int x4)])) G eX12_sizeIn_85 (by decide) rfl (fun _ => rfl) h (fun x4 h => ?_)
        refine V_aload_n (i := 0) G eX12_sizeIn_87 rfl rfl ?_
        refine V_get (v := .ref (wad w 1313 0)) G fgX12_35 rfl eX12_sizeIn_88 ?_
        refine V_iload G eX12_sizeIn_91 rfl ?_
        refine V_iald G al_1313 (by decide) eX12_sizeIn_93 h (fun x5 h => ?_)
        refine V_aload_n (i := 0) G eX12_sizeIn_94 rfl rfl ?_
        refine V_get (v := .ref (wad w 1313 0)) G fgX12_35 rfl eX12_sizeIn_95 ?_
        refine V_iload G eX12_sizeIn_98 rfl ?_
        refine V_iconst (n := 1) (v := (nI 1)) G eX12_sizeIn_100 rfl ?_
        refine V_iadd G eX12_sizeIn_101 ?_
        refine V_iald G al_1313 (by decide) eX12_sizeIn_102 h (fun x6 h => ?_)
        refine V_aload_n (i := 0) G eX12_sizeIn_103 rfl rfl ?_
        refine V_get (v := .ref (wad w 1313 0)) G fgX12_35 rfl eX12_sizeIn_104 ?_
        refine V_iload G eX12_sizeIn_107 rfl ?_
        refine V_iald G al_1313 (by decide) eX12_sizeIn_109 h (fun x7 h => ?_)
        refine V_isub G eX12_sizeIn_110 ?_
        refine V_iload_n (i := 2) G eX12_sizeIn_111 rfl rfl ?_
        refine V_aload_n (i := 0) G eX12_sizeIn_112 rfl rfl ?_
        refine V_get (v := .ref (wad w 1312 0)) G fgX12_32 rfl eX12_sizeIn_113 ?_
        refine V_iload G eX12_sizeIn_116 rfl ?_
        refine V_iald G al_1312 (by decide) eX12_sizeIn_118 h (fun x8 h => ?_)
        refine V_isub G eX12_sizeIn_119 ?_
        refine V_imul G eX12_sizeIn_120 ?_
        refine V_aload_n (i := 0) G eX12_sizeIn_121 rfl rfl ?_
        refine V_get (v := .ref (wad w 1312 0)) G fgX12_32 rfl eX12_sizeIn_122 ?_
        refine V_iload G eX12_sizeIn_125 rfl ?_
        refine V_iconst (n := 1) (v := (nI 1)) G eX12_sizeIn_127 rfl ?_
        refine V_iadd G eX12_sizeIn_128 ?_
        refine V_iald G al_1312 (by decide) eX12_sizeIn_129 h (fun x9 h => ?_)
        refine V_aload_n (i := 0) G eX12_sizeIn_130 rfl rfl ?_
        refine V_get (v := .ref (wad w 1312 0)) G fgX12_32 rfl eX12_sizeIn_131 ?_
        refine V_iload G eX12_sizeIn_134 rfl ?_
        refine V_iald G al_1312 (by decide) eX12_sizeIn_136 h (fun x10 h => ?_)
        refine V_isub G eX12_sizeIn_137 ?_
        refine V_idiv G eX12_sizeIn_138 h (fun x11 h => ?_)
        refine V_iadd G eX12_sizeIn_139 ?_
        exact V_ri G hr eX12_sizeIn_140 h
      · exact V_sub (lS_s (lS_s (lS_n (lS_s (lS_n lS_0))))) (Jk12 h)
  · refine V_bipush (n := 10) (v := (nI 10)) G eX12_sizeIn_9 rfl ?_
    exact V_ri G hr eX12_sizeIn_11 h
theorem M_sizeIn_ok {l : Launch} {w : Wld} {a1 : Int32} {a2 : Int32} {μ : Mem} {r : Int32} (h : M_sizeIn a1 a2 μ = some r) : CtI l w yX12_sizeIn cX12_sizeIn 5 .int 2 [.ref (wad w 12 0), .int a1, .int a2] μ r μ :=
  Ct_of (own := "PotBookModel") [some (.ref (wad w 12 0)), some (.int a1), some (.int a2), none, none] (by decide +kernel) rfl rfl (Nat.le_of_ble_eq_true rfl) fun p e s m args below meth c G hr => M_sizeIn_run G hr h
