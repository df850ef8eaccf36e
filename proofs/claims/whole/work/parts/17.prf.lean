set_option maxRecDepth 100000 in
set_option maxHeartbeats 4000000 in
theorem M_isWithin_run {p : Program} {l : Launch} {e : Env} {R : Room} {s : State} {m : MethodId} {args : Array Value} {below : List Frame} {meth : Method} {c : Code} {w : Wld} (G : Cxt p R s m args meth c w cX12_isWithin 3 "PotBookModel" 4 0 0) (hr : meth.sig.returnType = some .boolean) {a1 : Int32} {a2 : Int32} {μ : Mem} {r : Int32} (h : M_isWithin a1 a2 μ = some r) : Vj p l e R s m args below meth c w 3 0 0 (MQ below (QI w r μ) args s 0 0 w.2.2.2) 0 [some (.ref (wad w 12 0)), some (.int a1), some (.int a2)] [] μ := by
  unfold M_isWithin at h
  refine V_aload_n (i := 0) G eX12_isWithin_0 rfl rfl ?_
  refine V_get (v := .ref (wad w 1340 0)) G fgX12_102 rfl eX12_isWithin_1 ?_
  refine V_iload_n (i := 2) G eX12_isWithin_4 rfl rfl ?_
  refine V_iald G al_1340 (by decide) eX12_isWithin_5 h (fun x1 h => ?_)
  refine V_aload_n (i := 0) G eX12_isWithin_6 rfl rfl ?_
  refine V_bipush (n := 8) (v := (nI 8)) G eX12_isWithin_7 rfl ?_
  refine V_iload_n (i := 1) G eX12_isWithin_9 rfl rfl ?_
  refine V_imul G eX12_isWithin_10 ?_
  refine V_iload_n (i := 2) G eX12_isWithin_11 rfl rfl ?_
  refine V_iadd G eX12_isWithin_12 ?_
  obtain ⟨x2, h1, h⟩ := bdS h
  refine V_callI (As := [.int (((nI 8) * a1) + a2)]) (st := [.int x1]) G lkX12_349 (M_lowOf_ok h1) (by decide) rfl rfl (Nat.le_of_ble_eq_true rfl) eX12_isWithin_13 ?_
  refine V_aload_n (i := 0) G eX12_isWithin_16 rfl rfl ?_
  refine V_bipush (n := 8) (v := (nI 8)) G eX12_isWithin_17 rfl ?_
  refine V_iload_n (i := 1) G eX12_isWithin_19 rfl rfl ?_
  refine V_imul G eX12_isWithin_20 ?_
  refine V_iload_n (i := 2) G eX12_isWithin_21 rfl rfl ?_
  refine V_iadd G eX12_isWithin_22 ?_
  obtain ⟨x3, h1, h⟩ := bdS h
  refine V_callI (As := [.int (((nI 8) * a1) + a2)]) (st := [.int x2, .int x1]) G lkX12_349 (M_lowOf_ok h1) (by decide) rfl rfl (Nat.le_of_ble_eq_true rfl) eX12_isWithin_23 ?_
  refine V_aload_n (i := 0) G eX12_isWithin_26 rfl rfl ?_
  refine V_bipush (n := 8) (v := (nI 8)) G eX12_isWithin_27 rfl ?_
  refine V_iload_n (i := 1) G eX12_isWithin_29 rfl rfl ?_
  refine V_imul G eX12_isWithin_30 ?_
  refine V_iload_n (i := 2) G eX12_isWithin_31 rfl rfl ?_
  refine V_iadd G eX12_isWithin_32 ?_
  obtain ⟨x4, h1, h⟩ := bdS h
  refine V_callI (As := [.int (((nI 8) * a1) + a2)]) (st := [.int x3, .int x2, .int x1]) G lkX12_352 (M_rangeOf_ok h1) (by decide) rfl rfl (Nat.le_of_ble_eq_true rfl) eX12_isWithin_33 ?_
  refine V_iadd G eX12_isWithin_36 ?_
  refine V_iconst (n := 1) (v := (nI 1)) G eX12_isWithin_37 rfl ?_
  refine V_isub G eX12_isWithin_38 ?_
  obtain ⟨x5, h1, h⟩ := bdS h
  refine V_callIS (As := [.int x1, .int x2, .int ((x3 + x4) - (nI 1))]) (st := []) G lkX12_198 (M_in_ok (μ := μ) h1) (by decide) rfl rfl (Nat.le_of_ble_eq_true rfl) eX12_isWithin_39 ?_
  exact V_rz G hr eX12_isWithin_42 h
theorem M_isWithin_ok {l : Launch} {w : Wld} {a1 : Int32} {a2 : Int32} {μ : Mem} {r : Int32} (h : M_isWithin a1 a2 μ = some r) : CtI l w yX12_isWithin cX12_isWithin 3 .boolean 4 [.ref (wad w 12 0), .int a1, .int a2] μ r μ :=
  Ct_of (own := "PotBookModel") [some (.ref (wad w 12 0)), some (.int a1), some (.int a2)] (by decide +kernel) rfl rfl (Nat.le_of_ble_eq_true rfl) fun p e s m args below meth c G hr => M_isWithin_run G hr h
set_option maxRecDepth 100000 in
set_option maxHeartbeats 4000000 in
theorem M_swapped_l1_ok {p : Program} {l : Launch} {e : Env} {R : Room} {s : State} {m : MethodId} {args : Array Value} {below : List Frame} {meth : Method} {c : Code} {w : Wld} {Q : State → Prop} (G : Cxt p R s m args meth c w cX12_swapped 9 "PotBookModel" 9 0 0) {v1 : Int32} {v4 : Int32} {v5 : Int32} {o1 : Int32} {μo : Mem} : ∀ {n : Nat} {v6 : Int32} {v7 : Int32} {μ : Mem}, M_swapped_l1 v1 v4 v5 n v6 v7 μ = some (o1, μo) → Vj p l e R s m args below meth c w 9 0 0 Q 175 [none, none, none, none, none, none, some (.int o1), none, none] [] μo → Vj p l e R s m args below meth c w 9 0 0 Q 73 [some (.ref (wad w 12 0)), some (.int v1), none, none, some (.int v4), some (.int v5), some (.int v6), some (.int v7), none] [] μ := by
  intro n
  induction n with
  | zero => intro v6 v7 μ h K; exact noS h
  | succ n ih =>
    intro v6 v7 μ h K
    replace h : M_swapped_l1b v1 v4 v5 (M_swapped_l1 v1 v4 v5 n) v6 v7 μ = some (o1, μo) := h
    unfold M_swapped_l1b at h
    refine V_iload G eX12_swapped_73 rfl ?_
    refine V_aload_n (i := 0) G eX12_swapped_75 rfl rfl ?_
    refine V_get (v := .int (mI μ 1342 0 0)) G fgX12_361 rfl eX12_swapped_76 ?_
    refine V_icmp_ge G eX12_swapped_79 h (fun h => ?_) (fun h => ?_)
    · cases h; exact V_sub (lS_n (lS_n (lS_n (lS_n (lS_n (lS_n (lS_s (lS_n (lS_n lS_0))))))))) K
    · refine V_aload_n (i := 0) G eX12_swapped_82 rfl rfl ?_
      refine V_iload_n (i := 1) G eX12_swapped_83 rfl rfl ?_
      refine V_aload_n (i := 0) G eX12_swapped_84 rfl rfl ?_
      refine V_get (v := .ref (wad w 1341 0)) G fgX12_105 rfl eX12_swapped_85 ?_
      refine V_iload G eX12_swapped_88 rfl ?_
      refine V_iald G al_1341 (by decide) eX12_swapped_90 h (fun x1 h => ?_)
      obtain ⟨μ2, h1, h⟩ := bdS h
      refine V_callV (As := [.int v1, .int x1]) (st := []) G lkX12_364 (M_lay_ok h1) (by decide) rfl rfl (Nat.le_of_ble_eq_true rfl) eX12_swapped_91 ?_
      refine V_aload_n (i := 0) G eX12_swapped_94 rfl rfl ?_
      refine V_get (v := .ref (wad w 1340 0)) G fgX12_102 rfl eX12_swapped_95 ?_
      refine V_iload G eX12_swapped_98 rfl ?_
      refine V_iald G al_1340 (by decide) eX12_swapped_100 h (fun x3 h => ?_)
      refine V_istoreA (i := 8) (L' := [some (.ref (wad w 12 0)), some (.int v1), none, none, some (.int v4), some (.int v5), some (.int v6), some (.int v7), some (.int x3)]) G eX12_swapped_101 (by decide) rfl rfl ?_
      refine V_aload_n (i := 0) G eX12_swapped_103 rfl rfl ?_
      refine V_get (v := .ref (wad w 1340 0)) G fgX12_102 rfl eX12_swapped_104 ?_
      refine V_iload G eX12_swapped_107 rfl ?_
      refine V_aload_n (i := 0) G eX12_swapped_109 rfl rfl ?_
      refine V_get (v := .ref (wad w 1340 0)) G fgX12_102 rfl eX12_swapped_110 ?_
      refine V_iload G eX12_swapped_113 rfl ?_
      refine V_iald G al_1340 (by decide) eX12_swapped_115 h (fun x4 h => ?_)
      refine V_iast G al_1340 (by decide) eX12_swapped_116 h (fun μ5 h => ?_)
      refine V_aload_n (i := 0) G eX12_swapped_117 rfl rfl ?_
      refine V_get (v := .ref (wad w 1340 0)) G fgX12_102 rfl eX12_swapped_118 ?_
      refine V_iload G eX12_swapped_121 rfl ?_
      refine V_iload G eX12_swapped_123 rfl ?_
      refine V_iast G al_1340 (by decide) eX12_swapped_125 h (fun μ6 h => ?_)
      refine V_aload_n (i := 0) G eX12_swapped_126 rfl rfl ?_
      refine V_iload_n (i := 1) G eX12_swapped_127 rfl rfl ?_
      obtain ⟨μ7, h1, h⟩ := bdS h
      refine V_callV (As := [.int v1]) (st := []) G lkX12_367 (M_spell_ok h1) (by decide) rfl rfl (Nat.le_of_ble_eq_true rfl) eX12_swapped_128 ?_
      refine V_iload G eX12_swapped_131 rfl ?_
      refine V_aload_n (i := 0) G eX12_swapped_133 rfl rfl ?_
      refine V_iload_n (i := 1) G eX12_swapped_134 rfl rfl ?_
      refine V_iload G eX12_swapped_135 rfl ?_
      obtain ⟨x8, h1, h⟩ := bdS h
      refine V_callI (As := [.int v1, .int v4]) (st := [.int v6]) G lkX12_515 (M_isWithin_ok h1) (by decide) rfl rfl (Nat.le_of_ble_eq_true rfl) eX12_swapped_137 ?_
      obtain ⟨⟨x12, μ13⟩, hj, h⟩ := bdS h
      have J : Vj p l e R s m args below meth c w 9 0 0 Q 166 [some (.ref (wad w 12 0)), some (.int v1), none, none, some (.int v4), some (.int v5), none, some (.int v7), none] [.int x12, .int v6] μ13 := by
        clear hj
        refine V_iadd G eX12_swapped_166 ?_
        refine V_istore (i := 6) (L' := (fun x14 => [some (.ref (wad w 12 0)), some (.int v1), none, none, some (.int v4), some (.int v5), some (.int x14), some (.int v7), none])) G eX12_swapped_167 (by decide) rfl (fun _ => rfl) h (fun x14 h => ?_)
        refine V_iinc (z := (nI 1)) (L' := (fun x15 => [some (.ref (wad w 12 0)), some (.int v1), none, none, some (.int v4), some (.int v5), some (.int x14), some (.int x15), none])) G eX12_swapped_169 rfl rfl (by decide) rfl (fun _ => rfl) h (fun x15 h => ?_)
        refine V_goto G eX12_swapped_172 ?_
        exact (ih h K)
      replace h := hj
      clear hj
      refine V_if_eq G eX12_swapped_140 h (fun h => ?_) (fun h => ?_)
      · refine V_iconst (n := 0) (v := (nI 0)) G eX12_swapped_165 rfl ?_
        cases h; exact V_sub (lS_s (lS_s (lS_n (lS_n (lS_s (lS_s (lS_n (lS_s (lS_n lS_0))))))))) J
      · refine V_aload_n (i := 0) G eX12_swapped_143 rfl rfl ?_
        refine V_iload_n (i := 1) G eX12_swapped_144 rfl rfl ?_
        refine V_iload G eX12_swapped_145 rfl ?_
        obtain ⟨x9, h1, h⟩ := bdS h
        refine V_callI (As := [.int v1, .int v5]) (st := [.int v6]) G lkX12_515 (M_isWithin_ok h1) (by decide) rfl rfl (Nat.le_of_ble_eq_true rfl) eX12_swapped_147 ?_
        refine V_if_eq G eX12_swapped_150 h (fun h => ?_) (fun h => ?_)
        · refine V_iconst (n := 0) (v := (nI 0)) G eX12_swapped_165 rfl ?_
          cases h; exact V_sub (lS_s (lS_s (lS_n (lS_n (lS_s (lS_s (lS_n (lS_s (lS_n lS_0))))))))) J
        · refine V_aload_n (i := 0) G eX12_swapped_153 rfl rfl ?_
          refine V_iload_n (i := 1) G eX12_swapped_154 rfl rfl ?_
          obtain ⟨⟨x10, μ11⟩, h1, h⟩ := bdS h
          refine V_callI (As := [.int v1]) (st := [.int v6]) G lkX12_370 (M_isKept_ok h1) (by decide) rfl rfl (Nat.le_of_ble_eq_true rfl) eX12_swapped_155 ?_
          refine V_if_eq G eX12_swapped_158 h (fun h => ?_) (fun h => ?_)
          · refine V_iconst (n := 0) (v := (nI 0)) G eX12_swapped_165 rfl ?_
            cases h; exact V_sub (lS_s (lS_s (lS_n (lS_n (lS_s (lS_s (lS_n (lS_s (lS_n lS_0))))))))) J
          · refine V_iconst (n := 1) (v := (nI 1)) G eX12_swapped_161 rfl ?_
            refine V_goto G eX12_swapped_162 ?_
            cases h; exact V_sub (lS_s (lS_s (lS_n (lS_n (lS_s (lS_s (lS_n (lS_s (lS_n lS_0))))))))) J
set_option maxRecDepth 100000 in
set_option maxHeartbeats 4000000 in
theorem M_swapped_run {p : Program} {l : Launch} {e : Env} {R : Room} {s : State} {m : MethodId} {args : Array Value} {below : List Frame} {meth : Method} {c : Code} {w : Wld} (G : Cxt p R s m args meth c w cX12_swapped 9 "PotBookModel" 9 0 0) (hr : meth.sig.returnType = some .int) {a1 : Int32} {a2 : Int32} {a3 : Int32} {μ : Mem} {r : Int32} {μ' : Mem} (h : M_swapped a1 a2 a3 μ = some (r, μ')) : Vj p l e R s m args below meth c w 9 0 0 (MQ below (QI w r μ') args s 0 0 w.2.2.2) 0 [some (.ref (wad w 12 0)), some (.int a1), some (.int a2), some (.int a3), none, none, none, none, none] [] μ := by
  unfold M_swapped at h
  refine V_iload_n (i := 2) G eX12_swapped_0 rfl rfl ?_
  refine V_iload_n (i := 3) G eX12_swapped_1 rfl rfl ?_
  refine V_icmp_eq G eX12_swapped_2 h (fun h => ?_) (fun h => ?_)
  · refine V_iconst (n := -1) (v := (-1)) G eX12_swapped_49 rfl ?_
    exact V_riM G hr eX12_swapped_50 h
  · refine V_aload_n (i := 0) G eX12_swapped_5 rfl rfl ?_
    refine V_iload_n (i := 2) G eX12_swapped_6 rfl rfl ?_
    obtain ⟨x1, h1, h⟩ := bdS h
    refine V_callI (As := [.int a2]) (st := []) G lkX12_202 (M_isThing_ok h1) (by decide) rfl rfl (Nat.le_of_ble_eq_true rfl) eX12_swapped_7 ?_
    refine V_if_eq G eX12_swapped_10 h (fun h => ?_) (fun h => ?_)
    · refine V_iconst (n := -1) (v := (-1)) G eX12_swapped_49 rfl ?_
      exact V_riM G hr eX12_swapped_50 h
    · refine V_aload_n (i := 0) G eX12_swapped_13 rfl rfl ?_
      refine V_iload_n (i := 3) G eX12_swapped_14 rfl rfl ?_
      obtain ⟨x2, h1, h⟩ := bdS h
      refine V_callI (As := [.int a3]) (st := []) G lkX12_202 (M_isThing_ok h1) (by decide) rfl rfl (Nat.le_of_ble_eq_true rfl) eX12_swapped_15 ?_
      refine V_if_eq G eX12_swapped_18 h (fun h => ?_) (fun h => ?_)
      · refine V_iconst (n := -1) (v := (-1)) G eX12_swapped_49 rfl ?_
        exact V_riM G hr eX12_swapped_50 h
      · refine V_aload_n (i := 0) G eX12_swapped_21 rfl rfl ?_
        refine V_iload_n (i := 1) G eX12_swapped_22 rfl rfl ?_
        obtain ⟨⟨x3, μ4⟩, h1, h⟩ := bdS h
        refine V_callI (As := [.int a1]) (st := []) G lkX12_376 (M_isTold_ok h1) (by decide) rfl rfl (Nat.le_of_ble_eq_true rfl) eX12_swapped_23 ?_
        refine V_if_eq G eX12_swapped_26 h (fun h => ?_) (fun h => ?_)
        · refine V_iconst (n := -1) (v := (-1)) G eX12_swapped_49 rfl ?_
          exact V_riM G hr eX12_swapped_50 h
        · refine V_aload_n (i := 0) G eX12_swapped_29 rfl rfl ?_
          refine V_iload_n (i := 1) G eX12_swapped_30 rfl rfl ?_
          refine V_iload_n (i := 2) G eX12_swapped_31 rfl rfl ?_
          obtain ⟨x5, h1, h⟩ := bdS h
          refine V_callI (As := [.int a1, .int a2]) (st := []) G lkX12_227 (M_onPage_ok h1) (by decide) rfl rfl (Nat.le_of_ble_eq_true rfl) eX12_swapped_32 ?_
          refine V_iconst (n := -1) (v := (-1)) G eX12_swapped_35 rfl ?_
          refine V_icmp_eq G eX12_swapped_36 h (fun h => ?_) (fun h => ?_)
          · refine V_iconst (n := -1) (v := (-1)) G eX12_swapped_49 rfl ?_
            exact V_riM G hr eX12_swapped_50 h
          · refine V_aload_n (i := 0) G eX12_swapped_39 rfl rfl ?_
            refine V_iload_n (i := 1) G eX12_swapped_40 rfl rfl ?_
            refine V_iload_n (i := 3) G eX12_swapped_41 rfl rfl ?_
            obtain ⟨x6, h1, h⟩ := bdS h
            refine V_callI (As := [.int a1, .int a3]) (st := []) G lkX12_227 (M_onPage_ok h1) (by decide) rfl rfl (Nat.le_of_ble_eq_true rfl) eX12_swapped_42 ?_
            refine V_iconst (n := -1) (v := (-1)) G eX12_swapped_45 rfl ?_
            refine V_icmp_ne G eX12_swapped_46 h (fun h => ?_) (fun h => ?_)
            · refine V_aload_n (i := 0) G eX12_swapped_51 rfl rfl ?_
              refine V_iload_n (i := 1) G eX12_swapped_52 rfl rfl ?_
              refine V_iload_n (i := 2) G eX12_swapped_53 rfl rfl ?_
              obtain ⟨x7, h1, h⟩ := bdS h
              refine V_callI (As := [.int a1, .int a2]) (st := []) G lkX12_227 (M_onPage_ok h1) (by decide) rfl rfl (Nat.le_of_ble_eq_true rfl) eX12_swapped_54 ?_
              refine V_istoreA (i := 4) (L' := [some (.ref (wad w 12 0)), some (.int a1), some (.int a2), some (.int a3), some (.int x7), none, none, none, none]) G eX12_swapped_57 (by decide) rfl rfl ?_
              refine V_aload_n (i := 0) G eX12_swapped_59 rfl rfl ?_
              refine V_iload_n (i := 1) G eX12_swapped_60 rfl rfl ?_
              refine V_iload_n (i := 3) G eX12_swapped_61 rfl rfl ?_
              obtain ⟨x8, h1, h⟩ := bdS h
              refine V_callI (As := [.int a1, .int a3]) (st := []) G lkX12_227 (M_onPage_ok h1) (by decide) rfl rfl (Nat.le_of_ble_eq_true rfl) eX12_swapped_62 ?_
              refine V_istoreA (i := 5) (L' := [some (.ref (wad w 12 0)), some (.int a1), some (.int a2), some (.int a3), some (.int x7), some (.int x8), none, none, none]) G eX12_swapped_65 (by decide) rfl rfl ?_
              refine V_iconst (n := 0) (v := (nI 0)) G eX12_swapped_67 rfl ?_
              refine V_istoreA (i := 6) (L' := [some (.ref (wad w 12 0)), some (.int a1), some (.int a2), some (.int a3), some (.int x7), some (.int x8), some (.int (nI 0)), none, none]) G eX12_swapped_68 (by decide) rfl rfl ?_
              refine V_iconst (n := 0) (v := (nI 0)) G eX12_swapped_70 rfl ?_
              refine V_istoreA (i := 7) (L' := [some (.ref (wad w 12 0)), some (.int a1), some (.int a2), some (.int a3), some (.int x7), some (.int x8), some (.int (nI 0)), some (.int (nI 0)), none]) G eX12_swapped_71 (by decide) rfl rfl ?_
              obtain ⟨⟨x9, μ10⟩, h1, h⟩ := bdS h
              refine V_sub (lS_s (lS_s (lS_n (lS_n (lS_s (lS_s (lS_s (lS_s (lS_n lS_0))))))))) ?_
              refine M_swapped_l1_ok G h1 ?_
              refine V_iload G eX12_swapped_175 rfl ?_
              exact V_riM G hr eX12_swapped_177 h
            · refine V_iconst (n := -1) (v := (-1)) G eX12_swapped_49 rfl ?_
              exact V_riM G hr eX12_swapped_50 h
theorem M_swapped_ok {l : Launch} {w : Wld} {a1 : Int32} {a2 : Int32} {a3 : Int32} {μ : Mem} {r : Int32} {μ' : Mem} (h : M_swapped a1 a2 a3 μ = some (r, μ')) : CtI l w yX12_swapped cX12_swapped 9 .int 9 [.ref (wad w 12 0), .int a1, .int a2, .int a3] μ r μ' :=
  Ct_of (own := "PotBookModel") [some (.ref (wad w 12 0)), some (.int a1), some (.int a2), some (.int a3), none, none, none, none, none] (by decide +kernel) rfl rfl (Nat.le_of_ble_eq_true rfl) fun p e s m args below meth c G hr => M_swapped_run G hr h
set_option maxRecDepth 100000 in
set_option maxHeartbeats 4000000 in
theorem M_count_run {p : Program} {l : Launch} {e : Env} {R : Room} {s : State} {m : MethodId} {args : Array Value} {below : List Frame} {meth : Method} {c : Code} {w : Wld} (G : Cxt p R s m args meth c w cX12_count 2 "PotBookModel" 1 0 0) (hr : meth.sig.returnType = some .int) {a1 : Int32} {μ : Mem} {r : Int32} (h : M_count a1 μ = some r) : Vj p l e R s m args below meth c w 2 0 0 (MQ below (QI w r μ) args s 0 0 w.2.2.2) 0 [some (.ref (wad w 12 0)), some (.int a1)] [] μ := by
  unfold M_count at h
  refine V_iload_n (i := 1) G eX12_count_0 rfl rfl ?_
  by_cases c0 : a1 = (nI 0)
  · rw [if_pos c0] at h
    refine V_tswIn (v := (nI 0)) (off := 51) (tgt := 52) G eX12_count_1 c0 (by decide) (by decide) rfl rfl ?_
    refine V_aload_n (i := 0) G eX12_count_52 rfl rfl ?_
    refine V_get (v := .int (mI μ 1322 0 0)) G fgX12_299 rfl eX12_count_53 ?_
    exact V_ri G hr eX12_count_56 h
  · rw [if_neg c0] at h
    by_cases c1 : a1 = (nI 1)
    · rw [if_pos c1] at h
      refine V_tswIn (v := (nI 1)) (off := 56) (tgt := 57) G eX12_count_1 c1 (by decide) (by decide) rfl rfl ?_
      refine V_aload_n (i := 0) G eX12_count_57 rfl rfl ?_
      refine V_get (v := .int (mI μ 1330 0 0)) G fgX12_302 rfl eX12_count_58 ?_
      exact V_ri G hr eX12_count_61 h
    · rw [if_neg c1] at h
      by_cases c2 : a1 = (nI 2)
      · rw [if_pos c2] at h
        refine V_tswIn (v := (nI 2)) (off := 61) (tgt := 62) G eX12_count_1 c2 (by decide) (by decide) rfl rfl ?_
        refine V_aload_n (i := 0) G eX12_count_62 rfl rfl ?_
        refine V_get (v := .int (mI μ 1314 0 0)) G fgX12_195 rfl eX12_count_63 ?_
        exact V_ri G hr eX12_count_66 h
      · rw [if_neg c2] at h
        by_cases c3 : a1 = (nI 3)
        · rw [if_pos c3] at h
          refine V_tswIn (v := (nI 3)) (off := 66) (tgt := 67) G eX12_count_1 c3 (by decide) (by decide) rfl rfl ?_
          refine V_aload_n (i := 0) G eX12_count_67 rfl rfl ?_
          refine V_get (v := .int (mI μ 1338 0 0)) G fgX12_346 rfl eX12_count_68 ?_
          exact V_ri G hr eX12_count_71 h
        · rw [if_neg c3] at h
          by_cases c4 : a1 = (nI 4)
          · rw [if_pos c4] at h
            refine V_tswIn (v := (nI 4)) (off := 71) (tgt := 72) G eX12_count_1 c4 (by decide) (by decide) rfl rfl ?_
            refine V_aload_n (i := 0) G eX12_count_72 rfl rfl ?_
            refine V_get (v := .int (mI μ 1348 0 0)) G fgX12_388 rfl eX12_count_73 ?_
            exact V_ri G hr eX12_count_76 h
          · rw [if_neg c4] at h
            by_cases c5 : a1 = (nI 5)
            · rw [if_pos c5] at h
              refine V_tswIn (v := (nI 5)) (off := 76) (tgt := 77) G eX12_count_1 c5 (by decide) (by decide) rfl rfl ?_
              refine V_aload_n (i := 0) G eX12_count_77 rfl rfl ?_
              refine V_get (v := .int (mI μ 1354 0 0)) G fgX12_394 rfl eX12_count_78 ?_
              exact V_ri G hr eX12_count_81 h
            · rw [if_neg c5] at h
              by_cases c6 : a1 = (nI 6)
              · rw [if_pos c6] at h
                refine V_tswIn (v := (nI 6)) (off := 81) (tgt := 82) G eX12_count_1 c6 (by decide) (by decide) rfl rfl ?_
                refine V_aload_n (i := 0) G eX12_count_82 rfl rfl ?_
                refine V_get (v := .int (mI μ 1358 0 0)) G fgX12_413 rfl eX12_count_83 ?_
                exact V_ri G hr eX12_count_86 h
              · rw [if_neg c6] at h
                by_cases c7 : a1 = (nI 7)
                · rw [if_pos c7] at h
                  refine V_tswIn (v := (nI 7)) (off := 86) (tgt := 87) G eX12_count_1 c7 (by decide) (by decide) rfl rfl ?_
                  refine V_aload_n (i := 0) G eX12_count_87 rfl rfl ?_
                  refine V_get (v := .int (mI μ 1302 0 0)) G fgX12_182 rfl eX12_count_88 ?_
                  exact V_ri G hr eX12_count_91 h
                · rw [if_neg c7] at h
                  by_cases c8 : a1 = (nI 8)
                  · rw [if_pos c8] at h
                    refine V_tswIn (v := (nI 8)) (off := 91) (tgt := 92) G eX12_count_1 c8 (by decide) (by decide) rfl rfl ?_
                    refine V_aload_n (i := 0) G eX12_count_92 rfl rfl ?_
                    refine V_get (v := .int (mI μ 1339 0 0)) G fgX12_98 rfl eX12_count_93 ?_
                    exact V_ri G hr eX12_count_96 h
                  · rw [if_neg c8] at h
                    refine V_tswOut G eX12_count_1 (fun k h1 h2 q => ?_) (tgt := 97) rfl ?_
                    · rcases (show k = 0 ∨ k = 1 ∨ k = 2 ∨ k = 3 ∨ k = 4 ∨ k = 5 ∨ k = 6 ∨ k = 7 ∨ k = 8 by omega) with rfl | rfl | rfl | rfl | rfl | rfl | rfl | rfl | rfl
                      · exact c0 q
                      · exact c1 q
                      · exact c2 q
                      · exact c3 q
                      · exact c4 q
                      · exact c5 q
                      · exact c6 q
                      · exact c7 q
                      · exact c8 q
                    · refine V_iconst (n := -1) (v := (-1)) G eX12_count_97 rfl ?_
                      exact V_ri G hr eX12_count_98 h
theorem M_count_ok {l : Launch} {w : Wld} {a1 : Int32} {μ : Mem} {r : Int32} (h : M_count a1 μ = some r) : CtI l w yX12_count cX12_count 2 .int 1 [.ref (wad w 12 0), .int a1] μ r μ :=
  Ct_of (own := "PotBookModel") [some (.ref (wad w 12 0)), some (.int a1)] (by decide +kernel) rfl rfl (Nat.le_of_ble_eq_true rfl) fun p e s m args below meth c G hr => M_count_run G hr h
