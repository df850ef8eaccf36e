set_option maxRecDepth 100000 in
set_option maxHeartbeats 4000000 in
theorem B_signsIn_l1_ok {p : Program} {l : Launch} {e : Env} {R : Room} {s : State} {m : MethodId} {args : Array Value} {below : List Frame} {meth : Method} {c : Code} {w : Wld} {Q : State → Prop} (G : Cxt p R s m args meth c w cX11_signsIn 3 "PotBook" 1 0 0) {v0 : Int32} {μ : Mem} {o1 : Int32} : ∀ {n : Nat} {v1 : Int32} {v2 : Int32}, B_signsIn_l1 v0 n v1 v2 = some o1 → Vj p l e R s m args below meth c w 3 0 0 Q 28 [none, some (.int o1), none] [] μ → Vj p l e R s m args below meth c w 3 0 0 Q 5 [some (.int v0), some (.int v1), some (.int v2)] [] μ := by
  intro n
  induction n with
  | zero => intro v1 v2 h K; exact noS h
  | succ n ih =>
    intro v1 v2 h K
    replace h : B_signsIn_l1b v0 (B_signsIn_l1 v0 n) v1 v2 = some o1 := h
    unfold B_signsIn_l1b at h
    refine V_iload_n (i := 2) G eX11_signsIn_5 rfl rfl ?_
    refine V_if_lt G eX11_signsIn_6 h (fun h => ?_) (fun h => ?_)
    · cases h; exact V_sub (lS_n (lS_s (lS_n lS_0))) K
    · refine V_iload_n (i := 0) G eX11_signsIn_9 rfl rfl ?_
      refine V_iload_n (i := 2) G eX11_signsIn_10 rfl rfl ?_
      refine V_ishr G eX11_signsIn_11 ?_
      refine V_sipush (n := 255) (v := (nI 255)) G eX11_signsIn_12 rfl ?_
      refine V_iand G eX11_signsIn_15 ?_
      obtain ⟨x2, hj, h⟩ := bdS h
      have J : Vj p l e R s m args below meth c w 3 0 0 Q 22 [some (.int v0), some (.int x2), some (.int v2)] [] μ := by
        clear hj
        refine V_iinc (z := (-8)) (L' := (fun x3 => [some (.int v0), some (.int x2), some (.int x3)])) G eX11_signsIn_22 rfl rfl (by decide) rfl (fun _ => rfl) h (fun x3 h => ?_)
        refine V_goto G eX11_signsIn_25 ?_
        exact (ih h K)
      replace h := hj
      clear hj
      refine V_if_eq G eX11_signsIn_16 h (fun h => ?_) (fun h => ?_)
      · cases h; exact J
      · refine V_iinc (z := (nI 1)) (L' := (fun x1 => [some (.int v0), some (.int x1), some (.int v2)])) G eX11_signsIn_19 rfl rfl (by decide) rfl (fun _ => rfl) h (fun x1 h => ?_)
        cases h; exact J
set_option maxRecDepth 100000 in
set_option maxHeartbeats 4000000 in
theorem B_signsIn_run {p : Program} {l : Launch} {e : Env} {R : Room} {s : State} {m : MethodId} {args : Array Value} {below : List Frame} {meth : Method} {c : Code} {w : Wld} (G : Cxt p R s m args meth c w cX11_signsIn 3 "PotBook" 1 0 0) (hr : meth.sig.returnType = some .int) {a1 : Int32} {μ : Mem} {r : Int32} (h : B_signsIn a1 = some r) : Vj p l e R s m args below meth c w 3 0 0 (MQ below (QI w r μ) args s 0 0 w.2.2.2) 0 [some (.int a1), none, none] [] μ := by
  unfold B_signsIn at h
  refine V_iconst (n := 0) (v := (nI 0)) G eX11_signsIn_0 rfl ?_
  refine V_istoreA_n (i := 1) (L' := [some (.int a1), some (.int (nI 0)), none]) G rfl eX11_signsIn_1 (by decide) rfl rfl ?_
  refine V_bipush (n := 24) (v := (nI 24)) G eX11_signsIn_2 rfl ?_
  refine V_istoreA_n (i := 2) (L' := [some (.int a1), some (.int (nI 0)), some (.int (nI 24))]) G rfl eX11_signsIn_4 (by decide) rfl rfl ?_
  obtain ⟨x1, h1, h⟩ := bdS h
  refine B_signsIn_l1_ok G h1 ?_
  refine V_iload_n (i := 1) G eX11_signsIn_28 rfl rfl ?_
  exact V_ri G hr eX11_signsIn_29 h
theorem B_signsIn_ok {l : Launch} {w : Wld} {a1 : Int32} {μ : Mem} {r : Int32} (h : B_signsIn a1 = some r) : CtI l w yX11_signsIn cX11_signsIn 3 .int 1 [.int a1] μ r μ :=
  Ct_of (own := "PotBook") [some (.int a1), none, none] (by decide +kernel) rfl rfl (Nat.le_of_ble_eq_true rfl) fun p e s m args below meth c G hr => B_signsIn_run G hr h
set_option maxRecDepth 100000 in
set_option maxHeartbeats 4000000 in
theorem Tape_put_l1_ok {p : Program} {l : Launch} {e : Env} {R : Room} {s : State} {m : MethodId} {args : Array Value} {below : List Frame} {meth : Method} {c : Code} {w : Wld} {Q : State → Prop} (G : Cxt p R s m args meth c w cX9_put 4 "PotBook$Tape" 1 0 0) {v1 : Int32} {μo : Mem} : ∀ {n : Nat} {v2 : Int32} {μ : Mem}, Tape_put_l1 v1 n v2 μ = some μo → Vj p l e R s m args below meth c w 4 0 0 Q 54 [none, none, none, none] [] μo → Vj p l e R s m args below meth c w 4 0 0 Q 3 [some (.ref (wad w 9 0)), some (.int v1), some (.int v2), none] [] μ := by
  intro n
  induction n with
  | zero => intro v2 μ h K; exact noS h
  | succ n ih =>
    intro v2 μ h K
    replace h : Tape_put_l1b v1 (Tape_put_l1 v1 n) v2 μ = some μo := h
    unfold Tape_put_l1b at h
    refine V_iload_n (i := 2) G eX9_put_3 rfl rfl ?_
    refine V_if_lt G eX9_put_4 h (fun h => ?_) (fun h => ?_)
    · cases h; exact V_sub (lS_n (lS_n (lS_n (lS_n lS_0)))) K
    · refine V_iload_n (i := 1) G eX9_put_7 rfl rfl ?_
      refine V_iload_n (i := 2) G eX9_put_8 rfl rfl ?_
      refine V_ishr G eX9_put_9 ?_
      refine V_sipush (n := 255) (v := (nI 255)) G eX9_put_10 rfl ?_
      refine V_iand G eX9_put_13 ?_
      refine V_istore_n (i := 3) (L' := (fun x1 => [some (.ref (wad w 9 0)), some (.int v1), some (.int v2), some (.int x1)])) G rfl eX9_put_14 (by decide) rfl (fun _ => rfl) h (fun x1 h => ?_)
      refine V_iload_n (i := 3) G eX9_put_15 rfl rfl ?_
      obtain ⟨μ4, hj, h⟩ := bdS h
      have J : Vj p l e R s m args below meth c w 4 0 0 Q 48 [some (.ref (wad w 9 0)), some (.int v1), some (.int v2), none] [] μ4 := by
        clear hj
        refine V_iinc (z := (-8)) (L' := (fun x5 => [some (.ref (wad w 9 0)), some (.int v1), some (.int x5), none])) G eX9_put_48 rfl rfl (by decide) rfl (fun _ => rfl) h (fun x5 h => ?_)
        refine V_goto G eX9_put_51 ?_
        exact (ih h K)
      replace h := hj
      clear hj
      refine V_if_eq G eX9_put_16 h (fun h => ?_) (fun h => ?_)
      · cases h; exact V_sub (lS_s (lS_s (lS_s (lS_n lS_0)))) J
      · refine V_aload_n (i := 0) G eX9_put_19 rfl rfl ?_
        refine V_get (v := .int (mI μ 1001 0 0)) G fgX9_19 rfl eX9_put_20 ?_
        refine V_bipush (n := 120) (v := (nI 120)) G eX9_put_23 rfl ?_
        refine V_icmp_ge G eX9_put_25 h (fun h => ?_) (fun h => ?_)
        · cases h; exact V_sub (lS_s (lS_s (lS_s (lS_n lS_0)))) J
        · refine V_aload_n (i := 0) G eX9_put_28 rfl rfl ?_
          refine V_get (v := .ref (wad w 1000 0)) G fgX9_9 rfl eX9_put_29 ?_
          refine V_aload_n (i := 0) G eX9_put_32 rfl rfl ?_
          refine V_get (v := .int (mI μ 1001 0 0)) G fgX9_19 rfl eX9_put_33 ?_
          refine V_iload_n (i := 3) G eX9_put_36 rfl rfl ?_
          refine V_iast G al_1000 (by decide) eX9_put_37 h (fun μ2 h => ?_)
          refine V_aload_n (i := 0) G eX9_put_38 rfl rfl ?_
          refine V_dup G eX9_put_39 rfl ?_
          refine V_get (v := .int (mI μ2 1001 0 0)) G fgX9_19 rfl eX9_put_40 ?_
          refine V_iconst (n := 1) (v := (nI 1)) G eX9_put_43 rfl ?_
          refine V_iadd G eX9_put_44 ?_
          refine V_put G fgX9_19 fp_9_1 eX9_put_45 h (fun μ3 h => ?_)
          cases h; exact V_sub (lS_s (lS_s (lS_s (lS_n lS_0)))) J
set_option maxRecDepth 100000 in
set_option maxHeartbeats 4000000 in
theorem Tape_put_run {p : Program} {l : Launch} {e : Env} {R : Room} {s : State} {m : MethodId} {args : Array Value} {below : List Frame} {meth : Method} {c : Code} {w : Wld} (G : Cxt p R s m args meth c w cX9_put 4 "PotBook$Tape" 1 0 0) (hr : meth.sig.returnType = none) {a1 : Int32} {μ : Mem} {μ' : Mem} (h : Tape_put a1 μ = some μ') : Vj p l e R s m args below meth c w 4 0 0 (MQ below (QV w μ') args s 0 0 w.2.2.2) 0 [some (.ref (wad w 9 0)), some (.int a1), none, none] [] μ := by
  unfold Tape_put at h
  refine V_bipush (n := 24) (v := (nI 24)) G eX9_put_0 rfl ?_
  refine V_istoreA_n (i := 2) (L' := [some (.ref (wad w 9 0)), some (.int a1), some (.int (nI 24)), none]) G rfl eX9_put_2 (by decide) rfl rfl ?_
  obtain ⟨μ1, h1, h⟩ := bdS h
  refine Tape_put_l1_ok G h1 ?_
  exact V_rvM G hr eX9_put_54 h
theorem Tape_put_ok {l : Launch} {w : Wld} {a1 : Int32} {μ : Mem} {μ' : Mem} (h : Tape_put a1 μ = some μ') : CtV l w yX9_put cX9_put 4 1 [.ref (wad w 9 0), .int a1] μ μ' :=
  Ct_of (own := "PotBook$Tape") [some (.ref (wad w 9 0)), some (.int a1), none, none] (by decide +kernel) rfl rfl (Nat.le_of_ble_eq_true rfl) fun p e s m args below meth c G hr => Tape_put_run G hr h
set_option maxRecDepth 100000 in
set_option maxHeartbeats 4000000 in
theorem B_feed_run {p : Program} {l : Launch} {e : Env} {R : Room} {s : State} {m : MethodId} {args : Array Value} {below : List Frame} {meth : Method} {c : Code} {w : Wld} (G : Cxt p R s m args meth c w cX11_feed 7 "PotBook" 2 0 0) (hr : meth.sig.returnType = some .int) {a1 : Int32} {a2 : Int32} {a3 : Int32} {a4 : Int32} {a5 : Int32} {μ : Mem} {r : Int32} {μ' : Mem} (h : B_feed a1 a2 a3 a4 a5 μ = some (r, μ')) : Vj p l e R s m args below meth c w 7 0 0 (MQ below (QI w r μ') args s 0 0 w.2.2.2) 0 [some (.ref (wad w 11 0)), some (.int a1), some (.int a2), some (.int a3), some (.int a4), some (.int a5), none] [] μ := by
  unfold B_feed at h
  refine V_iload_n (i := 1) G eX11_feed_0 rfl rfl ?_
  obtain ⟨x1, h1, h⟩ := bdS h
  refine V_callIS (As := [.int a1]) (st := []) G lkX11_100 (B_signsIn_ok (μ := μ) h1) (by decide) rfl rfl (Nat.le_of_ble_eq_true rfl) eX11_feed_1 ?_
  refine V_iload_n (i := 2) G eX11_feed_4 rfl rfl ?_
  obtain ⟨x2, h1, h⟩ := bdS h
  refine V_callIS (As := [.int a2]) (st := [.int x1]) G lkX11_100 (B_signsIn_ok (μ := μ) h1) (by decide) rfl rfl (Nat.le_of_ble_eq_true rfl) eX11_feed_5 ?_
  refine V_iadd G eX11_feed_8 ?_
  refine V_iload_n (i := 3) G eX11_feed_9 rfl rfl ?_
  obtain ⟨x3, h1, h⟩ := bdS h
  refine V_callIS (As := [.int a3]) (st := [.int (x1 + x2)]) G lkX11_100 (B_signsIn_ok (μ := μ) h1) (by decide) rfl rfl (Nat.le_of_ble_eq_true rfl) eX11_feed_10 ?_
  refine V_iadd G eX11_feed_13 ?_
  refine V_iload G eX11_feed_14 rfl ?_
  obtain ⟨x4, h1, h⟩ := bdS h
  refine V_callIS (As := [.int a4]) (st := [.int ((x1 + x2) + x3)]) G lkX11_100 (B_signsIn_ok (μ := μ) h1) (by decide) rfl rfl (Nat.le_of_ble_eq_true rfl) eX11_feed_16 ?_
  refine V_iadd G eX11_feed_19 ?_
  refine V_iload G eX11_feed_20 rfl ?_
  obtain ⟨x5, h1, h⟩ := bdS h
  refine V_callIS (As := [.int a5]) (st := [.int (((x1 + x2) + x3) + x4)]) G lkX11_100 (B_signsIn_ok (μ := μ) h1) (by decide) rfl rfl (Nat.le_of_ble_eq_true rfl) eX11_feed_22 ?_
  refine V_iadd G eX11_feed_25 ?_
  refine V_istore (i := 6) (L' := (fun x6 => [some (.ref (wad w 11 0)), some (.int a1), some (.int a2), some (.int a3), some (.int a4), some (.int a5), some (.int x6)])) G eX11_feed_26 (by decide) rfl (fun _ => rfl) h (fun x6 h => ?_)
  refine V_aload_n (i := 0) G eX11_feed_28 rfl rfl ?_
  refine V_get (v := .ref (wad w 9 0)) G fgX11_10 rfl eX11_feed_29 ?_
  refine V_get (v := .int (mI μ 1001 0 0)) G fgX11_104 rfl eX11_feed_32 ?_
  refine V_iload G eX11_feed_35 rfl ?_
  refine V_iadd G eX11_feed_37 ?_
  refine V_bipush (n := 120) (v := (nI 120)) G eX11_feed_38 rfl ?_
  refine V_icmp_le G eX11_feed_40 h (fun h => ?_) (fun h => ?_)
  · refine V_aload_n (i := 0) G eX11_feed_45 rfl rfl ?_
    refine V_get (v := .ref (wad w 9 0)) G fgX11_10 rfl eX11_feed_46 ?_
    refine V_iload_n (i := 1) G eX11_feed_49 rfl rfl ?_
    obtain ⟨μ7, h1, h⟩ := bdS h
    refine V_callV (As := [.int a1]) (st := []) G lkX11_108 (Tape_put_ok h1) (by decide) rfl rfl (Nat.le_of_ble_eq_true rfl) eX11_feed_50 ?_
    refine V_aload_n (i := 0) G eX11_feed_53 rfl rfl ?_
    refine V_get (v := .ref (wad w 9 0)) G fgX11_10 rfl eX11_feed_54 ?_
    refine V_iload_n (i := 2) G eX11_feed_57 rfl rfl ?_
    obtain ⟨μ8, h1, h⟩ := bdS h
    refine V_callV (As := [.int a2]) (st := []) G lkX11_108 (Tape_put_ok h1) (by decide) rfl rfl (Nat.le_of_ble_eq_true rfl) eX11_feed_58 ?_
    refine V_aload_n (i := 0) G eX11_feed_61 rfl rfl ?_
    refine V_get (v := .ref (wad w 9 0)) G fgX11_10 rfl eX11_feed_62 ?_
    refine V_iload_n (i := 3) G eX11_feed_65 rfl rfl ?_
    obtain ⟨μ9, h1, h⟩ := bdS h
    refine V_callV (As := [.int a3]) (st := []) G lkX11_108 (Tape_put_ok h1) (by decide) rfl rfl (Nat.le_of_ble_eq_true rfl) eX11_feed_66 ?_
    refine V_aload_n (i := 0) G eX11_feed_69 rfl rfl ?_
    refine V_get (v := .ref (wad w 9 0)) G fgX11_10 rfl eX11_feed_70 ?_
    refine V_iload G eX11_feed_73 rfl ?_
    obtain ⟨μ10, h1, h⟩ := bdS h
    refine V_callV (As := [.int a4]) (st := []) G lkX11_108 (Tape_put_ok h1) (by decide) rfl rfl (Nat.le_of_ble_eq_true rfl) eX11_feed_75 ?_
    refine V_aload_n (i := 0) G eX11_feed_78 rfl rfl ?_
    refine V_get (v := .ref (wad w 9 0)) G fgX11_10 rfl eX11_feed_79 ?_
    refine V_iload G eX11_feed_82 rfl ?_
    obtain ⟨μ11, h1, h⟩ := bdS h
    refine V_callV (As := [.int a5]) (st := []) G lkX11_108 (Tape_put_ok h1) (by decide) rfl rfl (Nat.le_of_ble_eq_true rfl) eX11_feed_84 ?_
    refine V_aload_n (i := 0) G eX11_feed_87 rfl rfl ?_
    refine V_get (v := .ref (wad w 9 0)) G fgX11_10 rfl eX11_feed_88 ?_
    refine V_get (v := .int (mI μ11 1001 0 0)) G fgX11_104 rfl eX11_feed_91 ?_
    exact V_riM G hr eX11_feed_94 h
  · refine V_iconst (n := -1) (v := (-1)) G eX11_feed_43 rfl ?_
    exact V_riM G hr eX11_feed_44 h
theorem B_feed_ok {l : Launch} {w : Wld} {a1 : Int32} {a2 : Int32} {a3 : Int32} {a4 : Int32} {a5 : Int32} {μ : Mem} {r : Int32} {μ' : Mem} (h : B_feed a1 a2 a3 a4 a5 μ = some (r, μ')) : CtI l w yX11_feed cX11_feed 7 .int 2 [.ref (wad w 11 0), .int a1, .int a2, .int a3, .int a4, .int a5] μ r μ' :=
  Ct_of (own := "PotBook") [some (.ref (wad w 11 0)), some (.int a1), some (.int a2), some (.int a3), some (.int a4), some (.int a5), none] (by decide +kernel) rfl rfl (Nat.le_of_ble_eq_true rfl) fun p e s m args below meth c G hr => B_feed_run G hr h
set_option maxRecDepth 100000 in
set_option maxHeartbeats 4000000 in
theorem B_end_run {p : Program} {l : Launch} {e : Env} {R : Room} {s : State} {m : MethodId} {args : Array Value} {below : List Frame} {meth : Method} {c : Code} {w : Wld} (G : Cxt p R s m args meth c w cX11_end 2 "PotBook" 1 0 0) (hr : meth.sig.returnType = some .boolean) {a1 : Int32} {μ : Mem} {r : Int32} {μ' : Mem} (h : B_end a1 μ = some (r, μ')) : Vj p l e R s m args below meth c w 2 0 0 (MQ below (QI w r μ') args s 0 0 w.2.2.2) 0 [some (.ref (wad w 11 0)), some (.int a1)] [] μ := by
  unfold B_end at h
  refine V_iload_n (i := 1) G eX11_end_0 rfl rfl ?_
  refine V_if_lt G eX11_end_1 h (fun h => ?_) (fun h => ?_)
  · refine V_iconst (n := 0) (v := (nI 0)) G eX11_end_15 rfl ?_
    exact V_rzM G hr eX11_end_16 h
  · refine V_iload_n (i := 1) G eX11_end_4 rfl rfl ?_
    refine V_aload_n (i := 0) G eX11_end_5 rfl rfl ?_
    refine V_get (v := .ref (wad w 9 0)) G fgX11_10 rfl eX11_end_6 ?_
    refine V_get (v := .int (mI μ 1001 0 0)) G fgX11_104 rfl eX11_end_9 ?_
    refine V_icmp_le G eX11_end_12 h (fun h => ?_) (fun h => ?_)
    · refine V_aload_n (i := 0) G eX11_end_17 rfl rfl ?_
      refine V_get (v := .ref (wad w 9 0)) G fgX11_10 rfl eX11_end_18 ?_
      refine V_iload_n (i := 1) G eX11_end_21 rfl rfl ?_
      refine V_put G fgX11_104 fp_9_1 eX11_end_22 h (fun μ1 h => ?_)
      refine V_iconst (n := 1) (v := (nI 1)) G eX11_end_25 rfl ?_
      exact V_rzM G hr eX11_end_26 h
    · refine V_iconst (n := 0) (v := (nI 0)) G eX11_end_15 rfl ?_
      exact V_rzM G hr eX11_end_16 h
theorem B_end_ok {l : Launch} {w : Wld} {a1 : Int32} {μ : Mem} {r : Int32} {μ' : Mem} (h : B_end a1 μ = some (r, μ')) : CtI l w yX11_end cX11_end 2 .boolean 1 [.ref (wad w 11 0), .int a1] μ r μ' :=
  Ct_of (own := "PotBook") [some (.ref (wad w 11 0)), some (.int a1)] (by decide +kernel) rfl rfl (Nat.le_of_ble_eq_true rfl) fun p e s m args below meth c G hr => B_end_run G hr h
set_option maxRecDepth 100000 in
set_option maxHeartbeats 4000000 in
theorem Pages_clearRow_l1_ok {p : Program} {l : Launch} {e : Env} {R : Room} {s : State} {m : MethodId} {args : Array Value} {below : List Frame} {meth : Method} {c : Code} {w : Wld} {Q : State → Prop} (G : Cxt p R s m args meth c w cX6_clearRow 2 "PotBook$Pages" 1 0 0) {μo : Mem} : ∀ {n : Nat} {v1 : Int32} {μ : Mem}, Pages_clearRow_l1 n v1 μ = some μo → Vj p l e R s m args below meth c w 2 0 0 Q 65 [none, none] [] μo → Vj p l e R s m args below meth c w 2 0 0 Q 42 [some (.ref (wad w 6 0)), some (.int v1)] [] μ := by
  intro n
  induction n with
  | zero => intro v1 μ h K; exact noS h
  | succ n ih =>
    intro v1 μ h K
    replace h : Pages_clearRow_l1b (Pages_clearRow_l1 n) v1 μ = some μo := h
    unfold Pages_clearRow_l1b at h
    refine V_iload_n (i := 1) G eX6_clearRow_42 rfl rfl ?_
    refine V_iconst (n := 4) (v := (nI 4)) G eX6_clearRow_43 rfl ?_
    refine V_icmp_ge G eX6_clearRow_44 h (fun h => ?_) (fun h => ?_)
    · cases h; exact V_sub (lS_n (lS_n lS_0)) K
    · refine V_aload_n (i := 0) G eX6_clearRow_47 rfl rfl ?_
      refine V_get (v := .ref (wad w 10710 0)) G fgX6_38 rfl eX6_clearRow_48 ?_
      refine V_aload_n (i := 0) G eX6_clearRow_51 rfl rfl ?_
      refine V_get (v := .int (mI μ 712 0 0)) G fgX6_52 rfl eX6_clearRow_52 ?_
      refine V_aaldI (id := 710) G al_10710 eX6_clearRow_55 h (fun r1 hr1 h => ?_)
      refine V_iload_n (i := 1) G eX6_clearRow_56 rfl rfl ?_
      refine V_iconst (n := 0) (v := (nI 0)) G eX6_clearRow_57 rfl ?_
      refine V_iast G al_710 hr1 eX6_clearRow_58 h (fun μ2 h => ?_)
      refine V_iinc (z := (nI 1)) (L' := (fun x3 => [some (.ref (wad w 6 0)), some (.int x3)])) G eX6_clearRow_59 rfl rfl (by decide) rfl (fun _ => rfl) h (fun x3 h => ?_)
      refine V_goto G eX6_clearRow_62 ?_
      exact (ih h K)
set_option maxRecDepth 100000 in
set_option maxHeartbeats 4000000 in
theorem Pages_clearRow_run {p : Program} {l : Launch} {e : Env} {R : Room} {s : State} {m : MethodId} {args : Array Value} {below : List Frame} {meth : Method} {c : Code} {w : Wld} (G : Cxt p R s m args meth c w cX6_clearRow 2 "PotBook$Pages" 1 0 0) (hr : meth.sig.returnType = none) {μ : Mem} {μ' : Mem} (h : Pages_clearRow μ = some μ') : Vj p l e R s m args below meth c w 2 0 0 (MQ below (QV w μ') args s 0 0 w.2.2.2) 0 [some (.ref (wad w 6 0)), none] [] μ := by
  unfold Pages_clearRow at h
  refine V_aload_n (i := 0) G eX6_clearRow_0 rfl rfl ?_
  refine V_get (v := .ref (wad w 702 0)) G fgX6_9 rfl eX6_clearRow_1 ?_
  refine V_aload_n (i := 0) G eX6_clearRow_4 rfl rfl ?_
  refine V_get (v := .int (mI μ 712 0 0)) G fgX6_52 rfl eX6_clearRow_5 ?_
  refine V_iconst (n := 0) (v := (nI 0)) G eX6_clearRow_8 rfl ?_
  refine V_iast G al_702 (by decide) eX6_clearRow_9 h (fun μ1 h => ?_)
  refine V_aload_n (i := 0) G eX6_clearRow_10 rfl rfl ?_
  refine V_get (v := .ref (wad w 706 0)) G fgX6_26 rfl eX6_clearRow_11 ?_
  refine V_aload_n (i := 0) G eX6_clearRow_14 rfl rfl ?_
  refine V_get (v := .int (mI μ1 712 0 0)) G fgX6_52 rfl eX6_clearRow_15 ?_
  refine V_iconst (n := 0) (v := (nI 0)) G eX6_clearRow_18 rfl ?_
  refine V_iast G al_706 (by decide) eX6_clearRow_19 h (fun μ2 h => ?_)
  refine V_aload_n (i := 0) G eX6_clearRow_20 rfl rfl ?_
  refine V_get (v := .ref (wad w 707 0)) G fgX6_29 rfl eX6_clearRow_21 ?_
  refine V_aload_n (i := 0) G eX6_clearRow_24 rfl rfl ?_
  refine V_get (v := .int (mI μ2 712 0 0)) G fgX6_52 rfl eX6_clearRow_25 ?_
  refine V_iconst (n := 0) (v := (nI 0)) G eX6_clearRow_28 rfl ?_
  refine V_iast G al_707 (by decide) eX6_clearRow_29 h (fun μ3 h => ?_)
  refine V_aload_n (i := 0) G eX6_clearRow_30 rfl rfl ?_
  refine V_get (v := .ref (wad w 709 0)) G fgX6_35 rfl eX6_clearRow_31 ?_
  refine V_aload_n (i := 0) G eX6_clearRow_34 rfl rfl ?_
  refine V_get (v := .int (mI μ3 712 0 0)) G fgX6_52 rfl eX6_clearRow_35 ?_
  refine V_iconst (n := 0) (v := (nI 0)) G eX6_clearRow_38 rfl ?_
  refine V_iast G al_709 (by decide) eX6_clearRow_39 h (fun μ4 h => ?_)
  refine V_iconst (n := 0) (v := (nI 0)) G eX6_clearRow_40 rfl ?_
  refine V_istoreA_n (i := 1) (L' := [some (.ref (wad w 6 0)), some (.int (nI 0))]) G rfl eX6_clearRow_41 (by decide) rfl rfl ?_
  obtain ⟨μ5, h1, h⟩ := bdS h
  refine Pages_clearRow_l1_ok G h1 ?_
  exact V_rvM G hr eX6_clearRow_65 h
theorem Pages_clearRow_ok {l : Launch} {w : Wld} {μ : Mem} {μ' : Mem} (h : Pages_clearRow μ = some μ') : CtV l w yX6_clearRow cX6_clearRow 2 1 [.ref (wad w 6 0)] μ μ' :=
  Ct_of (own := "PotBook$Pages") [some (.ref (wad w 6 0)), none] (by decide +kernel) rfl rfl (Nat.le_of_ble_eq_true rfl) fun p e s m args below meth c G hr => Pages_clearRow_run G hr h
set_option maxRecDepth 100000 in
set_option maxHeartbeats 4000000 in
theorem Tape_begin_run {p : Program} {l : Launch} {e : Env} {R : Room} {s : State} {m : MethodId} {args : Array Value} {below : List Frame} {meth : Method} {c : Code} {w : Wld} (G : Cxt p R s m args meth c w cX9_begin 1 "PotBook$Tape" 1 0 0) (hr : meth.sig.returnType = none) {μ : Mem} {μ' : Mem} (h : Tape_begin μ = some μ') : Vj p l e R s m args below meth c w 1 0 0 (MQ below (QV w μ') args s 0 0 w.2.2.2) 0 [some (.ref (wad w 9 0))] [] μ := by
  unfold Tape_begin at h
  refine V_aload_n (i := 0) G eX9_begin_0 rfl rfl ?_
  refine V_iconst (n := 0) (v := (nI 0)) G eX9_begin_1 rfl ?_
  refine V_put G fgX9_22 fp_9_2 eX9_begin_2 h (fun μ1 h => ?_)
  refine V_aload_n (i := 0) G eX9_begin_5 rfl rfl ?_
  refine V_iconst (n := -1) (v := (-1)) G eX9_begin_6 rfl ?_
  refine V_put G fgX9_15 fp_9_3 eX9_begin_7 h (fun μ2 h => ?_)
  exact V_rvM G hr eX9_begin_10 h
theorem Tape_begin_ok {l : Launch} {w : Wld} {μ : Mem} {μ' : Mem} (h : Tape_begin μ = some μ') : CtV l w yX9_begin cX9_begin 1 1 [.ref (wad w 9 0)] μ μ' :=
  Ct_of (own := "PotBook$Tape") [some (.ref (wad w 9 0))] (by decide +kernel) rfl rfl (Nat.le_of_ble_eq_true rfl) fun p e s m args below meth c G hr => Tape_begin_run G hr h
set_option maxRecDepth 100000 in
set_option maxHeartbeats 4000000 in
theorem Tape_look_l1_ok {p : Program} {l : Launch} {e : Env} {R : Room} {s : State} {m : MethodId} {args : Array Value} {below : List Frame} {meth : Method} {c : Code} {w : Wld} {Q : State → Prop} (G : Cxt p R s m args meth c w cX9_look 2 "PotBook$Tape" 1 0 0) {μo : Mem} : ∀ {n : Nat} {v1 : Int32} {μ : Mem}, Tape_look_l1 n v1 μ = some μo → Vj p l e R s m args below meth c w 2 0 0 Q 37 [some (.ref (wad w 9 0)), none] [] μo → Vj p l e R s m args below meth c w 2 0 0 Q 5 [some (.ref (wad w 9 0)), some (.int v1)] [] μ := by
  intro n
  induction n with
  | zero => intro v1 μ h K; exact noS h
  | succ n ih =>
    intro v1 μ h K
    replace h : Tape_look_l1b (Tape_look_l1 n) v1 μ = some μo := h
    unfold Tape_look_l1b at h
    refine V_iload_n (i := 1) G eX9_look_5 rfl rfl ?_
    refine V_aload_n (i := 0) G eX9_look_6 rfl rfl ?_
    refine V_get (v := .int (mI μ 1001 0 0)) G fgX9_19 rfl eX9_look_7 ?_
    refine V_icmp_ge G eX9_look_10 h (fun h => ?_) (fun h => ?_)
    · cases h; exact V_sub (lS_s (lS_n lS_0)) K
    · refine V_aload_n (i := 0) G eX9_look_13 rfl rfl ?_
      refine V_get (v := .ref (wad w 1000 0)) G fgX9_9 rfl eX9_look_14 ?_
      refine V_iload_n (i := 1) G eX9_look_17 rfl rfl ?_
      refine V_iald G al_1000 (by decide) eX9_look_18 h (fun x1 h => ?_)
      refine V_bipush (n := 32) (v := (nI 32)) G eX9_look_19 rfl ?_
      refine V_icmp_ne G eX9_look_21 h (fun h => ?_) (fun h => ?_)
      · cases h; exact V_sub (lS_s (lS_n lS_0)) K
      · refine V_aload_n (i := 0) G eX9_look_24 rfl rfl ?_
        refine V_iload_n (i := 1) G eX9_look_25 rfl rfl ?_
        refine V_iconst (n := 1) (v := (nI 1)) G eX9_look_26 rfl ?_
        refine V_iadd G eX9_look_27 ?_
        refine V_put G fgX9_22 fp_9_2 eX9_look_28 h (fun μ2 h => ?_)
        refine V_iinc (z := (nI 1)) (L' := (fun x3 => [some (.ref (wad w 9 0)), some (.int x3)])) G eX9_look_31 rfl rfl (by decide) rfl (fun _ => rfl) h (fun x3 h => ?_)
        refine V_goto G eX9_look_34 ?_
        exact (ih h K)
set_option maxRecDepth 100000 in
set_option maxHeartbeats 4000000 in
theorem Tape_look_run {p : Program} {l : Launch} {e : Env} {R : Room} {s : State} {m : MethodId} {args : Array Value} {below : List Frame} {meth : Method} {c : Code} {w : Wld} (G : Cxt p R s m args meth c w cX9_look 2 "PotBook$Tape" 1 0 0) (hr : meth.sig.returnType = some .int) {μ : Mem} {r : Int32} {μ' : Mem} (h : Tape_look μ = some (r, μ')) : Vj p l e R s m args below meth c w 2 0 0 (MQ below (QI w r μ') args s 0 0 w.2.2.2) 0 [some (.ref (wad w 9 0)), none] [] μ := by
  unfold Tape_look at h
  refine V_aload_n (i := 0) G eX9_look_0 rfl rfl ?_
  refine V_get (v := .int (mI μ 1002 0 0)) G fgX9_22 rfl eX9_look_1 ?_
  refine V_istore_n (i := 1) (L' := (fun x1 => [some (.ref (wad w 9 0)), some (.int x1)])) G rfl eX9_look_4 (by decide) rfl (fun _ => rfl) h (fun x1 h => ?_)
  obtain ⟨μ2, h1, h⟩ := bdS h
  refine Tape_look_l1_ok G h1 ?_
  refine V_aload_n (i := 0) G eX9_look_37 rfl rfl ?_
  refine V_get (v := .int (mI μ2 1002 0 0)) G fgX9_22 rfl eX9_look_38 ?_
  refine V_aload_n (i := 0) G eX9_look_41 rfl rfl ?_
  refine V_get (v := .int (mI μ2 1001 0 0)) G fgX9_19 rfl eX9_look_42 ?_
  refine V_icmp_ge G eX9_look_45 h (fun h => ?_) (fun h => ?_)
  · refine V_iconst (n := -1) (v := (-1)) G eX9_look_60 rfl ?_
    exact V_riM G hr eX9_look_61 h
  · refine V_aload_n (i := 0) G eX9_look_48 rfl rfl ?_
    refine V_get (v := .ref (wad w 1000 0)) G fgX9_9 rfl eX9_look_49 ?_
    refine V_aload_n (i := 0) G eX9_look_52 rfl rfl ?_
    refine V_get (v := .int (mI μ2 1002 0 0)) G fgX9_22 rfl eX9_look_53 ?_
    refine V_iald G al_1000 (by decide) eX9_look_56 h (fun x3 h => ?_)
    refine V_goto G eX9_look_57 ?_
    exact V_riM G hr eX9_look_61 h
theorem Tape_look_ok {l : Launch} {w : Wld} {μ : Mem} {r : Int32} {μ' : Mem} (h : Tape_look μ = some (r, μ')) : CtI l w yX9_look cX9_look 2 .int 1 [.ref (wad w 9 0)] μ r μ' :=
  Ct_of (own := "PotBook$Tape") [some (.ref (wad w 9 0)), none] (by decide +kernel) rfl rfl (Nat.le_of_ble_eq_true rfl) fun p e s m args below meth c G hr => Tape_look_run G hr h
set_option maxRecDepth 100000 in
set_option maxHeartbeats 4000000 in
theorem Pantry_has_run {p : Program} {l : Launch} {e : Env} {R : Room} {s : State} {m : MethodId} {args : Array Value} {below : List Frame} {meth : Method} {c : Code} {w : Wld} (G : Cxt p R s m args meth c w cX7_has 2 "PotBook$Pantry" 1 0 0) (hr : meth.sig.returnType = some .boolean) {a1 : Int32} {μ : Mem} {r : Int32} (h : Pantry_has a1 μ = some r) : Vj p l e R s m args below meth c w 2 0 0 (MQ below (QI w r μ) args s 0 0 w.2.2.2) 0 [some (.ref (wad w 7 0)), some (.int a1)] [] μ := by
  unfold Pantry_has at h
  refine V_iload_n (i := 1) G eX7_has_0 rfl rfl ?_
  refine V_if_lt G eX7_has_1 h (fun h => ?_) (fun h => ?_)
  · refine V_iconst (n := 0) (v := (nI 0)) G eX7_has_16 rfl ?_
    exact V_rz G hr eX7_has_17 h
  · refine V_iload_n (i := 1) G eX7_has_4 rfl rfl ?_
    refine V_aload_n (i := 0) G eX7_has_5 rfl rfl ?_
    refine V_get (v := .int (mI μ 808 0 0)) G fgX7_35 rfl eX7_has_6 ?_
    refine V_icmp_ge G eX7_has_9 h (fun h => ?_) (fun h => ?_)
    · refine V_iconst (n := 0) (v := (nI 0)) G eX7_has_16 rfl ?_
      exact V_rz G hr eX7_has_17 h
    · refine V_iconst (n := 1) (v := (nI 1)) G eX7_has_12 rfl ?_
      refine V_goto G eX7_has_13 ?_
      exact V_rz G hr eX7_has_17 h
theorem Pantry_has_ok {l : Launch} {w : Wld} {a1 : Int32} {μ : Mem} {r : Int32} (h : Pantry_has a1 μ = some r) : CtI l w yX7_has cX7_has 2 .boolean 1 [.ref (wad w 7 0), .int a1] μ r μ :=
  Ct_of (own := "PotBook$Pantry") [some (.ref (wad w 7 0)), some (.int a1)] (by decide +kernel) rfl rfl (Nat.le_of_ble_eq_true rfl) fun p e s m args below meth c G hr => Pantry_has_run G hr h
set_option maxRecDepth 100000 in
set_option maxHeartbeats 4000000 in
theorem B_holdsBit_run {p : Program} {l : Launch} {e : Env} {R : Room} {s : State} {m : MethodId} {args : Array Value} {below : List Frame} {meth : Method} {c : Code} {w : Wld} (G : Cxt p R s m args meth c w cX11_holdsBit 2 "PotBook" 1 0 0) (hr : meth.sig.returnType = some .boolean) {a1 : Int32} {a2 : Int32} {μ : Mem} {r : Int32} (h : B_holdsBit a1 a2 = some r) : Vj p l e R s m args below meth c w 2 0 0 (MQ below (QI w r μ) args s 0 0 w.2.2.2) 0 [some (.int a1), some (.int a2)] [] μ := by
  unfold B_holdsBit at h
  refine V_iload_n (i := 0) G eX11_holdsBit_0 rfl rfl ?_
  refine V_iload_n (i := 1) G eX11_holdsBit_1 rfl rfl ?_
  refine V_ishr G eX11_holdsBit_2 ?_
  refine V_iconst (n := 1) (v := (nI 1)) G eX11_holdsBit_3 rfl ?_
  refine V_iand G eX11_holdsBit_4 ?_
  refine V_if_eq G eX11_holdsBit_5 h (fun h => ?_) (fun h => ?_)
  · refine V_iconst (n := 0) (v := (nI 0)) G eX11_holdsBit_12 rfl ?_
    exact V_rz G hr eX11_holdsBit_13 h
  · refine V_iconst (n := 1) (v := (nI 1)) G eX11_holdsBit_8 rfl ?_
    refine V_goto G eX11_holdsBit_9 ?_
    exact V_rz G hr eX11_holdsBit_13 h
theorem B_holdsBit_ok {l : Launch} {w : Wld} {a1 : Int32} {a2 : Int32} {μ : Mem} {r : Int32} (h : B_holdsBit a1 a2 = some r) : CtI l w yX11_holdsBit cX11_holdsBit 2 .boolean 1 [.int a1, .int a2] μ r μ :=
  Ct_of (own := "PotBook") [some (.int a1), some (.int a2)] (by decide +kernel) rfl rfl (Nat.le_of_ble_eq_true rfl) fun p e s m args below meth c G hr => B_holdsBit_run G hr h
set_option maxRecDepth 100000 in
set_option maxHeartbeats 4000000 in
theorem Tape_wrongHere_run {p : Program} {l : Launch} {e : Env} {R : Room} {s : State} {m : MethodId} {args : Array Value} {below : List Frame} {meth : Method} {c : Code} {w : Wld} (G : Cxt p R s m args meth c w cX9_wrongHere 1 "PotBook$Tape" 1 0 0) (hr : meth.sig.returnType = some .boolean) {μ : Mem} {r : Int32} {μ' : Mem} (h : Tape_wrongHere μ = some (r, μ')) : Vj p l e R s m args below meth c w 1 0 0 (MQ below (QI w r μ') args s 0 0 w.2.2.2) 0 [some (.ref (wad w 9 0))] [] μ := by
  unfold Tape_wrongHere at h
  refine V_aload_n (i := 0) G eX9_wrongHere_0 rfl rfl ?_
  refine V_aload_n (i := 0) G eX9_wrongHere_1 rfl rfl ?_
  refine V_get (v := .int (mI μ 1002 0 0)) G fgX9_22 rfl eX9_wrongHere_2 ?_
  refine V_put G fgX9_15 fp_9_3 eX9_wrongHere_5 h (fun μ1 h => ?_)
  refine V_iconst (n := 0) (v := (nI 0)) G eX9_wrongHere_8 rfl ?_
  exact V_rzM G hr eX9_wrongHere_9 h
theorem Tape_wrongHere_ok {l : Launch} {w : Wld} {μ : Mem} {r : Int32} {μ' : Mem} (h : Tape_wrongHere μ = some (r, μ')) : CtI l w yX9_wrongHere cX9_wrongHere 1 .boolean 1 [.ref (wad w 9 0)] μ r μ' :=
  Ct_of (own := "PotBook$Tape") [some (.ref (wad w 9 0))] (by decide +kernel) rfl rfl (Nat.le_of_ble_eq_true rfl) fun p e s m args below meth c G hr => Tape_wrongHere_run G hr h
set_option maxRecDepth 100000 in
set_option maxHeartbeats 4000000 in
theorem Tape_step_run {p : Program} {l : Launch} {e : Env} {R : Room} {s : State} {m : MethodId} {args : Array Value} {below : List Frame} {meth : Method} {c : Code} {w : Wld} (G : Cxt p R s m args meth c w cX9_step 1 "PotBook$Tape" 1 0 0) (hr : meth.sig.returnType = none) {μ : Mem} {μ' : Mem} (h : Tape_step μ = some μ') : Vj p l e R s m args below meth c w 1 0 0 (MQ below (QV w μ') args s 0 0 w.2.2.2) 0 [some (.ref (wad w 9 0))] [] μ := by
  unfold Tape_step at h
  refine V_aload_n (i := 0) G eX9_step_0 rfl rfl ?_
  refine V_get (v := .int (mI μ 1002 0 0)) G fgX9_22 rfl eX9_step_1 ?_
  refine V_aload_n (i := 0) G eX9_step_4 rfl rfl ?_
  refine V_get (v := .int (mI μ 1001 0 0)) G fgX9_19 rfl eX9_step_5 ?_
  refine V_icmp_ge G eX9_step_8 h (fun h => ?_) (fun h => ?_)
  · exact V_rvM G hr eX9_step_21 h
  · refine V_aload_n (i := 0) G eX9_step_11 rfl rfl ?_
    refine V_dup G eX9_step_12 rfl ?_
    refine V_get (v := .int (mI μ 1002 0 0)) G fgX9_22 rfl eX9_step_13 ?_
    refine V_iconst (n := 1) (v := (nI 1)) G eX9_step_16 rfl ?_
    refine V_iadd G eX9_step_17 ?_
    refine V_put G fgX9_22 fp_9_2 eX9_step_18 h (fun μ1 h => ?_)
    exact V_rvM G hr eX9_step_21 h
theorem Tape_step_ok {l : Launch} {w : Wld} {μ : Mem} {μ' : Mem} (h : Tape_step μ = some μ') : CtV l w yX9_step cX9_step 1 1 [.ref (wad w 9 0)] μ μ' :=
  Ct_of (own := "PotBook$Tape") [some (.ref (wad w 9 0))] (by decide +kernel) rfl rfl (Nat.le_of_ble_eq_true rfl) fun p e s m args below meth c G hr => Tape_step_run G hr h
set_option maxRecDepth 100000 in
set_option maxHeartbeats 4000000 in
theorem B_isDigit_run {p : Program} {l : Launch} {e : Env} {R : Room} {s : State} {m : MethodId} {args : Array Value} {below : List Frame} {meth : Method} {c : Code} {w : Wld} (G : Cxt p R s m args meth c w cX11_isDigit 1 "PotBook" 1 0 0) (hr : meth.sig.returnType = some .boolean) {a1 : Int32} {μ : Mem} {r : Int32} (h : B_isDigit a1 = some r) : Vj p l e R s m args below meth c w 1 0 0 (MQ below (QI w r μ) args s 0 0 w.2.2.2) 0 [some (.int a1)] [] μ := by
  unfold B_isDigit at h
  refine V_iload_n (i := 0) G eX11_isDigit_0 rfl rfl ?_
  refine V_bipush (n := 48) (v := (nI 48)) G eX11_isDigit_1 rfl ?_
  refine V_icmp_lt G eX11_isDigit_3 h (fun h => ?_) (fun h => ?_)
  · refine V_iconst (n := 0) (v := (nI 0)) G eX11_isDigit_16 rfl ?_
    exact V_rz G hr eX11_isDigit_17 h
  · refine V_iload_n (i := 0) G eX11_isDigit_6 rfl rfl ?_
    refine V_bipush (n := 57) (v := (nI 57)) G eX11_isDigit_7 rfl ?_
    refine V_icmp_gt G eX11_isDigit_9 h (fun h => ?_) (fun h => ?_)
    · refine V_iconst (n := 0) (v := (nI 0)) G eX11_isDigit_16 rfl ?_
      exact V_rz G hr eX11_isDigit_17 h
    · refine V_iconst (n := 1) (v := (nI 1)) G eX11_isDigit_12 rfl ?_
      refine V_goto G eX11_isDigit_13 ?_
      exact V_rz G hr eX11_isDigit_17 h
theorem B_isDigit_ok {l : Launch} {w : Wld} {a1 : Int32} {μ : Mem} {r : Int32} (h : B_isDigit a1 = some r) : CtI l w yX11_isDigit cX11_isDigit 1 .boolean 1 [.int a1] μ r μ :=
  Ct_of (own := "PotBook") [some (.int a1)] (by decide +kernel) rfl rfl (Nat.le_of_ble_eq_true rfl) fun p e s m args below meth c G hr => B_isDigit_run G hr h
set_option maxRecDepth 100000 in
set_option maxHeartbeats 4000000 in
theorem Tape_readNumber_l1_ok {p : Program} {l : Launch} {e : Env} {R : Room} {s : State} {m : MethodId} {args : Array Value} {below : List Frame} {meth : Method} {c : Code} {w : Wld} {Q : State → Prop} (G : Cxt p R s m args meth c w cX9_readNumber 4 "PotBook$Tape" 2 0 0) {v3 : Int32} {o1 : Int32} {μo : Mem} : ∀ {n : Nat} {v2 : Int32} {μ : Mem}, Tape_readNumber_l1 v3 n v2 μ = some (o1, μo) → Vj p l e R s m args below meth c w 4 0 0 Q 84 [some (.ref (wad w 9 0)), none, some (.int o1), none] [] μo → Vj p l e R s m args below meth c w 4 0 0 Q 30 [some (.ref (wad w 9 0)), none, some (.int v2), some (.int v3)] [] μ := by
  intro n
  induction n with
  | zero => intro v2 μ h K; exact noS h
  | succ n ih =>
    intro v2 μ h K
    replace h : Tape_readNumber_l1b v3 (Tape_readNumber_l1 v3 n) v2 μ = some (o1, μo) := h
    unfold Tape_readNumber_l1b at h
    refine V_aload_n (i := 0) G eX9_readNumber_30 rfl rfl ?_
    refine V_get (v := .int (mI μ 1002 0 0)) G fgX9_22 rfl eX9_readNumber_31 ?_
    refine V_iload_n (i := 3) G eX9_readNumber_34 rfl rfl ?_
    refine V_icmp_ge G eX9_readNumber_35 h (fun h => ?_) (fun h => ?_)
    · cases h; exact V_sub (lS_s (lS_n (lS_s (lS_n lS_0)))) K
    · refine V_aload_n (i := 0) G eX9_readNumber_38 rfl rfl ?_
      refine V_get (v := .ref (wad w 1000 0)) G fgX9_9 rfl eX9_readNumber_39 ?_
      refine V_aload_n (i := 0) G eX9_readNumber_42 rfl rfl ?_
      refine V_get (v := .int (mI μ 1002 0 0)) G fgX9_22 rfl eX9_readNumber_43 ?_
      refine V_iald G al_1000 (by decide) eX9_readNumber_46 h (fun x1 h => ?_)
      obtain ⟨x2, h1, h⟩ := bdS h
      refine V_callIS (As := [.int x1]) (st := []) G lkX9_29 (B_isDigit_ok (μ := μ) h1) (by decide) rfl rfl (Nat.le_of_ble_eq_true rfl) eX9_readNumber_47 ?_
      refine V_if_eq G eX9_readNumber_50 h (fun h => ?_) (fun h => ?_)
      · cases h; exact V_sub (lS_s (lS_n (lS_s (lS_n lS_0)))) K
      · refine V_iload_n (i := 2) G eX9_readNumber_53 rfl rfl ?_
        refine V_bipush (n := 10) (v := (nI 10)) G eX9_readNumber_54 rfl ?_
        refine V_imul G eX9_readNumber_56 ?_
        refine V_aload_n (i := 0) G eX9_readNumber_57 rfl rfl ?_
        refine V_get (v := .ref (wad w 1000 0)) G fgX9_9 rfl eX9_readNumber_58 ?_
        refine V_aload_n (i := 0) G eX9_readNumber_61 rfl rfl ?_
        refine V_get (v := .int (mI μ 1002 0 0)) G fgX9_22 rfl eX9_readNumber_62 ?_
        refine V_iald G al_1000 (by decide) eX9_readNumber_65 h (fun x3 h => ?_)
        refine V_iadd G eX9_readNumber_66 ?_
        refine V_bipush (n := 48) (v := (nI 48)) G eX9_readNumber_67 rfl ?_
        refine V_isub G eX9_readNumber_69 ?_
        refine V_istore_n (i := 2) (L' := (fun x4 => [some (.ref (wad w 9 0)), none, some (.int x4), some (.int v3)])) G rfl eX9_readNumber_70 (by decide) rfl (fun _ => rfl) h (fun x4 h => ?_)
        refine V_aload_n (i := 0) G eX9_readNumber_71 rfl rfl ?_
        refine V_dup G eX9_readNumber_72 rfl ?_
        refine V_get (v := .int (mI μ 1002 0 0)) G fgX9_22 rfl eX9_readNumber_73 ?_
        refine V_iconst (n := 1) (v := (nI 1)) G eX9_readNumber_76 rfl ?_
        refine V_iadd G eX9_readNumber_77 ?_
        refine V_put G fgX9_22 fp_9_2 eX9_readNumber_78 h (fun μ5 h => ?_)
        refine V_goto G eX9_readNumber_81 ?_
        exact (ih h K)
set_option maxRecDepth 100000 in
set_option maxHeartbeats 4000000 in
theorem Tape_readNumber_run {p : Program} {l : Launch} {e : Env} {R : Room} {s : State} {m : MethodId} {args : Array Value} {below : List Frame} {meth : Method} {c : Code} {w : Wld} (G : Cxt p R s m args meth c w cX9_readNumber 4 "PotBook$Tape" 2 0 0) (hr : meth.sig.returnType = some .int) {a1 : Int32} {μ : Mem} {r : Int32} {μ' : Mem} (h : Tape_readNumber a1 μ = some (r, μ')) : Vj p l e R s m args below meth c w 4 0 0 (MQ below (QI w r μ') args s 0 0 w.2.2.2) 0 [some (.ref (wad w 9 0)), some (.int a1), none, none] [] μ := by
  unfold Tape_readNumber at h
  refine V_aload_n (i := 0) G eX9_readNumber_0 rfl rfl ?_
  obtain ⟨⟨x1, μ2⟩, h1, h⟩ := bdS h
  refine V_callI (As := []) (st := []) G lkX9_25 (Tape_look_ok h1) (by decide) rfl rfl (Nat.le_of_ble_eq_true rfl) eX9_readNumber_1 ?_
  obtain ⟨x3, h1, h⟩ := bdS h
  refine V_callIS (As := [.int x1]) (st := []) G lkX9_29 (B_isDigit_ok (μ := μ2) h1) (by decide) rfl rfl (Nat.le_of_ble_eq_true rfl) eX9_readNumber_4 ?_
  obtain ⟨x4, hj, h⟩ := bdS h
  have J : Vj p l e R s m args below meth c w 4 0 0 (MQ below (QI w r μ') args s 0 0 w.2.2.2) 15 [some (.ref (wad w 9 0)), some (.int a1), none, none] [.int x4] μ2 := by
    clear hj
    refine V_istoreA_n (i := 2) (L' := [some (.ref (wad w 9 0)), some (.int a1), some (.int x4), none]) G rfl eX9_readNumber_15 (by decide) rfl rfl ?_
    refine V_aload_n (i := 0) G eX9_readNumber_16 rfl rfl ?_
    refine V_get (v := .int (mI μ2 1001 0 0)) G fgX9_19 rfl eX9_readNumber_17 ?_
    refine V_aload_n (i := 0) G eX9_readNumber_20 rfl rfl ?_
    refine V_get (v := .int (mI μ2 1002 0 0)) G fgX9_22 rfl eX9_readNumber_21 ?_
    refine V_iload_n (i := 1) G eX9_readNumber_24 rfl rfl ?_
    refine V_iadd G eX9_readNumber_25 ?_
    refine V_jMin G mkX9_33 (by decide) (Nat.le_of_ble_eq_true rfl) eX9_readNumber_26 ?_
    refine V_istore_n (i := 3) (L' := (fun x5 => [some (.ref (wad w 9 0)), some (.int a1), some (.int x4), some (.int x5)])) G rfl eX9_readNumber_29 (by decide) rfl (fun _ => rfl) h (fun x5 h => ?_)
    obtain ⟨⟨x6, μ7⟩, h1, h⟩ := bdS h
    refine V_sub (lS_s (lS_n (lS_s (lS_s lS_0)))) ?_
    refine Tape_readNumber_l1_ok G h1 ?_
    refine V_iload_n (i := 2) G eX9_readNumber_84 rfl rfl ?_
    refine V_iconst (n := -1) (v := (-1)) G eX9_readNumber_85 rfl ?_
    refine V_icmp_eq G eX9_readNumber_86 h (fun h => ?_) (fun h => ?_)
    · refine V_aload_n (i := 0) G eX9_readNumber_115 rfl rfl ?_
      refine V_aload_n (i := 0) G eX9_readNumber_116 rfl rfl ?_
      refine V_get (v := .int (mI μ7 1002 0 0)) G fgX9_22 rfl eX9_readNumber_117 ?_
      refine V_put G fgX9_15 fp_9_3 eX9_readNumber_120 h (fun μ8 h => ?_)
      refine V_iconst (n := -1) (v := (-1)) G eX9_readNumber_123 rfl ?_
      exact V_riM G hr eX9_readNumber_124 h
    · refine V_aload_n (i := 0) G eX9_readNumber_89 rfl rfl ?_
      refine V_get (v := .int (mI μ7 1002 0 0)) G fgX9_22 rfl eX9_readNumber_90 ?_
      refine V_aload_n (i := 0) G eX9_readNumber_93 rfl rfl ?_
      refine V_get (v := .int (mI μ7 1001 0 0)) G fgX9_19 rfl eX9_readNumber_94 ?_
      refine V_icmp_ge G eX9_readNumber_97 h (fun h => ?_) (fun h => ?_)
      · refine V_iload_n (i := 2) G eX9_readNumber_125 rfl rfl ?_
        exact V_riM G hr eX9_readNumber_126 h
      · refine V_aload_n (i := 0) G eX9_readNumber_100 rfl rfl ?_
        refine V_get (v := .ref (wad w 1000 0)) G fgX9_9 rfl eX9_readNumber_101 ?_
        refine V_aload_n (i := 0) G eX9_readNumber_104 rfl rfl ?_
        refine V_get (v := .int (mI μ7 1002 0 0)) G fgX9_22 rfl eX9_readNumber_105 ?_
        refine V_iald G al_1000 (by decide) eX9_readNumber_108 h (fun x9 h => ?_)
        obtain ⟨x10, h1, h⟩ := bdS h
        refine V_callIS (As := [.int x9]) (st := []) G lkX9_29 (B_isDigit_ok (μ := μ7) h1) (by decide) rfl rfl (Nat.le_of_ble_eq_true rfl) eX9_readNumber_109 ?_
        refine V_if_eq G eX9_readNumber_112 h (fun h => ?_) (fun h => ?_)
        · refine V_iload_n (i := 2) G eX9_readNumber_125 rfl rfl ?_
          exact V_riM G hr eX9_readNumber_126 h
        · refine V_aload_n (i := 0) G eX9_readNumber_115 rfl rfl ?_
          refine V_aload_n (i := 0) G eX9_readNumber_116 rfl rfl ?_
          refine V_get (v := .int (mI μ7 1002 0 0)) G fgX9_22 rfl eX9_readNumber_117 ?_
          refine V_put G fgX9_15 fp_9_3 eX9_readNumber_120 h (fun μ11 h => ?_)
          refine V_iconst (n := -1) (v := (-1)) G eX9_readNumber_123 rfl ?_
          exact V_riM G hr eX9_readNumber_124 h
  replace h := hj
  clear hj
  refine V_if_eq G eX9_readNumber_7 h (fun h => ?_) (fun h => ?_)
  · refine V_iconst (n := -1) (v := (-1)) G eX9_readNumber_14 rfl ?_
    cases h; exact J
  · refine V_iconst (n := 0) (v := (nI 0)) G eX9_readNumber_10 rfl ?_
    refine V_goto G eX9_readNumber_11 ?_
    cases h; exact J
theorem Tape_readNumber_ok {l : Launch} {w : Wld} {a1 : Int32} {μ : Mem} {r : Int32} {μ' : Mem} (h : Tape_readNumber a1 μ = some (r, μ')) : CtI l w yX9_readNumber cX9_readNumber 4 .int 2 [.ref (wad w 9 0), .int a1] μ r μ' :=
  Ct_of (own := "PotBook$Tape") [some (.ref (wad w 9 0)), some (.int a1), none, none] (by decide +kernel) rfl rfl (Nat.le_of_ble_eq_true rfl) fun p e s m args below meth c G hr => Tape_readNumber_run G hr h
set_option maxRecDepth 100000 in
set_option maxHeartbeats 4000000 in
theorem Tape_wrongBefore_run {p : Program} {l : Launch} {e : Env} {R : Room} {s : State} {m : MethodId} {args : Array Value} {below : List Frame} {meth : Method} {c : Code} {w : Wld} (G : Cxt p R s m args meth c w cX9_wrongBefore 1 "PotBook$Tape" 1 0 0) (hr : meth.sig.returnType = some .boolean) {μ : Mem} {r : Int32} {μ' : Mem} (h : Tape_wrongBefore μ = some (r, μ')) : Vj p l e R s m args below meth c w 1 0 0 (MQ below (QI w r μ') args s 0 0 w.2.2.2) 0 [some (.ref (wad w 9 0))] [] μ := by
  unfold Tape_wrongBefore at h
  refine V_aload_n (i := 0) G eX9_wrongBefore_0 rfl rfl ?_
  refine V_aload_n (i := 0) G eX9_wrongBefore_1 rfl rfl ?_
  refine V_get (v := .int (mI μ 1002 0 0)) G fgX9_22 rfl eX9_wrongBefore_2 ?_
  refine V_iconst (n := 1) (v := (nI 1)) G eX9_wrongBefore_5 rfl ?_
  refine V_isub G eX9_wrongBefore_6 ?_
  refine V_put G fgX9_15 fp_9_3 eX9_wrongBefore_7 h (fun μ1 h => ?_)
  refine V_iconst (n := 0) (v := (nI 0)) G eX9_wrongBefore_10 rfl ?_
  exact V_rzM G hr eX9_wrongBefore_11 h
theorem Tape_wrongBefore_ok {l : Launch} {w : Wld} {μ : Mem} {r : Int32} {μ' : Mem} (h : Tape_wrongBefore μ = some (r, μ')) : CtI l w yX9_wrongBefore cX9_wrongBefore 1 .boolean 1 [.ref (wad w 9 0)] μ r μ' :=
  Ct_of (own := "PotBook$Tape") [some (.ref (wad w 9 0))] (by decide +kernel) rfl rfl (Nat.le_of_ble_eq_true rfl) fun p e s m args below meth c G hr => Tape_wrongBefore_run G hr h
set_option maxRecDepth 100000 in
set_option maxHeartbeats 4000000 in
theorem Tape_takes_run {p : Program} {l : Launch} {e : Env} {R : Room} {s : State} {m : MethodId} {args : Array Value} {below : List Frame} {meth : Method} {c : Code} {w : Wld} (G : Cxt p R s m args meth c w cX9_takes 2 "PotBook$Tape" 2 0 0) (hr : meth.sig.returnType = some .boolean) {a1 : Int32} {μ : Mem} {r : Int32} {μ' : Mem} (h : Tape_takes a1 μ = some (r, μ')) : Vj p l e R s m args below meth c w 2 0 0 (MQ below (QI w r μ') args s 0 0 w.2.2.2) 0 [some (.ref (wad w 9 0)), some (.int a1)] [] μ := by
  unfold Tape_takes at h
  refine V_aload_n (i := 0) G eX9_takes_0 rfl rfl ?_
  obtain ⟨⟨x1, μ2⟩, h1, h⟩ := bdS h
  refine V_callI (As := []) (st := []) G lkX9_25 (Tape_look_ok h1) (by decide) rfl rfl (Nat.le_of_ble_eq_true rfl) eX9_takes_1 ?_
  refine V_iload_n (i := 1) G eX9_takes_4 rfl rfl ?_
  refine V_icmp_ne G eX9_takes_5 h (fun h => ?_) (fun h => ?_)
  · refine V_iconst (n := 0) (v := (nI 0)) G eX9_takes_19 rfl ?_
    exact V_rzM G hr eX9_takes_20 h
  · refine V_aload_n (i := 0) G eX9_takes_8 rfl rfl ?_
    refine V_get (v := .int (mI μ2 1002 0 0)) G fgX9_22 rfl eX9_takes_9 ?_
    refine V_aload_n (i := 0) G eX9_takes_12 rfl rfl ?_
    refine V_get (v := .int (mI μ2 1001 0 0)) G fgX9_19 rfl eX9_takes_13 ?_
    refine V_icmp_lt G eX9_takes_16 h (fun h => ?_) (fun h => ?_)
    · refine V_aload_n (i := 0) G eX9_takes_21 rfl rfl ?_
      refine V_dup G eX9_takes_22 rfl ?_
      refine V_get (v := .int (mI μ2 1002 0 0)) G fgX9_22 rfl eX9_takes_23 ?_
      refine V_iconst (n := 1) (v := (nI 1)) G eX9_takes_26 rfl ?_
      refine V_iadd G eX9_takes_27 ?_
      refine V_put G fgX9_22 fp_9_2 eX9_takes_28 h (fun μ3 h => ?_)
      refine V_iconst (n := 1) (v := (nI 1)) G eX9_takes_31 rfl ?_
      exact V_rzM G hr eX9_takes_32 h
    · refine V_iconst (n := 0) (v := (nI 0)) G eX9_takes_19 rfl ?_
      exact V_rzM G hr eX9_takes_20 h
theorem Tape_takes_ok {l : Launch} {w : Wld} {a1 : Int32} {μ : Mem} {r : Int32} {μ' : Mem} (h : Tape_takes a1 μ = some (r, μ')) : CtI l w yX9_takes cX9_takes 2 .boolean 2 [.ref (wad w 9 0), .int a1] μ r μ' :=
  Ct_of (own := "PotBook$Tape") [some (.ref (wad w 9 0)), some (.int a1)] (by decide +kernel) rfl rfl (Nat.le_of_ble_eq_true rfl) fun p e s m args below meth c G hr => Tape_takes_run G hr h
set_option maxRecDepth 100000 in
set_option maxHeartbeats 4000000 in
theorem Pages_readsParts_run {p : Program} {l : Launch} {e : Env} {R : Room} {s : State} {m : MethodId} {args : Array Value} {below : List Frame} {meth : Method} {c : Code} {w : Wld} (G : Cxt p R s m args meth c w cX6_readsParts 4 "PotBook$Pages" 3 0 0) (hr : meth.sig.returnType = some .boolean) {a1 : Int32} {μ : Mem} {r : Int32} {μ' : Mem} (h : Pages_readsParts a1 μ = some (r, μ')) : Vj p l e R s m args below meth c w 4 0 0 (MQ below (QI w r μ') args s 0 0 w.2.2.2) 0 [some (.ref (wad w 6 0)), some (.int a1), none, none] [] μ := by
  unfold Pages_readsParts at h
  refine V_aload_n (i := 0) G eX6_readsParts_0 rfl rfl ?_
  refine V_get (v := .ref (wad w 9 0)) G fgX6_44 rfl eX6_readsParts_1 ?_
  refine V_iconst (n := 2) (v := (nI 2)) G eX6_readsParts_4 rfl ?_
  obtain ⟨⟨x1, μ2⟩, h1, h⟩ := bdS h
  refine V_callI (As := [.int (nI 2)]) (st := []) G lkX6_103 (Tape_readNumber_ok h1) (by decide) rfl rfl (Nat.le_of_ble_eq_true rfl) eX6_readsParts_5 ?_
  refine V_istoreA_n (i := 2) (L' := [some (.ref (wad w 6 0)), some (.int a1), some (.int x1), none]) G rfl eX6_readsParts_8 (by decide) rfl rfl ?_
  refine V_iload_n (i := 2) G eX6_readsParts_9 rfl rfl ?_
  refine V_iconst (n := -1) (v := (-1)) G eX6_readsParts_10 rfl ?_
  refine V_icmp_ne G eX6_readsParts_11 h (fun h => ?_) (fun h => ?_)
  · refine V_iload_n (i := 2) G eX6_readsParts_16 rfl rfl ?_
    refine V_if_ne G eX6_readsParts_17 h (fun h => ?_) (fun h => ?_)
    · refine V_iload_n (i := 2) G eX6_readsParts_28 rfl rfl ?_
      refine V_istoreA_n (i := 3) (L' := [some (.ref (wad w 6 0)), some (.int a1), some (.int x1), some (.int x1)]) G rfl eX6_readsParts_29 (by decide) rfl rfl ?_
      refine V_aload_n (i := 0) G eX6_readsParts_30 rfl rfl ?_
      refine V_get (v := .ref (wad w 9 0)) G fgX6_44 rfl eX6_readsParts_31 ?_
      refine V_bipush (n := 45) (v := (nI 45)) G eX6_readsParts_34 rfl ?_
      obtain ⟨⟨x3, μ4⟩, h1, h⟩ := bdS h
      refine V_callI (As := [.int (nI 45)]) (st := []) G lkX6_68 (Tape_takes_ok h1) (by decide) rfl rfl (Nat.le_of_ble_eq_true rfl) eX6_readsParts_36 ?_
      obtain ⟨k11, hkk11, h⟩ := kE h
      have Jk11 : ∀ (x9 : Int32) (μ10 : Mem), k11 x9 μ10 = some (r, μ') → Vj p l e R s m args below meth c w 4 0 0 (MQ below (QI w r μ') args s 0 0 w.2.2.2) 71 [some (.ref (wad w 6 0)), some (.int a1), some (.int x1), some (.int x9)] [] μ10 := by
        clear h
        intro x9 μ10 h
        rw [hkk11] at h
        clear hkk11
        refine V_aload_n (i := 0) G eX6_readsParts_71 rfl rfl ?_
        refine V_get (v := .ref (wad w 10704 0)) G fgX6_20 rfl eX6_readsParts_72 ?_
        refine V_aload_n (i := 0) G eX6_readsParts_75 rfl rfl ?_
        refine V_get (v := .int (mI μ10 712 0 0)) G fgX6_52 rfl eX6_readsParts_76 ?_
        refine V_aaldI (id := 704) G al_10704 eX6_readsParts_79 h (fun r12 hr12 h => ?_)
        refine V_iload_n (i := 1) G eX6_readsParts_80 rfl rfl ?_
        refine V_iload_n (i := 2) G eX6_readsParts_81 rfl rfl ?_
        refine V_iast G al_704 hr12 eX6_readsParts_82 h (fun μ13 h => ?_)
        refine V_aload_n (i := 0) G eX6_readsParts_83 rfl rfl ?_
        refine V_get (v := .ref (wad w 10705 0)) G fgX6_23 rfl eX6_readsParts_84 ?_
        refine V_aload_n (i := 0) G eX6_readsParts_87 rfl rfl ?_
        refine V_get (v := .int (mI μ13 712 0 0)) G fgX6_52 rfl eX6_readsParts_88 ?_
        refine V_aaldI (id := 705) G al_10705 eX6_readsParts_91 h (fun r14 hr14 h => ?_)
        refine V_iload_n (i := 1) G eX6_readsParts_92 rfl rfl ?_
        refine V_iload_n (i := 3) G eX6_readsParts_93 rfl rfl ?_
        refine V_iast G al_705 hr14 eX6_readsParts_94 h (fun μ15 h => ?_)
        refine V_iconst (n := 1) (v := (nI 1)) G eX6_readsParts_95 rfl ?_
        exact V_rzM G hr eX6_readsParts_96 h
      refine V_if_eq G eX6_readsParts_39 h (fun h => ?_) (fun h => ?_)
      · exact (Jk11 _ _ h)
      · refine V_aload_n (i := 0) G eX6_readsParts_42 rfl rfl ?_
        refine V_get (v := .ref (wad w 9 0)) G fgX6_44 rfl eX6_readsParts_43 ?_
        refine V_iconst (n := 2) (v := (nI 2)) G eX6_readsParts_46 rfl ?_
        obtain ⟨⟨x5, μ6⟩, h1, h⟩ := bdS h
        refine V_callI (As := [.int (nI 2)]) (st := []) G lkX6_103 (Tape_readNumber_ok h1) (by decide) rfl rfl (Nat.le_of_ble_eq_true rfl) eX6_readsParts_47 ?_
        refine V_istoreA_n (i := 3) (L' := [some (.ref (wad w 6 0)), some (.int a1), some (.int x1), some (.int x5)]) G rfl eX6_readsParts_50 (by decide) rfl rfl ?_
        refine V_iload_n (i := 3) G eX6_readsParts_51 rfl rfl ?_
        refine V_iconst (n := -1) (v := (-1)) G eX6_readsParts_52 rfl ?_
        refine V_icmp_ne G eX6_readsParts_53 h (fun h => ?_) (fun h => ?_)
        · refine V_iload_n (i := 3) G eX6_readsParts_58 rfl rfl ?_
          refine V_iload_n (i := 2) G eX6_readsParts_59 rfl rfl ?_
          refine V_icmp_ge G eX6_readsParts_60 h (fun h => ?_) (fun h => ?_)
          · exact (Jk11 _ _ h)
          · refine V_aload_n (i := 0) G eX6_readsParts_63 rfl rfl ?_
            refine V_get (v := .ref (wad w 9 0)) G fgX6_44 rfl eX6_readsParts_64 ?_
            obtain ⟨⟨x7, μ8⟩, h1, h⟩ := bdS h
            refine V_callI (As := []) (st := []) G lkX6_107 (Tape_wrongBefore_ok h1) (by decide) rfl rfl (Nat.le_of_ble_eq_true rfl) eX6_readsParts_67 ?_
            exact V_rzM G hr eX6_readsParts_70 h
        · refine V_iconst (n := 0) (v := (nI 0)) G eX6_readsParts_56 rfl ?_
          exact V_rzM G hr eX6_readsParts_57 h
    · refine V_aload_n (i := 0) G eX6_readsParts_20 rfl rfl ?_
      refine V_get (v := .ref (wad w 9 0)) G fgX6_44 rfl eX6_readsParts_21 ?_
      obtain ⟨⟨x16, μ17⟩, h1, h⟩ := bdS h
      refine V_callI (As := []) (st := []) G lkX6_107 (Tape_wrongBefore_ok h1) (by decide) rfl rfl (Nat.le_of_ble_eq_true rfl) eX6_readsParts_24 ?_
      exact V_rzM G hr eX6_readsParts_27 h
  · refine V_iconst (n := 0) (v := (nI 0)) G eX6_readsParts_14 rfl ?_
    exact V_rzM G hr eX6_readsParts_15 h
theorem Pages_readsParts_ok {l : Launch} {w : Wld} {a1 : Int32} {μ : Mem} {r : Int32} {μ' : Mem} (h : Pages_readsParts a1 μ = some (r, μ')) : CtI l w yX6_readsParts cX6_readsParts 4 .boolean 3 [.ref (wad w 6 0), .int a1] μ r μ' :=
  Ct_of (own := "PotBook$Pages") [some (.ref (wad w 6 0)), some (.int a1), none, none] (by decide +kernel) rfl rfl (Nat.le_of_ble_eq_true rfl) fun p e s m args below meth c G hr => Pages_readsParts_run G hr h
set_option maxRecDepth 100000 in
set_option maxHeartbeats 4000000 in
theorem Pages_readsThing_run {p : Program} {l : Launch} {e : Env} {R : Room} {s : State} {m : MethodId} {args : Array Value} {below : List Frame} {meth : Method} {c : Code} {w : Wld} (G : Cxt p R s m args meth c w cX6_readsThing 3 "PotBook$Pages" 4 0 0) (hr : meth.sig.returnType = some .boolean) {μ : Mem} {r : Int32} {μ' : Mem} (h : Pages_readsThing μ = some (r, μ')) : Vj p l e R s m args below meth c w 3 0 0 (MQ below (QI w r μ') args s 0 0 w.2.2.2) 0 [some (.ref (wad w 6 0)), none, none] [] μ := by
  unfold Pages_readsThing at h
  refine V_aload_n (i := 0) G eX6_readsThing_0 rfl rfl ?_
  refine V_get (v := .ref (wad w 9 0)) G fgX6_44 rfl eX6_readsThing_1 ?_
  obtain ⟨⟨x1, μ2⟩, h1, h⟩ := bdS h
  refine V_callI (As := []) (st := []) G lkX6_75 (Tape_look_ok h1) (by decide) rfl rfl (Nat.le_of_ble_eq_true rfl) eX6_readsThing_4 ?_
  refine V_bipush (n := 97) (v := (nI 97)) G eX6_readsThing_7 rfl ?_
  refine V_isub G eX6_readsThing_9 ?_
  refine V_istore_n (i := 1) (L' := (fun x3 => [some (.ref (wad w 6 0)), some (.int x3), none])) G rfl eX6_readsThing_10 (by decide) rfl (fun _ => rfl) h (fun x3 h => ?_)
  refine V_aload_n (i := 0) G eX6_readsThing_11 rfl rfl ?_
  refine V_get (v := .ref (wad w 7 0)) G fgX6_48 rfl eX6_readsThing_12 ?_
  refine V_iload_n (i := 1) G eX6_readsThing_15 rfl rfl ?_
  obtain ⟨x4, h1, h⟩ := bdS h
  refine V_callI (As := [.int x3]) (st := []) G lkX6_85 (Pantry_has_ok h1) (by decide) rfl rfl (Nat.le_of_ble_eq_true rfl) eX6_readsThing_16 ?_
  refine V_if_eq G eX6_readsThing_19 h (fun h => ?_) (fun h => ?_)
  · refine V_aload_n (i := 0) G eX6_readsThing_38 rfl rfl ?_
    refine V_get (v := .ref (wad w 9 0)) G fgX6_44 rfl eX6_readsThing_39 ?_
    obtain ⟨⟨x5, μ6⟩, h1, h⟩ := bdS h
    refine V_callI (As := []) (st := []) G lkX6_79 (Tape_wrongHere_ok h1) (by decide) rfl rfl (Nat.le_of_ble_eq_true rfl) eX6_readsThing_42 ?_
    exact V_rzM G hr eX6_readsThing_45 h
  · refine V_aload_n (i := 0) G eX6_readsThing_22 rfl rfl ?_
    refine V_get (v := .ref (wad w 706 0)) G fgX6_26 rfl eX6_readsThing_23 ?_
    refine V_aload_n (i := 0) G eX6_readsThing_26 rfl rfl ?_
    refine V_get (v := .int (mI μ2 712 0 0)) G fgX6_52 rfl eX6_readsThing_27 ?_
    refine V_iald G al_706 (by decide) eX6_readsThing_30 h (fun x7 h => ?_)
    refine V_iload_n (i := 1) G eX6_readsThing_31 rfl rfl ?_
    obtain ⟨x8, h1, h⟩ := bdS h
    refine V_callIS (As := [.int x7, .int x3]) (st := []) G lkX6_90 (B_holdsBit_ok (μ := μ2) h1) (by decide) rfl rfl (Nat.le_of_ble_eq_true rfl) eX6_readsThing_32 ?_
    refine V_if_eq G eX6_readsThing_35 h (fun h => ?_) (fun h => ?_)
    · refine V_aload_n (i := 0) G eX6_readsThing_46 rfl rfl ?_
      refine V_get (v := .ref (wad w 9 0)) G fgX6_44 rfl eX6_readsThing_47 ?_
      obtain ⟨μ9, h1, h⟩ := bdS h
      refine V_callV (As := []) (st := []) G lkX6_94 (Tape_step_ok h1) (by decide) rfl rfl (Nat.le_of_ble_eq_true rfl) eX6_readsThing_50 ?_
      refine V_aload_n (i := 0) G eX6_readsThing_53 rfl rfl ?_
      refine V_get (v := .ref (wad w 702 0)) G fgX6_9 rfl eX6_readsThing_54 ?_
      refine V_aload_n (i := 0) G eX6_readsThing_57 rfl rfl ?_
      refine V_get (v := .int (mI μ9 712 0 0)) G fgX6_52 rfl eX6_readsThing_58 ?_
      refine V_iald G al_702 (by decide) eX6_readsThing_61 h (fun x10 h => ?_)
      refine V_istoreA_n (i := 2) (L' := [some (.ref (wad w 6 0)), some (.int x3), some (.int x10)]) G rfl eX6_readsThing_62 (by decide) rfl rfl ?_
      refine V_aload_n (i := 0) G eX6_readsThing_63 rfl rfl ?_
      refine V_get (v := .ref (wad w 10703 0)) G fgX6_17 rfl eX6_readsThing_64 ?_
      refine V_aload_n (i := 0) G eX6_readsThing_67 rfl rfl ?_
      refine V_get (v := .int (mI μ9 712 0 0)) G fgX6_52 rfl eX6_readsThing_68 ?_
      refine V_aaldI (id := 703) G al_10703 eX6_readsThing_71 h (fun r11 hr11 h => ?_)
      refine V_iload_n (i := 2) G eX6_readsThing_72 rfl rfl ?_
      refine V_iload_n (i := 1) G eX6_readsThing_73 rfl rfl ?_
      refine V_iast G al_703 hr11 eX6_readsThing_74 h (fun μ12 h => ?_)
      refine V_aload_n (i := 0) G eX6_readsThing_75 rfl rfl ?_
      refine V_get (v := .ref (wad w 10704 0)) G fgX6_20 rfl eX6_readsThing_76 ?_
      refine V_aload_n (i := 0) G eX6_readsThing_79 rfl rfl ?_
      refine V_get (v := .int (mI μ12 712 0 0)) G fgX6_52 rfl eX6_readsThing_80 ?_
      refine V_aaldI (id := 704) G al_10704 eX6_readsThing_83 h (fun r13 hr13 h => ?_)
      refine V_iload_n (i := 2) G eX6_readsThing_84 rfl rfl ?_
      refine V_iconst (n := 0) (v := (nI 0)) G eX6_readsThing_85 rfl ?_
      refine V_iast G al_704 hr13 eX6_readsThing_86 h (fun μ14 h => ?_)
      refine V_aload_n (i := 0) G eX6_readsThing_87 rfl rfl ?_
      refine V_get (v := .ref (wad w 10705 0)) G fgX6_23 rfl eX6_readsThing_88 ?_
      refine V_aload_n (i := 0) G eX6_readsThing_91 rfl rfl ?_
      refine V_get (v := .int (mI μ14 712 0 0)) G fgX6_52 rfl eX6_readsThing_92 ?_
      refine V_aaldI (id := 705) G al_10705 eX6_readsThing_95 h (fun r15 hr15 h => ?_)
      refine V_iload_n (i := 2) G eX6_readsThing_96 rfl rfl ?_
      refine V_iconst (n := 0) (v := (nI 0)) G eX6_readsThing_97 rfl ?_
      refine V_iast G al_705 hr15 eX6_readsThing_98 h (fun μ16 h => ?_)
      refine V_aload_n (i := 0) G eX6_readsThing_99 rfl rfl ?_
      refine V_get (v := .ref (wad w 702 0)) G fgX6_9 rfl eX6_readsThing_100 ?_
      refine V_aload_n (i := 0) G eX6_readsThing_103 rfl rfl ?_
      refine V_get (v := .int (mI μ16 712 0 0)) G fgX6_52 rfl eX6_readsThing_104 ?_
      refine V_iload_n (i := 2) G eX6_readsThing_107 rfl rfl ?_
      refine V_iconst (n := 1) (v := (nI 1)) G eX6_readsThing_108 rfl ?_
      refine V_iadd G eX6_readsThing_109 ?_
      refine V_iast G al_702 (by decide) eX6_readsThing_110 h (fun μ17 h => ?_)
      refine V_aload_n (i := 0) G eX6_readsThing_111 rfl rfl ?_
      refine V_get (v := .ref (wad w 706 0)) G fgX6_26 rfl eX6_readsThing_112 ?_
      refine V_aload_n (i := 0) G eX6_readsThing_115 rfl rfl ?_
      refine V_get (v := .int (mI μ17 712 0 0)) G fgX6_52 rfl eX6_readsThing_116 ?_
      refine V_dup2_11 G eX6_readsThing_119 rfl rfl ?_
      refine V_iald G al_706 (by decide) eX6_readsThing_120 h (fun x18 h => ?_)
      refine V_iconst (n := 1) (v := (nI 1)) G eX6_readsThing_121 rfl ?_
      refine V_iload_n (i := 1) G eX6_readsThing_122 rfl rfl ?_
      refine V_ishl G eX6_readsThing_123 ?_
      refine V_ior G eX6_readsThing_124 ?_
      refine V_iast G al_706 (by decide) eX6_readsThing_125 h (fun μ19 h => ?_)
      refine V_aload_n (i := 0) G eX6_readsThing_126 rfl rfl ?_
      refine V_get (v := .ref (wad w 9 0)) G fgX6_44 rfl eX6_readsThing_127 ?_
      obtain ⟨⟨x20, μ21⟩, h1, h⟩ := bdS h
      refine V_callI (As := []) (st := []) G lkX6_75 (Tape_look_ok h1) (by decide) rfl rfl (Nat.le_of_ble_eq_true rfl) eX6_readsThing_130 ?_
      obtain ⟨x22, h1, h⟩ := bdS h
      refine V_callIS (As := [.int x20]) (st := []) G lkX6_97 (B_isDigit_ok (μ := μ21) h1) (by decide) rfl rfl (Nat.le_of_ble_eq_true rfl) eX6_readsThing_133 ?_
      refine V_if_eq G eX6_readsThing_136 h (fun h => ?_) (fun h => ?_)
      · refine V_aload_n (i := 0) G eX6_readsThing_145 rfl rfl ?_
        refine V_get (v := .ref (wad w 707 0)) G fgX6_29 rfl eX6_readsThing_146 ?_
        refine V_aload_n (i := 0) G eX6_readsThing_149 rfl rfl ?_
        refine V_get (v := .int (mI μ21 712 0 0)) G fgX6_52 rfl eX6_readsThing_150 ?_
        refine V_dup2_11 G eX6_readsThing_153 rfl rfl ?_
        refine V_iald G al_707 (by decide) eX6_readsThing_154 h (fun x23 h => ?_)
        refine V_iconst (n := 1) (v := (nI 1)) G eX6_readsThing_155 rfl ?_
        refine V_iload_n (i := 1) G eX6_readsThing_156 rfl rfl ?_
        refine V_ishl G eX6_readsThing_157 ?_
        refine V_ior G eX6_readsThing_158 ?_
        refine V_iast G al_707 (by decide) eX6_readsThing_159 h (fun μ24 h => ?_)
        refine V_iconst (n := 1) (v := (nI 1)) G eX6_readsThing_160 rfl ?_
        exact V_rzM G hr eX6_readsThing_161 h
      · refine V_aload_n (i := 0) G eX6_readsThing_139 rfl rfl ?_
        refine V_iload_n (i := 2) G eX6_readsThing_140 rfl rfl ?_
        obtain ⟨⟨x25, μ26⟩, h1, h⟩ := bdS h
        refine V_callI (As := [.int x10]) (st := []) G lkX6_100 (Pages_readsParts_ok h1) (by decide) rfl rfl (Nat.le_of_ble_eq_true rfl) eX6_readsThing_141 ?_
        exact V_rzM G hr eX6_readsThing_144 h
    · refine V_aload_n (i := 0) G eX6_readsThing_38 rfl rfl ?_
      refine V_get (v := .ref (wad w 9 0)) G fgX6_44 rfl eX6_readsThing_39 ?_
      obtain ⟨⟨x27, μ28⟩, h1, h⟩ := bdS h
      refine V_callI (As := []) (st := []) G lkX6_79 (Tape_wrongHere_ok h1) (by decide) rfl rfl (Nat.le_of_ble_eq_true rfl) eX6_readsThing_42 ?_
      exact V_rzM G hr eX6_readsThing_45 h
theorem Pages_readsThing_ok {l : Launch} {w : Wld} {μ : Mem} {r : Int32} {μ' : Mem} (h : Pages_readsThing μ = some (r, μ')) : CtI l w yX6_readsThing cX6_readsThing 3 .boolean 4 [.ref (wad w 6 0)] μ r μ' :=
  Ct_of (own := "PotBook$Pages") [some (.ref (wad w 6 0)), none, none] (by decide +kernel) rfl rfl (Nat.le_of_ble_eq_true rfl) fun p e s m args below meth c G hr => Pages_readsThing_run G hr h
set_option maxRecDepth 100000 in
set_option maxHeartbeats 4000000 in
theorem Pages_readsThings_l1_ok {p : Program} {l : Launch} {e : Env} {R : Room} {s : State} {m : MethodId} {args : Array Value} {below : List Frame} {meth : Method} {c : Code} {w : Wld} (G : Cxt p R s m args meth c w cX6_readsThings 2 "PotBook$Pages" 5 0 0) (hr : meth.sig.returnType = some .boolean) {r : Int32} {μ' : Mem} : ∀ {n : Nat} {v1 : Int32} {μ : Mem}, Pages_readsThings_l1 n v1 μ = some (r, μ') → Vj p l e R s m args below meth c w 2 0 0 (MQ below (QI w r μ') args s 0 0 w.2.2.2) 2 [some (.ref (wad w 6 0)), some (.int v1)] [] μ := by
  intro n
  induction n with
  | zero => intro v1 μ h; exact noS h
  | succ n ih =>
    intro v1 μ h
    replace h : Pages_readsThings_l1b (Pages_readsThings_l1 n) v1 μ = some (r, μ') := h
    unfold Pages_readsThings_l1b at h
    refine V_iload_n (i := 1) G eX6_readsThings_2 rfl rfl ?_
    refine V_bipush (n := 8) (v := (nI 8)) G eX6_readsThings_3 rfl ?_
    refine V_icmp_ge G eX6_readsThings_5 h (fun h => ?_) (fun h => ?_)
    · refine V_aload_n (i := 0) G eX6_readsThings_37 rfl rfl ?_
      refine V_get (v := .ref (wad w 9 0)) G fgX6_44 rfl eX6_readsThings_38 ?_
      obtain ⟨⟨x1, μ2⟩, h1, h⟩ := bdS h
      refine V_callI (As := []) (st := []) G lkX6_75 (Tape_look_ok h1) (by decide) rfl rfl (Nat.le_of_ble_eq_true rfl) eX6_readsThings_41 ?_
      refine V_pop G eX6_readsThings_44 rfl ?_
      refine V_aload_n (i := 0) G eX6_readsThings_45 rfl rfl ?_
      refine V_get (v := .ref (wad w 9 0)) G fgX6_44 rfl eX6_readsThings_46 ?_
      obtain ⟨⟨x3, μ4⟩, h1, h⟩ := bdS h
      refine V_callI (As := []) (st := []) G lkX6_79 (Tape_wrongHere_ok h1) (by decide) rfl rfl (Nat.le_of_ble_eq_true rfl) eX6_readsThings_49 ?_
      exact V_rzM G hr eX6_readsThings_52 h
    · refine V_aload_n (i := 0) G eX6_readsThings_8 rfl rfl ?_
      obtain ⟨⟨x5, μ6⟩, h1, h⟩ := bdS h
      refine V_callI (As := []) (st := []) G lkX6_82 (Pages_readsThing_ok h1) (by decide) rfl rfl (Nat.le_of_ble_eq_true rfl) eX6_readsThings_9 ?_
      refine V_if_ne G eX6_readsThings_12 h (fun h => ?_) (fun h => ?_)
      · refine V_aload_n (i := 0) G eX6_readsThings_17 rfl rfl ?_
        refine V_get (v := .ref (wad w 9 0)) G fgX6_44 rfl eX6_readsThings_18 ?_
        refine V_bipush (n := 44) (v := (nI 44)) G eX6_readsThings_21 rfl ?_
        obtain ⟨⟨x7, μ8⟩, h1, h⟩ := bdS h
        refine V_callI (As := [.int (nI 44)]) (st := []) G lkX6_68 (Tape_takes_ok h1) (by decide) rfl rfl (Nat.le_of_ble_eq_true rfl) eX6_readsThings_23 ?_
        refine V_if_ne G eX6_readsThings_26 h (fun h => ?_) (fun h => ?_)
        · refine V_iinc (z := (nI 1)) (L' := (fun x9 => [some (.ref (wad w 6 0)), some (.int x9)])) G eX6_readsThings_31 rfl rfl (by decide) rfl (fun _ => rfl) h (fun x9 h => ?_)
          refine V_goto G eX6_readsThings_34 ?_
          exact (ih h)
        · refine V_iconst (n := 1) (v := (nI 1)) G eX6_readsThings_29 rfl ?_
          exact V_rzM G hr eX6_readsThings_30 h
      · refine V_iconst (n := 0) (v := (nI 0)) G eX6_readsThings_15 rfl ?_
        exact V_rzM G hr eX6_readsThings_16 h
set_option maxRecDepth 100000 in
set_option maxHeartbeats 4000000 in
theorem Pages_readsThings_run {p : Program} {l : Launch} {e : Env} {R : Room} {s : State} {m : MethodId} {args : Array Value} {below : List Frame} {meth : Method} {c : Code} {w : Wld} (G : Cxt p R s m args meth c w cX6_readsThings 2 "PotBook$Pages" 5 0 0) (hr : meth.sig.returnType = some .boolean) {μ : Mem} {r : Int32} {μ' : Mem} (h : Pages_readsThings μ = some (r, μ')) : Vj p l e R s m args below meth c w 2 0 0 (MQ below (QI w r μ') args s 0 0 w.2.2.2) 0 [some (.ref (wad w 6 0)), none] [] μ := by
  unfold Pages_readsThings at h
  refine V_iconst (n := 0) (v := (nI 0)) G eX6_readsThings_0 rfl ?_
  refine V_istoreA_n (i := 1) (L' := [some (.ref (wad w 6 0)), some (.int (nI 0))]) G rfl eX6_readsThings_1 (by decide) rfl rfl ?_
  exact Pages_readsThings_l1_ok G hr h
theorem Pages_readsThings_ok {l : Launch} {w : Wld} {μ : Mem} {r : Int32} {μ' : Mem} (h : Pages_readsThings μ = some (r, μ')) : CtI l w yX6_readsThings cX6_readsThings 2 .boolean 5 [.ref (wad w 6 0)] μ r μ' :=
  Ct_of (own := "PotBook$Pages") [some (.ref (wad w 6 0)), none] (by decide +kernel) rfl rfl (Nat.le_of_ble_eq_true rfl) fun p e s m args below meth c G hr => Pages_readsThings_run G hr h
set_option maxRecDepth 100000 in
set_option maxHeartbeats 4000000 in
theorem Pages_actOf_run {p : Program} {l : Launch} {e : Env} {R : Room} {s : State} {m : MethodId} {args : Array Value} {below : List Frame} {meth : Method} {c : Code} {w : Wld} (G : Cxt p R s m args meth c w cX6_actOf 1 "PotBook$Pages" 1 0 0) (hr : meth.sig.returnType = some .int) {a1 : Int32} {μ : Mem} {r : Int32} (h : Pages_actOf a1 = some r) : Vj p l e R s m args below meth c w 1 0 0 (MQ below (QI w r μ) args s 0 0 w.2.2.2) 0 [some (.int a1)] [] μ := by
  unfold Pages_actOf at h
  refine V_iload_n (i := 0) G eX6_actOf_0 rfl rfl ?_
  by_cases c0 : a1 = (nI 66)
  · rw [if_pos c0] at h
    refine V_lsw (off := 43) (tgt := 44) G eX6_actOf_1 (by decide) (by rw [c0]; decide) rfl ?_
    refine V_iconst (n := 0) (v := (nI 0)) G eX6_actOf_44 rfl ?_
    exact V_ri G hr eX6_actOf_45 h
  · rw [if_neg c0] at h
    by_cases c1 : a1 = (nI 82)
    · rw [if_pos c1] at h
      refine V_lsw (off := 45) (tgt := 46) G eX6_actOf_1 (by decide) (by rw [c1]; decide) rfl ?_
      refine V_iconst (n := 1) (v := (nI 1)) G eX6_actOf_46 rfl ?_
      exact V_ri G hr eX6_actOf_47 h
    · rw [if_neg c1] at h
      by_cases c2 : a1 = (nI 83)
      · rw [if_pos c2] at h
        refine V_lsw (off := 49) (tgt := 50) G eX6_actOf_1 (by decide) (by rw [c2]; decide) rfl ?_
        refine V_iconst (n := 3) (v := (nI 3)) G eX6_actOf_50 rfl ?_
        exact V_ri G hr eX6_actOf_51 h
      · rw [if_neg c2] at h
        by_cases c3 : a1 = (nI 84)
        · rw [if_pos c3] at h
          refine V_lsw (off := 47) (tgt := 48) G eX6_actOf_1 (by decide) (by rw [c3]; decide) rfl ?_
          refine V_iconst (n := 2) (v := (nI 2)) G eX6_actOf_48 rfl ?_
          exact V_ri G hr eX6_actOf_49 h
        · rw [if_neg c3] at h
          refine V_lsw (off := 51) (tgt := 52) G eX6_actOf_1 (by decide) ?_ rfl ?_
          · have n0 : ¬ (66 : Int) = (a1 : Int32).toInt := fun q => toInt_ne (n := 66) c0 q.symm
            have n1 : ¬ (82 : Int) = (a1 : Int32).toInt := fun q => toInt_ne (n := 82) c1 q.symm
            have n2 : ¬ (83 : Int) = (a1 : Int32).toInt := fun q => toInt_ne (n := 83) c2 q.symm
            have n3 : ¬ (84 : Int) = (a1 : Int32).toInt := fun q => toInt_ne (n := 84) c3 q.symm
            simp [Op.lookupswitch.offset, n0, n1, n2, n3]
          · refine V_iconst (n := -1) (v := (-1)) G eX6_actOf_52 rfl ?_
            exact V_ri G hr eX6_actOf_53 h
theorem Pages_actOf_ok {l : Launch} {w : Wld} {a1 : Int32} {μ : Mem} {r : Int32} (h : Pages_actOf a1 = some r) : CtI l w yX6_actOf cX6_actOf 1 .int 1 [.int a1] μ r μ :=
  Ct_of (own := "PotBook$Pages") [some (.int a1)] (by decide +kernel) rfl rfl (Nat.le_of_ble_eq_true rfl) fun p e s m args below meth c G hr => Pages_actOf_run G hr h
set_option maxRecDepth 100000 in
set_option maxHeartbeats 4000000 in
theorem B_isWithin_run {p : Program} {l : Launch} {e : Env} {R : Room} {s : State} {m : MethodId} {args : Array Value} {below : List Frame} {meth : Method} {c : Code} {w : Wld} (G : Cxt p R s m args meth c w cX11_isWithin 3 "PotBook" 1 0 0) (hr : meth.sig.returnType = some .boolean) {a1 : Int32} {a2 : Int32} {a3 : Int32} {μ : Mem} {r : Int32} (h : B_isWithin a1 a2 a3 = some r) : Vj p l e R s m args below meth c w 3 0 0 (MQ below (QI w r μ) args s 0 0 w.2.2.2) 0 [some (.int a1), some (.int a2), some (.int a3)] [] μ := by
  unfold B_isWithin at h
  refine V_iload_n (i := 0) G eX11_isWithin_0 rfl rfl ?_
  refine V_iload_n (i := 1) G eX11_isWithin_1 rfl rfl ?_
  refine V_icmp_lt G eX11_isWithin_2 h (fun h => ?_) (fun h => ?_)
  · refine V_iconst (n := 0) (v := (nI 0)) G eX11_isWithin_14 rfl ?_
    exact V_rz G hr eX11_isWithin_15 h
  · refine V_iload_n (i := 0) G eX11_isWithin_5 rfl rfl ?_
    refine V_iload_n (i := 2) G eX11_isWithin_6 rfl rfl ?_
    refine V_icmp_gt G eX11_isWithin_7 h (fun h => ?_) (fun h => ?_)
    · refine V_iconst (n := 0) (v := (nI 0)) G eX11_isWithin_14 rfl ?_
      exact V_rz G hr eX11_isWithin_15 h
    · refine V_iconst (n := 1) (v := (nI 1)) G eX11_isWithin_10 rfl ?_
      refine V_goto G eX11_isWithin_11 ?_
      exact V_rz G hr eX11_isWithin_15 h
theorem B_isWithin_ok {l : Launch} {w : Wld} {a1 : Int32} {a2 : Int32} {a3 : Int32} {μ : Mem} {r : Int32} (h : B_isWithin a1 a2 a3 = some r) : CtI l w yX11_isWithin cX11_isWithin 3 .boolean 1 [.int a1, .int a2, .int a3] μ r μ :=
  Ct_of (own := "PotBook") [some (.int a1), some (.int a2), some (.int a3)] (by decide +kernel) rfl rfl (Nat.le_of_ble_eq_true rfl) fun p e s m args below meth c G hr => B_isWithin_run G hr h
set_option maxRecDepth 100000 in
set_option maxHeartbeats 4000000 in
theorem Pages_putAct_l1_ok {p : Program} {l : Launch} {e : Env} {R : Room} {s : State} {m : MethodId} {args : Array Value} {below : List Frame} {meth : Method} {c : Code} {w : Wld} {Q : State → Prop} (G : Cxt p R s m args meth c w cX6_putAct 4 "PotBook$Pages" 1 0 0) {v1 : Int32} {v2 : Int32} {μo : Mem} : ∀ {n : Nat} {v3 : Int32} {μ : Mem}, Pages_putAct_l1 v1 v2 n v3 μ = some μo → Vj p l e R s m args below meth c w 4 0 0 Q 75 [none, none, none, none] [] μo → Vj p l e R s m args below meth c w 4 0 0 Q 17 [some (.ref (wad w 6 0)), some (.int v1), some (.int v2), some (.int v3)] [] μ := by
  intro n
  induction n with
  | zero => intro v3 μ h K; exact noS h
  | succ n ih =>
    intro v3 μ h K
    replace h : Pages_putAct_l1b v1 v2 (Pages_putAct_l1 v1 v2 n) v3 μ = some μo := h
    unfold Pages_putAct_l1b at h
    refine V_iload_n (i := 3) G eX6_putAct_17 rfl rfl ?_
    refine V_iload_n (i := 2) G eX6_putAct_18 rfl rfl ?_
    refine V_icmp_ge G eX6_putAct_19 h (fun h => ?_) (fun h => ?_)
    · cases h; exact V_sub (lS_n (lS_n (lS_n (lS_n lS_0)))) K
    · refine V_aload_n (i := 0) G eX6_putAct_22 rfl rfl ?_
      refine V_get (v := .ref (wad w 709 0)) G fgX6_35 rfl eX6_putAct_23 ?_
      refine V_aload_n (i := 0) G eX6_putAct_26 rfl rfl ?_
      refine V_get (v := .int (mI μ 712 0 0)) G fgX6_52 rfl eX6_putAct_27 ?_
      refine V_iald G al_709 (by decide) eX6_putAct_30 h (fun x1 h => ?_)
      refine V_bipush (n := 72) (v := (nI 72)) G eX6_putAct_31 rfl ?_
      refine V_icmp_ge G eX6_putAct_33 h (fun h => ?_) (fun h => ?_)
      · cases h; exact V_sub (lS_n (lS_n (lS_n (lS_n lS_0)))) K
      · refine V_aload_n (i := 0) G eX6_putAct_36 rfl rfl ?_
        refine V_get (v := .ref (wad w 10708 0)) G fgX6_32 rfl eX6_putAct_37 ?_
        refine V_aload_n (i := 0) G eX6_putAct_40 rfl rfl ?_
        refine V_get (v := .int (mI μ 712 0 0)) G fgX6_52 rfl eX6_putAct_41 ?_
        refine V_aaldI (id := 708) G al_10708 eX6_putAct_44 h (fun r2 hr2 h => ?_)
        refine V_aload_n (i := 0) G eX6_putAct_45 rfl rfl ?_
        refine V_get (v := .ref (wad w 709 0)) G fgX6_35 rfl eX6_putAct_46 ?_
        refine V_aload_n (i := 0) G eX6_putAct_49 rfl rfl ?_
        refine V_get (v := .int (mI μ 712 0 0)) G fgX6_52 rfl eX6_putAct_50 ?_
        refine V_iald G al_709 (by decide) eX6_putAct_53 h (fun x3 h => ?_)
        refine V_iload_n (i := 1) G eX6_putAct_54 rfl rfl ?_
        refine V_iast G al_708 hr2 eX6_putAct_55 h (fun μ4 h => ?_)
        refine V_aload_n (i := 0) G eX6_putAct_56 rfl rfl ?_
        refine V_get (v := .ref (wad w 709 0)) G fgX6_35 rfl eX6_putAct_57 ?_
        refine V_aload_n (i := 0) G eX6_putAct_60 rfl rfl ?_
        refine V_get (v := .int (mI μ4 712 0 0)) G fgX6_52 rfl eX6_putAct_61 ?_
        refine V_dup2_11 G eX6_putAct_64 rfl rfl ?_
        refine V_iald G al_709 (by decide) eX6_putAct_65 h (fun x5 h => ?_)
        refine V_iconst (n := 1) (v := (nI 1)) G eX6_putAct_66 rfl ?_
        refine V_iadd G eX6_putAct_67 ?_
        refine V_iast G al_709 (by decide) eX6_putAct_68 h (fun μ6 h => ?_)
        refine V_iinc (z := (nI 1)) (L' := (fun x7 => [some (.ref (wad w 6 0)), some (.int v1), some (.int v2), some (.int x7)])) G eX6_putAct_69 rfl rfl (by decide) rfl (fun _ => rfl) h (fun x7 h => ?_)
        refine V_goto G eX6_putAct_72 ?_
        exact (ih h K)
set_option maxRecDepth 100000 in
set_option maxHeartbeats 4000000 in
theorem Pages_putAct_run {p : Program} {l : Launch} {e : Env} {R : Room} {s : State} {m : MethodId} {args : Array Value} {below : List Frame} {meth : Method} {c : Code} {w : Wld} (G : Cxt p R s m args meth c w cX6_putAct 4 "PotBook$Pages" 1 0 0) (hr : meth.sig.returnType = none) {a1 : Int32} {a2 : Int32} {μ : Mem} {μ' : Mem} (h : Pages_putAct a1 a2 μ = some μ') : Vj p l e R s m args below meth c w 4 0 0 (MQ below (QV w μ') args s 0 0 w.2.2.2) 0 [some (.ref (wad w 6 0)), some (.int a1), some (.int a2), none] [] μ := by
  unfold Pages_putAct at h
  refine V_aload_n (i := 0) G eX6_putAct_0 rfl rfl ?_
  refine V_get (v := .ref (wad w 10710 0)) G fgX6_38 rfl eX6_putAct_1 ?_
  refine V_aload_n (i := 0) G eX6_putAct_4 rfl rfl ?_
  refine V_get (v := .int (mI μ 712 0 0)) G fgX6_52 rfl eX6_putAct_5 ?_
  refine V_aaldI (id := 710) G al_10710 eX6_putAct_8 h (fun r1 hr1 h => ?_)
  refine V_iload_n (i := 1) G eX6_putAct_9 rfl rfl ?_
  refine V_dup2_11 G eX6_putAct_10 rfl rfl ?_
  refine V_iald G al_710 hr1 eX6_putAct_11 h (fun x2 h => ?_)
  refine V_iload_n (i := 2) G eX6_putAct_12 rfl rfl ?_
  refine V_iadd G eX6_putAct_13 ?_
  refine V_iast G al_710 hr1 eX6_putAct_14 h (fun μ3 h => ?_)
  refine V_iconst (n := 0) (v := (nI 0)) G eX6_putAct_15 rfl ?_
  refine V_istoreA_n (i := 3) (L' := [some (.ref (wad w 6 0)), some (.int a1), some (.int a2), some (.int (nI 0))]) G rfl eX6_putAct_16 (by decide) rfl rfl ?_
  obtain ⟨μ4, h1, h⟩ := bdS h
  refine Pages_putAct_l1_ok G h1 ?_
  exact V_rvM G hr eX6_putAct_75 h
theorem Pages_putAct_ok {l : Launch} {w : Wld} {a1 : Int32} {a2 : Int32} {μ : Mem} {μ' : Mem} (h : Pages_putAct a1 a2 μ = some μ') : CtV l w yX6_putAct cX6_putAct 4 1 [.ref (wad w 6 0), .int a1, .int a2] μ μ' :=
  Ct_of (own := "PotBook$Pages") [some (.ref (wad w 6 0)), some (.int a1), some (.int a2), none] (by decide +kernel) rfl rfl (Nat.le_of_ble_eq_true rfl) fun p e s m args below meth c G hr => Pages_putAct_run G hr h
set_option maxRecDepth 100000 in
set_option maxHeartbeats 4000000 in
theorem Pages_readsActs_l1_ok {p : Program} {l : Launch} {e : Env} {R : Room} {s : State} {m : MethodId} {args : Array Value} {below : List Frame} {meth : Method} {c : Code} {w : Wld} (G : Cxt p R s m args meth c w cX6_readsActs 5 "PotBook$Pages" 2 0 0) (hr : meth.sig.returnType = some .boolean) {r : Int32} {μ' : Mem} : ∀ {n : Nat} {v1 : Int32} {μ : Mem}, Pages_readsActs_l1 n v1 μ = some (r, μ') → Vj p l e R s m args below meth c w 5 0 0 (MQ below (QI w r μ') args s 0 0 w.2.2.2) 2 [some (.ref (wad w 6 0)), some (.int v1), none, none, none] [] μ := by
  intro n
  induction n with
  | zero => intro v1 μ h; exact noS h
  | succ n ih =>
    intro v1 μ h
    replace h : Pages_readsActs_l1b (Pages_readsActs_l1 n) v1 μ = some (r, μ') := h
    unfold Pages_readsActs_l1b at h
    refine V_iload_n (i := 1) G eX6_readsActs_2 rfl rfl ?_
    refine V_bipush (n := 8) (v := (nI 8)) G eX6_readsActs_3 rfl ?_
    refine V_icmp_ge G eX6_readsActs_5 h (fun h => ?_) (fun h => ?_)
    · refine V_aload_n (i := 0) G eX6_readsActs_104 rfl rfl ?_
      refine V_get (v := .ref (wad w 9 0)) G fgX6_44 rfl eX6_readsActs_105 ?_
      obtain ⟨⟨x1, μ2⟩, h1, h⟩ := bdS h
      refine V_callI (As := []) (st := []) G lkX6_75 (Tape_look_ok h1) (by decide) rfl rfl (Nat.le_of_ble_eq_true rfl) eX6_readsActs_108 ?_
      refine V_iconst (n := -1) (v := (-1)) G eX6_readsActs_111 rfl ?_
      refine V_icmp_eq G eX6_readsActs_112 h (fun h => ?_) (fun h => ?_)
      · refine V_iconst (n := 1) (v := (nI 1)) G eX6_readsActs_125 rfl ?_
        refine V_goto G eX6_readsActs_126 ?_
        exact V_rzM G hr eX6_readsActs_130 h
      · refine V_aload_n (i := 0) G eX6_readsActs_115 rfl rfl ?_
        refine V_get (v := .ref (wad w 9 0)) G fgX6_44 rfl eX6_readsActs_116 ?_
        obtain ⟨⟨x3, μ4⟩, h1, h⟩ := bdS h
        refine V_callI (As := []) (st := []) G lkX6_79 (Tape_wrongHere_ok h1) (by decide) rfl rfl (Nat.le_of_ble_eq_true rfl) eX6_readsActs_119 ?_
        refine V_if_eq G eX6_readsActs_122 h (fun h => ?_) (fun h => ?_)
        · refine V_iconst (n := 0) (v := (nI 0)) G eX6_readsActs_129 rfl ?_
          exact V_rzM G hr eX6_readsActs_130 h
        · refine V_iconst (n := 1) (v := (nI 1)) G eX6_readsActs_125 rfl ?_
          refine V_goto G eX6_readsActs_126 ?_
          exact V_rzM G hr eX6_readsActs_130 h
    · refine V_aload_n (i := 0) G eX6_readsActs_8 rfl rfl ?_
      refine V_get (v := .ref (wad w 9 0)) G fgX6_44 rfl eX6_readsActs_9 ?_
      obtain ⟨⟨x5, μ6⟩, h1, h⟩ := bdS h
      refine V_callI (As := []) (st := []) G lkX6_75 (Tape_look_ok h1) (by decide) rfl rfl (Nat.le_of_ble_eq_true rfl) eX6_readsActs_12 ?_
      refine V_istoreA_n (i := 2) (L' := [some (.ref (wad w 6 0)), some (.int v1), some (.int x5), none, none]) G rfl eX6_readsActs_15 (by decide) rfl rfl ?_
      refine V_iload_n (i := 2) G eX6_readsActs_16 rfl rfl ?_
      refine V_iconst (n := -1) (v := (-1)) G eX6_readsActs_17 rfl ?_
      obtain ⟨k7, hkk7, h⟩ := kE h
      have Jk7 :  k7 () = some (r, μ') → Vj p l e R s m args below meth c w 5 0 0 (MQ below (QI w r μ') args s 0 0 w.2.2.2) 27 [some (.ref (wad w 6 0)), some (.int v1), some (.int x5), none, none] [] μ6 := by
        clear h
        intro h
        rw [hkk7] at h
        clear hkk7
        refine V_iload_n (i := 2) G eX6_readsActs_27 rfl rfl ?_
        obtain ⟨x8, h1, h⟩ := bdS h
        refine V_callIS (As := [.int x5]) (st := []) G lkX6_110 (Pages_actOf_ok (μ := μ6) h1) (by decide) rfl rfl (Nat.le_of_ble_eq_true rfl) eX6_readsActs_28 ?_
        refine V_istoreA_n (i := 3) (L' := [some (.ref (wad w 6 0)), some (.int v1), some (.int x5), some (.int x8), none]) G rfl eX6_readsActs_31 (by decide) rfl rfl ?_
        refine V_iload_n (i := 3) G eX6_readsActs_32 rfl rfl ?_
        refine V_iconst (n := -1) (v := (-1)) G eX6_readsActs_33 rfl ?_
        refine V_icmp_ne G eX6_readsActs_34 h (fun h => ?_) (fun h => ?_)
        · refine V_aload_n (i := 0) G eX6_readsActs_45 rfl rfl ?_
          refine V_get (v := .ref (wad w 9 0)) G fgX6_44 rfl eX6_readsActs_46 ?_
          obtain ⟨μ9, h1, h⟩ := bdS h
          refine V_callV (As := []) (st := []) G lkX6_94 (Tape_step_ok h1) (by decide) rfl rfl (Nat.le_of_ble_eq_true rfl) eX6_readsActs_49 ?_
          refine V_iconst (n := 1) (v := (nI 1)) G eX6_readsActs_52 rfl ?_
          refine V_istoreA (i := 4) (L' := [some (.ref (wad w 6 0)), some (.int v1), some (.int x5), some (.int x8), some (.int (nI 1))]) G eX6_readsActs_53 (by decide) rfl rfl ?_
          refine V_aload_n (i := 0) G eX6_readsActs_55 rfl rfl ?_
          refine V_get (v := .ref (wad w 9 0)) G fgX6_44 rfl eX6_readsActs_56 ?_
          obtain ⟨⟨x10, μ11⟩, h1, h⟩ := bdS h
          refine V_callI (As := []) (st := []) G lkX6_75 (Tape_look_ok h1) (by decide) rfl rfl (Nat.le_of_ble_eq_true rfl) eX6_readsActs_59 ?_
          refine V_bipush (n := 49) (v := (nI 49)) G eX6_readsActs_62 rfl ?_
          refine V_bipush (n := 57) (v := (nI 57)) G eX6_readsActs_64 rfl ?_
          obtain ⟨x12, h1, h⟩ := bdS h
          refine V_callIS (As := [.int x10, .int (nI 49), .int (nI 57)]) (st := []) G lkX6_113 (B_isWithin_ok (μ := μ11) h1) (by decide) rfl rfl (Nat.le_of_ble_eq_true rfl) eX6_readsActs_66 ?_
          obtain ⟨⟨x17, μ18⟩, hj, h⟩ := bdS h
          have J : Vj p l e R s m args below meth c w 5 0 0 (MQ below (QI w r μ') args s 0 0 w.2.2.2) 91 [some (.ref (wad w 6 0)), some (.int v1), none, some (.int x8), some (.int x17)] [] μ18 := by
            clear hj
            refine V_aload_n (i := 0) G eX6_readsActs_91 rfl rfl ?_
            refine V_iload_n (i := 3) G eX6_readsActs_92 rfl rfl ?_
            refine V_iload G eX6_readsActs_93 rfl ?_
            obtain ⟨μ19, h1, h⟩ := bdS h
            refine V_callV (As := [.int x8, .int x17]) (st := []) G lkX6_117 (Pages_putAct_ok h1) (by decide) rfl rfl (Nat.le_of_ble_eq_true rfl) eX6_readsActs_95 ?_
            refine V_iinc (z := (nI 1)) (L' := (fun x20 => [some (.ref (wad w 6 0)), some (.int x20), none, some (.int x8), some (.int x17)])) G eX6_readsActs_98 rfl rfl (by decide) rfl (fun _ => rfl) h (fun x20 h => ?_)
            refine V_goto G eX6_readsActs_101 ?_
            exact V_sub (lS_s (lS_s (lS_n (lS_n (lS_n lS_0))))) (ih h)
          replace h := hj
          clear hj
          refine V_if_eq G eX6_readsActs_69 h (fun h => ?_) (fun h => ?_)
          · cases h; exact V_sub (lS_s (lS_s (lS_n (lS_s (lS_s lS_0))))) J
          · refine V_aload_n (i := 0) G eX6_readsActs_72 rfl rfl ?_
            refine V_get (v := .ref (wad w 9 0)) G fgX6_44 rfl eX6_readsActs_73 ?_
            obtain ⟨⟨x13, μ14⟩, h1, h⟩ := bdS h
            refine V_callI (As := []) (st := []) G lkX6_75 (Tape_look_ok h1) (by decide) rfl rfl (Nat.le_of_ble_eq_true rfl) eX6_readsActs_76 ?_
            refine V_bipush (n := 48) (v := (nI 48)) G eX6_readsActs_79 rfl ?_
            refine V_isub G eX6_readsActs_81 ?_
            refine V_istore (i := 4) (L' := (fun x15 => [some (.ref (wad w 6 0)), some (.int v1), some (.int x5), some (.int x8), some (.int x15)])) G eX6_readsActs_82 (by decide) rfl (fun _ => rfl) h (fun x15 h => ?_)
            refine V_aload_n (i := 0) G eX6_readsActs_84 rfl rfl ?_
            refine V_get (v := .ref (wad w 9 0)) G fgX6_44 rfl eX6_readsActs_85 ?_
            obtain ⟨μ16, h1, h⟩ := bdS h
            refine V_callV (As := []) (st := []) G lkX6_94 (Tape_step_ok h1) (by decide) rfl rfl (Nat.le_of_ble_eq_true rfl) eX6_readsActs_88 ?_
            cases h; exact V_sub (lS_s (lS_s (lS_n (lS_s (lS_s lS_0))))) J
        · refine V_aload_n (i := 0) G eX6_readsActs_37 rfl rfl ?_
          refine V_get (v := .ref (wad w 9 0)) G fgX6_44 rfl eX6_readsActs_38 ?_
          obtain ⟨⟨x21, μ22⟩, h1, h⟩ := bdS h
          refine V_callI (As := []) (st := []) G lkX6_79 (Tape_wrongHere_ok h1) (by decide) rfl rfl (Nat.le_of_ble_eq_true rfl) eX6_readsActs_41 ?_
          exact V_rzM G hr eX6_readsActs_44 h
      refine V_icmp_ne G eX6_readsActs_18 h (fun h => ?_) (fun h => ?_)
      · exact (Jk7 h)
      · refine V_iload_n (i := 1) G eX6_readsActs_21 rfl rfl ?_
        refine V_if_le G eX6_readsActs_22 h (fun h => ?_) (fun h => ?_)
        · exact (Jk7 h)
        · refine V_iconst (n := 1) (v := (nI 1)) G eX6_readsActs_25 rfl ?_
          exact V_rzM G hr eX6_readsActs_26 h
set_option maxRecDepth 100000 in
set_option maxHeartbeats 4000000 in
theorem Pages_readsActs_run {p : Program} {l : Launch} {e : Env} {R : Room} {s : State} {m : MethodId} {args : Array Value} {below : List Frame} {meth : Method} {c : Code} {w : Wld} (G : Cxt p R s m args meth c w cX6_readsActs 5 "PotBook$Pages" 2 0 0) (hr : meth.sig.returnType = some .boolean) {μ : Mem} {r : Int32} {μ' : Mem} (h : Pages_readsActs μ = some (r, μ')) : Vj p l e R s m args below meth c w 5 0 0 (MQ below (QI w r μ') args s 0 0 w.2.2.2) 0 [some (.ref (wad w 6 0)), none, none, none, none] [] μ := by
  unfold Pages_readsActs at h
  refine V_iconst (n := 0) (v := (nI 0)) G eX6_readsActs_0 rfl ?_
  refine V_istoreA_n (i := 1) (L' := [some (.ref (wad w 6 0)), some (.int (nI 0)), none, none, none]) G rfl eX6_readsActs_1 (by decide) rfl rfl ?_
  exact Pages_readsActs_l1_ok G hr h
theorem Pages_readsActs_ok {l : Launch} {w : Wld} {μ : Mem} {r : Int32} {μ' : Mem} (h : Pages_readsActs μ = some (r, μ')) : CtI l w yX6_readsActs cX6_readsActs 5 .boolean 2 [.ref (wad w 6 0)] μ r μ' :=
  Ct_of (own := "PotBook$Pages") [some (.ref (wad w 6 0)), none, none, none, none] (by decide +kernel) rfl rfl (Nat.le_of_ble_eq_true rfl) fun p e s m args below meth c G hr => Pages_readsActs_run G hr h
set_option maxRecDepth 100000 in
set_option maxHeartbeats 4000000 in
theorem Pages_readsTape_run {p : Program} {l : Launch} {e : Env} {R : Room} {s : State} {m : MethodId} {args : Array Value} {below : List Frame} {meth : Method} {c : Code} {w : Wld} (G : Cxt p R s m args meth c w cX6_readsTape 1 "PotBook$Pages" 6 0 0) (hr : meth.sig.returnType = some .boolean) {μ : Mem} {r : Int32} {μ' : Mem} (h : Pages_readsTape μ = some (r, μ')) : Vj p l e R s m args below meth c w 1 0 0 (MQ below (QI w r μ') args s 0 0 w.2.2.2) 0 [some (.ref (wad w 6 0))] [] μ := by
  unfold Pages_readsTape at h
  refine V_aload_n (i := 0) G eX6_readsTape_0 rfl rfl ?_
  obtain ⟨μ1, h1, h⟩ := bdS h
  refine V_callV (As := []) (st := []) G lkX6_56 (Pages_clearRow_ok h1) (by decide) rfl rfl (Nat.le_of_ble_eq_true rfl) eX6_readsTape_1 ?_
  refine V_aload_n (i := 0) G eX6_readsTape_4 rfl rfl ?_
  refine V_get (v := .ref (wad w 9 0)) G fgX6_44 rfl eX6_readsTape_5 ?_
  obtain ⟨μ2, h1, h⟩ := bdS h
  refine V_callV (As := []) (st := []) G lkX6_59 (Tape_begin_ok h1) (by decide) rfl rfl (Nat.le_of_ble_eq_true rfl) eX6_readsTape_8 ?_
  refine V_aload_n (i := 0) G eX6_readsTape_11 rfl rfl ?_
  obtain ⟨⟨x3, μ4⟩, h1, h⟩ := bdS h
  refine V_callI (As := []) (st := []) G lkX6_64 (Pages_readsThings_ok h1) (by decide) rfl rfl (Nat.le_of_ble_eq_true rfl) eX6_readsTape_12 ?_
  refine V_if_ne G eX6_readsTape_15 h (fun h => ?_) (fun h => ?_)
  · refine V_aload_n (i := 0) G eX6_readsTape_20 rfl rfl ?_
    refine V_get (v := .ref (wad w 9 0)) G fgX6_44 rfl eX6_readsTape_21 ?_
    refine V_bipush (n := 59) (v := (nI 59)) G eX6_readsTape_24 rfl ?_
    obtain ⟨⟨x5, μ6⟩, h1, h⟩ := bdS h
    refine V_callI (As := [.int (nI 59)]) (st := []) G lkX6_68 (Tape_takes_ok h1) (by decide) rfl rfl (Nat.le_of_ble_eq_true rfl) eX6_readsTape_26 ?_
    refine V_if_eq G eX6_readsTape_29 h (fun h => ?_) (fun h => ?_)
    · refine V_aload_n (i := 0) G eX6_readsTape_37 rfl rfl ?_
      refine V_get (v := .ref (wad w 9 0)) G fgX6_44 rfl eX6_readsTape_38 ?_
      obtain ⟨⟨x7, μ8⟩, h1, h⟩ := bdS h
      refine V_callI (As := []) (st := []) G lkX6_75 (Tape_look_ok h1) (by decide) rfl rfl (Nat.le_of_ble_eq_true rfl) eX6_readsTape_41 ?_
      refine V_iconst (n := -1) (v := (-1)) G eX6_readsTape_44 rfl ?_
      refine V_icmp_eq G eX6_readsTape_45 h (fun h => ?_) (fun h => ?_)
      · refine V_iconst (n := 1) (v := (nI 1)) G eX6_readsTape_58 rfl ?_
        refine V_goto G eX6_readsTape_59 ?_
        exact V_rzM G hr eX6_readsTape_63 h
      · refine V_aload_n (i := 0) G eX6_readsTape_48 rfl rfl ?_
        refine V_get (v := .ref (wad w 9 0)) G fgX6_44 rfl eX6_readsTape_49 ?_
        obtain ⟨⟨x9, μ10⟩, h1, h⟩ := bdS h
        refine V_callI (As := []) (st := []) G lkX6_79 (Tape_wrongHere_ok h1) (by decide) rfl rfl (Nat.le_of_ble_eq_true rfl) eX6_readsTape_52 ?_
        refine V_if_eq G eX6_readsTape_55 h (fun h => ?_) (fun h => ?_)
        · refine V_iconst (n := 0) (v := (nI 0)) G eX6_readsTape_62 rfl ?_
          exact V_rzM G hr eX6_readsTape_63 h
        · refine V_iconst (n := 1) (v := (nI 1)) G eX6_readsTape_58 rfl ?_
          refine V_goto G eX6_readsTape_59 ?_
          exact V_rzM G hr eX6_readsTape_63 h
    · refine V_aload_n (i := 0) G eX6_readsTape_32 rfl rfl ?_
      obtain ⟨⟨x11, μ12⟩, h1, h⟩ := bdS h
      refine V_callI (As := []) (st := []) G lkX6_72 (Pages_readsActs_ok h1) (by decide) rfl rfl (Nat.le_of_ble_eq_true rfl) eX6_readsTape_33 ?_
      exact V_rzM G hr eX6_readsTape_36 h
  · refine V_iconst (n := 0) (v := (nI 0)) G eX6_readsTape_18 rfl ?_
    exact V_rzM G hr eX6_readsTape_19 h
theorem Pages_readsTape_ok {l : Launch} {w : Wld} {μ : Mem} {r : Int32} {μ' : Mem} (h : Pages_readsTape μ = some (r, μ')) : CtI l w yX6_readsTape cX6_readsTape 1 .boolean 6 [.ref (wad w 6 0)] μ r μ' :=
  Ct_of (own := "PotBook$Pages") [some (.ref (wad w 6 0))] (by decide +kernel) rfl rfl (Nat.le_of_ble_eq_true rfl) fun p e s m args below meth c G hr => Pages_readsTape_run G hr h
set_option maxRecDepth 100000 in
set_option maxHeartbeats 4000000 in
theorem Laws_clearRow_run {p : Program} {l : Launch} {e : Env} {R : Room} {s : State} {m : MethodId} {args : Array Value} {below : List Frame} {meth : Method} {c : Code} {w : Wld} (G : Cxt p R s m args meth c w cX4_clearRow 1 "PotBook$Laws" 1 0 0) (hr : meth.sig.returnType = none) {μ : Mem} {μ' : Mem} (h : Laws_clearRow μ = some μ') : Vj p l e R s m args below meth c w 1 0 0 (MQ below (QV w μ') args s 0 0 w.2.2.2) 0 [some (.ref (wad w 4 0))] [] μ := by
  unfold Laws_clearRow at h
  refine V_aload_n (i := 0) G eX4_clearRow_0 rfl rfl ?_
  refine V_get (v := .ref (wad w 501 0)) G fgX4_16 rfl eX4_clearRow_1 ?_
  refine V_aload_n (i := 0) G eX4_clearRow_4 rfl rfl ?_
  refine V_get (v := .int (mI μ 504 0 0)) G fgX4_33 rfl eX4_clearRow_5 ?_
  refine V_iconst (n := 0) (v := (nI 0)) G eX4_clearRow_8 rfl ?_
  refine V_iast G al_501 (by decide) eX4_clearRow_9 h (fun μ1 h => ?_)
  exact V_rvM G hr eX4_clearRow_10 h
theorem Laws_clearRow_ok {l : Launch} {w : Wld} {μ : Mem} {μ' : Mem} (h : Laws_clearRow μ = some μ') : CtV l w yX4_clearRow cX4_clearRow 1 1 [.ref (wad w 4 0)] μ μ' :=
  Ct_of (own := "PotBook$Laws") [some (.ref (wad w 4 0))] (by decide +kernel) rfl rfl (Nat.le_of_ble_eq_true rfl) fun p e s m args below meth c G hr => Laws_clearRow_run G hr h
set_option maxRecDepth 100000 in
set_option maxHeartbeats 4000000 in
theorem LawReader_opensUnit_run {p : Program} {l : Launch} {e : Env} {R : Room} {s : State} {m : MethodId} {args : Array Value} {below : List Frame} {meth : Method} {c : Code} {w : Wld} (G : Cxt p R s m args meth c w cX3_opensUnit 1 "PotBook$LawReader" 1 0 0) (hr : meth.sig.returnType = some .boolean) {a1 : Int32} {μ : Mem} {r : Int32} (h : LawReader_opensUnit a1 = some r) : Vj p l e R s m args below meth c w 1 0 0 (MQ below (QI w r μ) args s 0 0 w.2.2.2) 0 [some (.int a1)] [] μ := by
  unfold LawReader_opensUnit at h
  refine V_iload_n (i := 0) G eX3_opensUnit_0 rfl rfl ?_
  refine V_bipush (n := 33) (v := (nI 33)) G eX3_opensUnit_1 rfl ?_
  refine V_icmp_eq G eX3_opensUnit_3 h (fun h => ?_) (fun h => ?_)
  · refine V_iconst (n := 1) (v := (nI 1)) G eX3_opensUnit_12 rfl ?_
    refine V_goto G eX3_opensUnit_13 ?_
    exact V_rz G hr eX3_opensUnit_17 h
  · refine V_iload_n (i := 0) G eX3_opensUnit_6 rfl rfl ?_
    refine V_bipush (n := 40) (v := (nI 40)) G eX3_opensUnit_7 rfl ?_
    refine V_icmp_ne G eX3_opensUnit_9 h (fun h => ?_) (fun h => ?_)
    · refine V_iconst (n := 0) (v := (nI 0)) G eX3_opensUnit_16 rfl ?_
      exact V_rz G hr eX3_opensUnit_17 h
    · refine V_iconst (n := 1) (v := (nI 1)) G eX3_opensUnit_12 rfl ?_
      refine V_goto G eX3_opensUnit_13 ?_
      exact V_rz G hr eX3_opensUnit_17 h
theorem LawReader_opensUnit_ok {l : Launch} {w : Wld} {a1 : Int32} {μ : Mem} {r : Int32} (h : LawReader_opensUnit a1 = some r) : CtI l w yX3_opensUnit cX3_opensUnit 1 .boolean 1 [.int a1] μ r μ :=
  Ct_of (own := "PotBook$LawReader") [some (.int a1)] (by decide +kernel) rfl rfl (Nat.le_of_ble_eq_true rfl) fun p e s m args below meth c G hr => LawReader_opensUnit_run G hr h
set_option maxRecDepth 100000 in
set_option maxHeartbeats 4000000 in
theorem Laws_emit_run {p : Program} {l : Launch} {e : Env} {R : Room} {s : State} {m : MethodId} {args : Array Value} {below : List Frame} {meth : Method} {c : Code} {w : Wld} (G : Cxt p R s m args meth c w cX4_emit 3 "PotBook$Laws" 1 0 0) (hr : meth.sig.returnType = none) {a1 : Int32} {μ : Mem} {μ' : Mem} (h : Laws_emit a1 μ = some μ') : Vj p l e R s m args below meth c w 3 0 0 (MQ below (QV w μ') args s 0 0 w.2.2.2) 0 [some (.ref (wad w 4 0)), some (.int a1), none] [] μ := by
  unfold Laws_emit at h
  refine V_aload_n (i := 0) G eX4_emit_0 rfl rfl ?_
  refine V_get (v := .ref (wad w 501 0)) G fgX4_16 rfl eX4_emit_1 ?_
  refine V_aload_n (i := 0) G eX4_emit_4 rfl rfl ?_
  refine V_get (v := .int (mI μ 504 0 0)) G fgX4_33 rfl eX4_emit_5 ?_
  refine V_iald G al_501 (by decide) eX4_emit_8 h (fun x1 h => ?_)
  refine V_istoreA_n (i := 2) (L' := [some (.ref (wad w 4 0)), some (.int a1), some (.int x1)]) G rfl eX4_emit_9 (by decide) rfl rfl ?_
  refine V_iload_n (i := 2) G eX4_emit_10 rfl rfl ?_
  refine V_bipush (n := 120) (v := (nI 120)) G eX4_emit_11 rfl ?_
  refine V_icmp_ge G eX4_emit_13 h (fun h => ?_) (fun h => ?_)
  · exact V_rvM G hr eX4_emit_40 h
  · refine V_aload_n (i := 0) G eX4_emit_16 rfl rfl ?_
    refine V_get (v := .ref (wad w 10500 0)) G fgX4_11 rfl eX4_emit_17 ?_
    refine V_aload_n (i := 0) G eX4_emit_20 rfl rfl ?_
    refine V_get (v := .int (mI μ 504 0 0)) G fgX4_33 rfl eX4_emit_21 ?_
    refine V_aaldI (id := 500) G al_10500 eX4_emit_24 h (fun r2 hr2 h => ?_)
    refine V_iload_n (i := 2) G eX4_emit_25 rfl rfl ?_
    refine V_iload_n (i := 1) G eX4_emit_26 rfl rfl ?_
    refine V_iast G al_500 hr2 eX4_emit_27 h (fun μ3 h => ?_)
    refine V_aload_n (i := 0) G eX4_emit_28 rfl rfl ?_
    refine V_get (v := .ref (wad w 501 0)) G fgX4_16 rfl eX4_emit_29 ?_
    refine V_aload_n (i := 0) G eX4_emit_32 rfl rfl ?_
    refine V_get (v := .int (mI μ3 504 0 0)) G fgX4_33 rfl eX4_emit_33 ?_
    refine V_iload_n (i := 2) G eX4_emit_36 rfl rfl ?_
    refine V_iconst (n := 1) (v := (nI 1)) G eX4_emit_37 rfl ?_
    refine V_iadd G eX4_emit_38 ?_
    refine V_iast G al_501 (by decide) eX4_emit_39 h (fun μ4 h => ?_)
    exact V_rvM G hr eX4_emit_40 h
theorem Laws_emit_ok {l : Launch} {w : Wld} {a1 : Int32} {μ : Mem} {μ' : Mem} (h : Laws_emit a1 μ = some μ') : CtV l w yX4_emit cX4_emit 3 1 [.ref (wad w 4 0), .int a1] μ μ' :=
  Ct_of (own := "PotBook$Laws") [some (.ref (wad w 4 0)), some (.int a1), none] (by decide +kernel) rfl rfl (Nat.le_of_ble_eq_true rfl) fun p e s m args below meth c G hr => Laws_emit_run G hr h
set_option maxRecDepth 100000 in
set_option maxHeartbeats 4000000 in
theorem LawReader_letterOf_run {p : Program} {l : Launch} {e : Env} {R : Room} {s : State} {m : MethodId} {args : Array Value} {below : List Frame} {meth : Method} {c : Code} {w : Wld} (G : Cxt p R s m args meth c w cX3_letterOf 1 "PotBook$LawReader" 1 0 0) (hr : meth.sig.returnType = some .int) {a1 : Int32} {μ : Mem} {r : Int32} (h : LawReader_letterOf a1 = some r) : Vj p l e R s m args below meth c w 1 0 0 (MQ below (QI w r μ) args s 0 0 w.2.2.2) 0 [some (.int a1)] [] μ := by
  unfold LawReader_letterOf at h
  refine V_iload_n (i := 0) G eX3_letterOf_0 rfl rfl ?_
  by_cases c0 : a1 = (nI 98)
  · rw [if_pos c0] at h
    refine V_tswIn (v := (nI 98)) (off := 111) (tgt := 112) G eX3_letterOf_1 c0 (by decide) (by decide) rfl rfl ?_
    refine V_iconst (n := 4) (v := (nI 4)) G eX3_letterOf_112 rfl ?_
    exact V_ri G hr eX3_letterOf_113 h
  · rw [if_neg c0] at h
    by_cases c1 : a1 = (nI 99)
    · rw [if_pos c1] at h
      refine V_tswIn (v := (nI 99)) (off := 124) (tgt := 125) G eX3_letterOf_1 c1 (by decide) (by decide) rfl rfl ?_
      refine V_iconst (n := -1) (v := (-1)) G eX3_letterOf_125 rfl ?_
      exact V_ri G hr eX3_letterOf_126 h
    · rw [if_neg c1] at h
      by_cases c2 : a1 = (nI 100)
      · rw [if_pos c2] at h
        refine V_tswIn (v := (nI 100)) (off := 124) (tgt := 125) G eX3_letterOf_1 c2 (by decide) (by decide) rfl rfl ?_
        refine V_iconst (n := -1) (v := (-1)) G eX3_letterOf_125 rfl ?_
        exact V_ri G hr eX3_letterOf_126 h
      · rw [if_neg c2] at h
        by_cases c3 : a1 = (nI 101)
        · rw [if_pos c3] at h
          refine V_tswIn (v := (nI 101)) (off := 124) (tgt := 125) G eX3_letterOf_1 c3 (by decide) (by decide) rfl rfl ?_
          refine V_iconst (n := -1) (v := (-1)) G eX3_letterOf_125 rfl ?_
          exact V_ri G hr eX3_letterOf_126 h
        · rw [if_neg c3] at h
          by_cases c4 : a1 = (nI 102)
          · rw [if_pos c4] at h
            refine V_tswIn (v := (nI 102)) (off := 107) (tgt := 108) G eX3_letterOf_1 c4 (by decide) (by decide) rfl rfl ?_
            refine V_iconst (n := 2) (v := (nI 2)) G eX3_letterOf_108 rfl ?_
            exact V_ri G hr eX3_letterOf_109 h
          · rw [if_neg c4] at h
            by_cases c5 : a1 = (nI 103)
            · rw [if_pos c5] at h
              refine V_tswIn (v := (nI 103)) (off := 124) (tgt := 125) G eX3_letterOf_1 c5 (by decide) (by decide) rfl rfl ?_
              refine V_iconst (n := -1) (v := (-1)) G eX3_letterOf_125 rfl ?_
              exact V_ri G hr eX3_letterOf_126 h
            · rw [if_neg c5] at h
              by_cases c6 : a1 = (nI 104)
              · rw [if_pos c6] at h
                refine V_tswIn (v := (nI 104)) (off := 124) (tgt := 125) G eX3_letterOf_1 c6 (by decide) (by decide) rfl rfl ?_
                refine V_iconst (n := -1) (v := (-1)) G eX3_letterOf_125 rfl ?_
                exact V_ri G hr eX3_letterOf_126 h
              · rw [if_neg c6] at h
                by_cases c7 : a1 = (nI 105)
                · rw [if_pos c7] at h
                  refine V_tswIn (v := (nI 105)) (off := 124) (tgt := 125) G eX3_letterOf_1 c7 (by decide) (by decide) rfl rfl ?_
                  refine V_iconst (n := -1) (v := (-1)) G eX3_letterOf_125 rfl ?_
                  exact V_ri G hr eX3_letterOf_126 h
                · rw [if_neg c7] at h
                  by_cases c8 : a1 = (nI 106)
                  · rw [if_pos c8] at h
                    refine V_tswIn (v := (nI 106)) (off := 124) (tgt := 125) G eX3_letterOf_1 c8 (by decide) (by decide) rfl rfl ?_
                    refine V_iconst (n := -1) (v := (-1)) G eX3_letterOf_125 rfl ?_
                    exact V_ri G hr eX3_letterOf_126 h
                  · rw [if_neg c8] at h
                    by_cases c9 : a1 = (nI 107)
                    · rw [if_pos c9] at h
                      refine V_tswIn (v := (nI 107)) (off := 121) (tgt := 122) G eX3_letterOf_1 c9 (by decide) (by decide) rfl rfl ?_
                      refine V_bipush (n := 8) (v := (nI 8)) G eX3_letterOf_122 rfl ?_
                      exact V_ri G hr eX3_letterOf_124 h
                    · rw [if_neg c9] at h
                      by_cases c10 : a1 = (nI 108)
                      · rw [if_pos c10] at h
                        refine V_tswIn (v := (nI 108)) (off := 124) (tgt := 125) G eX3_letterOf_1 c10 (by decide) (by decide) rfl rfl ?_
                        refine V_iconst (n := -1) (v := (-1)) G eX3_letterOf_125 rfl ?_
                        exact V_ri G hr eX3_letterOf_126 h
                      · rw [if_neg c10] at h
                        by_cases c11 : a1 = (nI 109)
                        · rw [if_pos c11] at h
                          refine V_tswIn (v := (nI 109)) (off := 124) (tgt := 125) G eX3_letterOf_1 c11 (by decide) (by decide) rfl rfl ?_
                          refine V_iconst (n := -1) (v := (-1)) G eX3_letterOf_125 rfl ?_
                          exact V_ri G hr eX3_letterOf_126 h
                        · rw [if_neg c11] at h
                          by_cases c12 : a1 = (nI 110)
                          · rw [if_pos c12] at h
                            refine V_tswIn (v := (nI 110)) (off := 109) (tgt := 110) G eX3_letterOf_1 c12 (by decide) (by decide) rfl rfl ?_
                            refine V_iconst (n := 3) (v := (nI 3)) G eX3_letterOf_110 rfl ?_
                            exact V_ri G hr eX3_letterOf_111 h
                          · rw [if_neg c12] at h
                            by_cases c13 : a1 = (nI 111)
                            · rw [if_pos c13] at h
                              refine V_tswIn (v := (nI 111)) (off := 124) (tgt := 125) G eX3_letterOf_1 c13 (by decide) (by decide) rfl rfl ?_
                              refine V_iconst (n := -1) (v := (-1)) G eX3_letterOf_125 rfl ?_
                              exact V_ri G hr eX3_letterOf_126 h
                            · rw [if_neg c13] at h
                              by_cases c14 : a1 = (nI 112)
                              · rw [if_pos c14] at h
                                refine V_tswIn (v := (nI 112)) (off := 124) (tgt := 125) G eX3_letterOf_1 c14 (by decide) (by decide) rfl rfl ?_
                                refine V_iconst (n := -1) (v := (-1)) G eX3_letterOf_125 rfl ?_
                                exact V_ri G hr eX3_letterOf_126 h
                              · rw [if_neg c14] at h
                                by_cases c15 : a1 = (nI 113)
                                · rw [if_pos c15] at h
                                  refine V_tswIn (v := (nI 113)) (off := 124) (tgt := 125) G eX3_letterOf_1 c15 (by decide) (by decide) rfl rfl ?_
                                  refine V_iconst (n := -1) (v := (-1)) G eX3_letterOf_125 rfl ?_
                                  exact V_ri G hr eX3_letterOf_126 h
                                · rw [if_neg c15] at h
                                  by_cases c16 : a1 = (nI 114)
                                  · rw [if_pos c16] at h
                                    refine V_tswIn (v := (nI 114)) (off := 113) (tgt := 114) G eX3_letterOf_1 c16 (by decide) (by decide) rfl rfl ?_
                                    refine V_iconst (n := 5) (v := (nI 5)) G eX3_letterOf_114 rfl ?_
                                    exact V_ri G hr eX3_letterOf_115 h
                                  · rw [if_neg c16] at h
                                    by_cases c17 : a1 = (nI 115)
                                    · rw [if_pos c17] at h
                                      refine V_tswIn (v := (nI 115)) (off := 105) (tgt := 106) G eX3_letterOf_1 c17 (by decide) (by decide) rfl rfl ?_
                                      refine V_iconst (n := 1) (v := (nI 1)) G eX3_letterOf_106 rfl ?_
                                      exact V_ri G hr eX3_letterOf_107 h
                                    · rw [if_neg c17] at h
                                      by_cases c18 : a1 = (nI 116)
                                      · rw [if_pos c18] at h
                                        refine V_tswIn (v := (nI 116)) (off := 115) (tgt := 116) G eX3_letterOf_1 c18 (by decide) (by decide) rfl rfl ?_
                                        refine V_bipush (n := 6) (v := (nI 6)) G eX3_letterOf_116 rfl ?_
                                        exact V_ri G hr eX3_letterOf_118 h
                                      · rw [if_neg c18] at h
                                        by_cases c19 : a1 = (nI 117)
                                        · rw [if_pos c19] at h
                                          refine V_tswIn (v := (nI 117)) (off := 118) (tgt := 119) G eX3_letterOf_1 c19 (by decide) (by decide) rfl rfl ?_
                                          refine V_bipush (n := 7) (v := (nI 7)) G eX3_letterOf_119 rfl ?_
                                          exact V_ri G hr eX3_letterOf_121 h
                                        · rw [if_neg c19] at h
                                          by_cases c20 : a1 = (nI 118)
                                          · rw [if_pos c20] at h
                                            refine V_tswIn (v := (nI 118)) (off := 124) (tgt := 125) G eX3_letterOf_1 c20 (by decide) (by decide) rfl rfl ?_
                                            refine V_iconst (n := -1) (v := (-1)) G eX3_letterOf_125 rfl ?_
                                            exact V_ri G hr eX3_letterOf_126 h
                                          · rw [if_neg c20] at h
                                            by_cases c21 : a1 = (nI 119)
                                            · rw [if_pos c21] at h
                                              refine V_tswIn (v := (nI 119)) (off := 103) (tgt := 104) G eX3_letterOf_1 c21 (by decide) (by decide) rfl rfl ?_
                                              refine V_iconst (n := 0) (v := (nI 0)) G eX3_letterOf_104 rfl ?_
                                              exact V_ri G hr eX3_letterOf_105 h
                                            · rw [if_neg c21] at h
                                              refine V_tswOut G eX3_letterOf_1 (fun k h1 h2 q => ?_) (tgt := 125) rfl ?_
                                              · rcases (show k = 98 ∨ k = 99 ∨ k = 100 ∨ k = 101 ∨ k = 102 ∨ k = 103 ∨ k = 104 ∨ k = 105 ∨ k = 106 ∨ k = 107 ∨ k = 108 ∨ k = 109 ∨ k = 110 ∨ k = 111 ∨ k = 112 ∨ k = 113 ∨ k = 114 ∨ k = 115 ∨ k = 116 ∨ k = 117 ∨ k = 118 ∨ k = 119 by omega) with rfl | rfl | rfl | rfl | rfl | rfl | rfl | rfl | rfl | rfl | rfl | rfl | rfl | rfl | rfl | rfl | rfl | rfl | rfl | rfl | rfl | rfl
                                                · exact c0 q
                                                · exact c1 q
                                                · exact c2 q
                                                · exact c3 q
                                                · exact c4 q
                                                · exact c5 q
                                                · exact c6 q
                                                · exact c7 q
                                                · exact c8 q
                                                · exact c9 q
                                                · exact c10 q
                                                · exact c11 q
                                                · exact c12 q
                                                · exact c13 q
                                                · exact c14 q
                                                · exact c15 q
                                                · exact c16 q
                                                · exact c17 q
                                                · exact c18 q
                                                · exact c19 q
                                                · exact c20 q
                                                · exact c21 q
                                              · refine V_iconst (n := -1) (v := (-1)) G eX3_letterOf_125 rfl ?_
                                                exact V_ri G hr eX3_letterOf_126 h
theorem LawReader_letterOf_ok {l : Launch} {w : Wld} {a1 : Int32} {μ : Mem} {r : Int32} (h : LawReader_letterOf a1 = some r) : CtI l w yX3_letterOf cX3_letterOf 1 .int 1 [.int a1] μ r μ :=
  Ct_of (own := "PotBook$LawReader") [some (.int a1)] (by decide +kernel) rfl rfl (Nat.le_of_ble_eq_true rfl) fun p e s m args below meth c G hr => LawReader_letterOf_run G hr h
set_option maxRecDepth 100000 in
set_option maxHeartbeats 4000000 in
theorem LawReader_sum_l1_ok {p : Program} {l : Launch} {e : Env} {R : Room} {s : State} {m : MethodId} {args : Array Value} {below : List Frame} {meth : Method} {c : Code} {w : Wld} {lv : Nat} (hlv : 2 ≤ lv) (G : Cxt p R s m args meth c w cX3_sum 4 "PotBook$LawReader" (lv + 1) 0 0) (hr : meth.sig.returnType = some .boolean) {r_LawReader_term : Int32 → Mem → Option (Int32 × Mem)} (ih_LawReader_term : ∀ {a1 : Int32} {μ : Mem} {r : Int32} {μ' : Mem}, r_LawReader_term a1 μ = some (r, μ') → CtI l w yX3_term cX3_term 4 .boolean lv [.ref (wad w 3 0), .int a1] μ r μ') {v1 : Int32} {r : Int32} {μ' : Mem} : ∀ {n : Nat} {v2 : Int32} {μ : Mem}, LawReader_sum_l1 r_LawReader_term v1 n v2 μ = some (r, μ') → Vj p l e R s m args below meth c w 4 0 0 (MQ below (QI w r μ') args s 0 0 w.2.2.2) 12 [some (.ref (wad w 3 0)), some (.int v1), some (.int v2), none] [] μ := by
  intro n
  induction n with
  | zero => intro v2 μ h; exact noS h
  | succ n ih =>
    intro v2 μ h
    replace h : LawReader_sum_l1b r_LawReader_term v1 (LawReader_sum_l1 r_LawReader_term v1 n) v2 μ = some (r, μ') := h
    unfold LawReader_sum_l1b at h
    refine V_iload_n (i := 2) G eX3_sum_12 rfl rfl ?_
    refine V_bipush (n := 120) (v := (nI 120)) G eX3_sum_13 rfl ?_
    refine V_icmp_ge G eX3_sum_15 h (fun h => ?_) (fun h => ?_)
    · refine V_aload_n (i := 0) G eX3_sum_85 rfl rfl ?_
      refine V_get (v := .ref (wad w 9 0)) G fgX3_9 rfl eX3_sum_86 ?_
      obtain ⟨⟨x1, μ2⟩, h1, h⟩ := bdS h
      refine V_callI (As := []) (st := []) G lkX3_41 (Tape_wrongHere_ok h1) (by omega) rfl rfl (Nat.le_of_ble_eq_true rfl) eX3_sum_89 ?_
      exact V_rzM G hr eX3_sum_92 h
    · refine V_aload_n (i := 0) G eX3_sum_18 rfl rfl ?_
      refine V_get (v := .ref (wad w 9 0)) G fgX3_9 rfl eX3_sum_19 ?_
      obtain ⟨⟨x3, μ4⟩, h1, h⟩ := bdS h
      refine V_callI (As := []) (st := []) G lkX3_37 (Tape_look_ok h1) (by omega) rfl rfl (Nat.le_of_ble_eq_true rfl) eX3_sum_22 ?_
      refine V_istoreA_n (i := 3) (L' := [some (.ref (wad w 3 0)), some (.int v1), some (.int v2), some (.int x3)]) G rfl eX3_sum_25 (by decide) rfl rfl ?_
      refine V_iload_n (i := 3) G eX3_sum_26 rfl rfl ?_
      refine V_bipush (n := 43) (v := (nI 43)) G eX3_sum_27 rfl ?_
      obtain ⟨k5, hkk5, h⟩ := kE h
      have Jk5 :  k5 () = some (r, μ') → Vj p l e R s m args below meth c w 4 0 0 (MQ below (QI w r μ') args s 0 0 w.2.2.2) 40 [some (.ref (wad w 3 0)), some (.int v1), some (.int v2), some (.int x3)] [] μ4 := by
        clear h
        intro h
        rw [hkk5] at h
        clear hkk5
        refine V_aload_n (i := 0) G eX3_sum_40 rfl rfl ?_
        refine V_get (v := .ref (wad w 9 0)) G fgX3_9 rfl eX3_sum_41 ?_
        obtain ⟨μ6, h1, h⟩ := bdS h
        refine V_callV (As := []) (st := []) G lkX3_80 (Tape_step_ok h1) (by omega) rfl rfl (Nat.le_of_ble_eq_true rfl) eX3_sum_44 ?_
        refine V_aload_n (i := 0) G eX3_sum_47 rfl rfl ?_
        refine V_iload_n (i := 1) G eX3_sum_48 rfl rfl ?_
        obtain ⟨⟨x7, μ8⟩, h1, h⟩ := bdS h
        refine V_callI (As := [.int v1]) (st := []) G lkX3_83 (ih_LawReader_term h1) (by omega) rfl rfl (Nat.le_of_ble_eq_true rfl) eX3_sum_49 ?_
        refine V_if_ne G eX3_sum_52 h (fun h => ?_) (fun h => ?_)
        · refine V_aload_n (i := 0) G eX3_sum_57 rfl rfl ?_
          refine V_get (v := .ref (wad w 4 0)) G fgX3_15 rfl eX3_sum_58 ?_
          refine V_iload_n (i := 3) G eX3_sum_61 rfl rfl ?_
          refine V_bipush (n := 43) (v := (nI 43)) G eX3_sum_62 rfl ?_
          obtain ⟨x9, hj, h⟩ := bdS h
          have J : Vj p l e R s m args below meth c w 4 0 0 (MQ below (QI w r μ') args s 0 0 w.2.2.2) 76 [some (.ref (wad w 3 0)), some (.int v1), some (.int v2), none] [.int x9, .ref (wad w 4 0)] μ8 := by
            clear hj
            obtain ⟨μ10, h1, h⟩ := bdS h
            refine V_callV (As := [.int x9]) (st := []) G lkX3_54 (Laws_emit_ok h1) (by omega) rfl rfl (Nat.le_of_ble_eq_true rfl) eX3_sum_76 ?_
            refine V_iinc (z := (nI 1)) (L' := (fun x11 => [some (.ref (wad w 3 0)), some (.int v1), some (.int x11), none])) G eX3_sum_79 rfl rfl (by decide) rfl (fun _ => rfl) h (fun x11 h => ?_)
            refine V_goto G eX3_sum_82 ?_
            exact (ih h)
          replace h := hj
          clear hj
          refine V_icmp_ne G eX3_sum_64 h (fun h => ?_) (fun h => ?_)
          · refine V_sipush (n := 10101) (v := (nI 10101)) G eX3_sum_73 rfl ?_
            cases h; exact V_sub (lS_s (lS_s (lS_s (lS_n lS_0)))) J
          · refine V_sipush (n := 10100) (v := (nI 10100)) G eX3_sum_67 rfl ?_
            refine V_goto G eX3_sum_70 ?_
            cases h; exact V_sub (lS_s (lS_s (lS_s (lS_n lS_0)))) J
        · refine V_iconst (n := 0) (v := (nI 0)) G eX3_sum_55 rfl ?_
          exact V_rzM G hr eX3_sum_56 h
      refine V_icmp_eq G eX3_sum_29 h (fun h => ?_) (fun h => ?_)
      · exact (Jk5 h)
      · refine V_iload_n (i := 3) G eX3_sum_32 rfl rfl ?_
        refine V_bipush (n := 45) (v := (nI 45)) G eX3_sum_33 rfl ?_
        refine V_icmp_eq G eX3_sum_35 h (fun h => ?_) (fun h => ?_)
        · exact (Jk5 h)
        · refine V_iconst (n := 1) (v := (nI 1)) G eX3_sum_38 rfl ?_
          exact V_rzM G hr eX3_sum_39 h
set_option maxRecDepth 100000 in
set_option maxHeartbeats 4000000 in
theorem LawReader_sum_B_run {p : Program} {l : Launch} {e : Env} {R : Room} {s : State} {m : MethodId} {args : Array Value} {below : List Frame} {meth : Method} {c : Code} {w : Wld} {lv : Nat} (hlv : 2 ≤ lv) (G : Cxt p R s m args meth c w cX3_sum 4 "PotBook$LawReader" (lv + 1) 0 0) (hr : meth.sig.returnType = some .boolean) {r_LawReader_term : Int32 → Mem → Option (Int32 × Mem)} (ih_LawReader_term : ∀ {a1 : Int32} {μ : Mem} {r : Int32} {μ' : Mem}, r_LawReader_term a1 μ = some (r, μ') → CtI l w yX3_term cX3_term 4 .boolean lv [.ref (wad w 3 0), .int a1] μ r μ') {a1 : Int32} {μ : Mem} {r : Int32} {μ' : Mem} (h : LawReader_sum_B r_LawReader_term a1 μ = some (r, μ')) : Vj p l e R s m args below meth c w 4 0 0 (MQ below (QI w r μ') args s 0 0 w.2.2.2) 0 [some (.ref (wad w 3 0)), some (.int a1), none, none] [] μ := by
  unfold LawReader_sum_B at h
  refine V_aload_n (i := 0) G eX3_sum_0 rfl rfl ?_
  refine V_iload_n (i := 1) G eX3_sum_1 rfl rfl ?_
  obtain ⟨⟨x1, μ2⟩, h1, h⟩ := bdS h
  refine V_callI (As := [.int a1]) (st := []) G lkX3_83 (ih_LawReader_term h1) (by omega) rfl rfl (Nat.le_of_ble_eq_true rfl) eX3_sum_2 ?_
  refine V_if_ne G eX3_sum_5 h (fun h => ?_) (fun h => ?_)
  · refine V_iconst (n := 0) (v := (nI 0)) G eX3_sum_10 rfl ?_
    refine V_istoreA_n (i := 2) (L' := [some (.ref (wad w 3 0)), some (.int a1), some (.int (nI 0)), none]) G rfl eX3_sum_11 (by decide) rfl rfl ?_
    exact LawReader_sum_l1_ok hlv G hr ih_LawReader_term h
  · refine V_iconst (n := 0) (v := (nI 0)) G eX3_sum_8 rfl ?_
    exact V_rzM G hr eX3_sum_9 h
set_option maxRecDepth 100000 in
set_option maxHeartbeats 4000000 in
theorem LawReader_term_l1_ok {p : Program} {l : Launch} {e : Env} {R : Room} {s : State} {m : MethodId} {args : Array Value} {below : List Frame} {meth : Method} {c : Code} {w : Wld} {lv : Nat} (hlv : 2 ≤ lv) (G : Cxt p R s m args meth c w cX3_term 4 "PotBook$LawReader" (lv + 1) 0 0) (hr : meth.sig.returnType = some .boolean) {r_LawReader_atom : Int32 → Mem → Option (Int32 × Mem)} (ih_LawReader_atom : ∀ {a1 : Int32} {μ : Mem} {r : Int32} {μ' : Mem}, r_LawReader_atom a1 μ = some (r, μ') → CtI l w yX3_atom cX3_atom 4 .boolean lv [.ref (wad w 3 0), .int a1] μ r μ') {v1 : Int32} {r : Int32} {μ' : Mem} : ∀ {n : Nat} {v2 : Int32} {μ : Mem}, LawReader_term_l1 r_LawReader_atom v1 n v2 μ = some (r, μ') → Vj p l e R s m args below meth c w 4 0 0 (MQ below (QI w r μ') args s 0 0 w.2.2.2) 12 [some (.ref (wad w 3 0)), some (.int v1), some (.int v2), none] [] μ := by
  intro n
  induction n with
  | zero => intro v2 μ h; exact noS h
  | succ n ih =>
    intro v2 μ h
    replace h : LawReader_term_l1b r_LawReader_atom v1 (LawReader_term_l1 r_LawReader_atom v1 n) v2 μ = some (r, μ') := h
    unfold LawReader_term_l1b at h
    refine V_iload_n (i := 2) G eX3_term_12 rfl rfl ?_
    refine V_bipush (n := 120) (v := (nI 120)) G eX3_term_13 rfl ?_
    refine V_icmp_ge G eX3_term_15 h (fun h => ?_) (fun h => ?_)
    · refine V_aload_n (i := 0) G eX3_term_85 rfl rfl ?_
      refine V_get (v := .ref (wad w 9 0)) G fgX3_9 rfl eX3_term_86 ?_
      obtain ⟨⟨x1, μ2⟩, h1, h⟩ := bdS h
      refine V_callI (As := []) (st := []) G lkX3_41 (Tape_wrongHere_ok h1) (by omega) rfl rfl (Nat.le_of_ble_eq_true rfl) eX3_term_89 ?_
      exact V_rzM G hr eX3_term_92 h
    · refine V_aload_n (i := 0) G eX3_term_18 rfl rfl ?_
      refine V_get (v := .ref (wad w 9 0)) G fgX3_9 rfl eX3_term_19 ?_
      obtain ⟨⟨x3, μ4⟩, h1, h⟩ := bdS h
      refine V_callI (As := []) (st := []) G lkX3_37 (Tape_look_ok h1) (by omega) rfl rfl (Nat.le_of_ble_eq_true rfl) eX3_term_22 ?_
      refine V_istoreA_n (i := 3) (L' := [some (.ref (wad w 3 0)), some (.int v1), some (.int v2), some (.int x3)]) G rfl eX3_term_25 (by decide) rfl rfl ?_
      refine V_iload_n (i := 3) G eX3_term_26 rfl rfl ?_
      refine V_bipush (n := 42) (v := (nI 42)) G eX3_term_27 rfl ?_
      obtain ⟨k5, hkk5, h⟩ := kE h
      have Jk5 :  k5 () = some (r, μ') → Vj p l e R s m args below meth c w 4 0 0 (MQ below (QI w r μ') args s 0 0 w.2.2.2) 40 [some (.ref (wad w 3 0)), some (.int v1), some (.int v2), some (.int x3)] [] μ4 := by
        clear h
        intro h
        rw [hkk5] at h
        clear hkk5
        refine V_aload_n (i := 0) G eX3_term_40 rfl rfl ?_
        refine V_get (v := .ref (wad w 9 0)) G fgX3_9 rfl eX3_term_41 ?_
        obtain ⟨μ6, h1, h⟩ := bdS h
        refine V_callV (As := []) (st := []) G lkX3_80 (Tape_step_ok h1) (by omega) rfl rfl (Nat.le_of_ble_eq_true rfl) eX3_term_44 ?_
        refine V_aload_n (i := 0) G eX3_term_47 rfl rfl ?_
        refine V_iload_n (i := 1) G eX3_term_48 rfl rfl ?_
        obtain ⟨⟨x7, μ8⟩, h1, h⟩ := bdS h
        refine V_callI (As := [.int v1]) (st := []) G lkX3_86 (ih_LawReader_atom h1) (by omega) rfl rfl (Nat.le_of_ble_eq_true rfl) eX3_term_49 ?_
        refine V_if_ne G eX3_term_52 h (fun h => ?_) (fun h => ?_)
        · refine V_aload_n (i := 0) G eX3_term_57 rfl rfl ?_
          refine V_get (v := .ref (wad w 4 0)) G fgX3_15 rfl eX3_term_58 ?_
          refine V_iload_n (i := 3) G eX3_term_61 rfl rfl ?_
          refine V_bipush (n := 42) (v := (nI 42)) G eX3_term_62 rfl ?_
          obtain ⟨x9, hj, h⟩ := bdS h
          have J : Vj p l e R s m args below meth c w 4 0 0 (MQ below (QI w r μ') args s 0 0 w.2.2.2) 76 [some (.ref (wad w 3 0)), some (.int v1), some (.int v2), none] [.int x9, .ref (wad w 4 0)] μ8 := by
            clear hj
            obtain ⟨μ10, h1, h⟩ := bdS h
            refine V_callV (As := [.int x9]) (st := []) G lkX3_54 (Laws_emit_ok h1) (by omega) rfl rfl (Nat.le_of_ble_eq_true rfl) eX3_term_76 ?_
            refine V_iinc (z := (nI 1)) (L' := (fun x11 => [some (.ref (wad w 3 0)), some (.int v1), some (.int x11), none])) G eX3_term_79 rfl rfl (by decide) rfl (fun _ => rfl) h (fun x11 h => ?_)
            refine V_goto G eX3_term_82 ?_
            exact (ih h)
          replace h := hj
          clear hj
          refine V_icmp_ne G eX3_term_64 h (fun h => ?_) (fun h => ?_)
          · refine V_sipush (n := 10103) (v := (nI 10103)) G eX3_term_73 rfl ?_
            cases h; exact V_sub (lS_s (lS_s (lS_s (lS_n lS_0)))) J
          · refine V_sipush (n := 10102) (v := (nI 10102)) G eX3_term_67 rfl ?_
            refine V_goto G eX3_term_70 ?_
            cases h; exact V_sub (lS_s (lS_s (lS_s (lS_n lS_0)))) J
        · refine V_iconst (n := 0) (v := (nI 0)) G eX3_term_55 rfl ?_
          exact V_rzM G hr eX3_term_56 h
      refine V_icmp_eq G eX3_term_29 h (fun h => ?_) (fun h => ?_)
      · exact (Jk5 h)
      · refine V_iload_n (i := 3) G eX3_term_32 rfl rfl ?_
        refine V_bipush (n := 47) (v := (nI 47)) G eX3_term_33 rfl ?_
        refine V_icmp_eq G eX3_term_35 h (fun h => ?_) (fun h => ?_)
        · exact (Jk5 h)
        · refine V_iconst (n := 1) (v := (nI 1)) G eX3_term_38 rfl ?_
          exact V_rzM G hr eX3_term_39 h
set_option maxRecDepth 100000 in
set_option maxHeartbeats 4000000 in
theorem LawReader_term_B_run {p : Program} {l : Launch} {e : Env} {R : Room} {s : State} {m : MethodId} {args : Array Value} {below : List Frame} {meth : Method} {c : Code} {w : Wld} {lv : Nat} (hlv : 2 ≤ lv) (G : Cxt p R s m args meth c w cX3_term 4 "PotBook$LawReader" (lv + 1) 0 0) (hr : meth.sig.returnType = some .boolean) {r_LawReader_atom : Int32 → Mem → Option (Int32 × Mem)} (ih_LawReader_atom : ∀ {a1 : Int32} {μ : Mem} {r : Int32} {μ' : Mem}, r_LawReader_atom a1 μ = some (r, μ') → CtI l w yX3_atom cX3_atom 4 .boolean lv [.ref (wad w 3 0), .int a1] μ r μ') {a1 : Int32} {μ : Mem} {r : Int32} {μ' : Mem} (h : LawReader_term_B r_LawReader_atom a1 μ = some (r, μ')) : Vj p l e R s m args below meth c w 4 0 0 (MQ below (QI w r μ') args s 0 0 w.2.2.2) 0 [some (.ref (wad w 3 0)), some (.int a1), none, none] [] μ := by
  unfold LawReader_term_B at h
  refine V_aload_n (i := 0) G eX3_term_0 rfl rfl ?_
  refine V_iload_n (i := 1) G eX3_term_1 rfl rfl ?_
  obtain ⟨⟨x1, μ2⟩, h1, h⟩ := bdS h
  refine V_callI (As := [.int a1]) (st := []) G lkX3_86 (ih_LawReader_atom h1) (by omega) rfl rfl (Nat.le_of_ble_eq_true rfl) eX3_term_2 ?_
  refine V_if_ne G eX3_term_5 h (fun h => ?_) (fun h => ?_)
  · refine V_iconst (n := 0) (v := (nI 0)) G eX3_term_10 rfl ?_
    refine V_istoreA_n (i := 2) (L' := [some (.ref (wad w 3 0)), some (.int a1), some (.int (nI 0)), none]) G rfl eX3_term_11 (by decide) rfl rfl ?_
    exact LawReader_term_l1_ok hlv G hr ih_LawReader_atom h
  · refine V_iconst (n := 0) (v := (nI 0)) G eX3_term_8 rfl ?_
    exact V_rzM G hr eX3_term_9 h
set_option maxRecDepth 100000 in
set_option maxHeartbeats 4000000 in
theorem LawReader_atom_B_run {p : Program} {l : Launch} {e : Env} {R : Room} {s : State} {m : MethodId} {args : Array Value} {below : List Frame} {meth : Method} {c : Code} {w : Wld} {lv : Nat} (hlv : 2 ≤ lv) (G : Cxt p R s m args meth c w cX3_atom 4 "PotBook$LawReader" (lv + 1) 0 0) (hr : meth.sig.returnType = some .boolean) {r_LawReader_sum : Int32 → Mem → Option (Int32 × Mem)} (ih_LawReader_sum : ∀ {a1 : Int32} {μ : Mem} {r : Int32} {μ' : Mem}, r_LawReader_sum a1 μ = some (r, μ') → CtI l w yX3_sum cX3_sum 4 .boolean lv [.ref (wad w 3 0), .int a1] μ r μ') {a1 : Int32} {μ : Mem} {r : Int32} {μ' : Mem} (h : LawReader_atom_B r_LawReader_sum a1 μ = some (r, μ')) : Vj p l e R s m args below meth c w 4 0 0 (MQ below (QI w r μ') args s 0 0 w.2.2.2) 0 [some (.ref (wad w 3 0)), some (.int a1), none, none] [] μ := by
  unfold LawReader_atom_B at h
  refine V_aload_n (i := 0) G eX3_atom_0 rfl rfl ?_
  refine V_get (v := .ref (wad w 9 0)) G fgX3_9 rfl eX3_atom_1 ?_
  obtain ⟨⟨x1, μ2⟩, h1, h⟩ := bdS h
  refine V_callI (As := []) (st := []) G lkX3_37 (Tape_look_ok h1) (by omega) rfl rfl (Nat.le_of_ble_eq_true rfl) eX3_atom_4 ?_
  refine V_istoreA_n (i := 2) (L' := [some (.ref (wad w 3 0)), some (.int a1), some (.int x1), none]) G rfl eX3_atom_7 (by decide) rfl rfl ?_
  refine V_iload_n (i := 2) G eX3_atom_8 rfl rfl ?_
  obtain ⟨x3, h1, h⟩ := bdS h
  refine V_callIS (As := [.int x1]) (st := []) G lkX3_89 (B_isDigit_ok (μ := μ2) h1) (by omega) rfl rfl (Nat.le_of_ble_eq_true rfl) eX3_atom_9 ?_
  refine V_if_eq G eX3_atom_12 h (fun h => ?_) (fun h => ?_)
  · refine V_iload_n (i := 2) G eX3_atom_43 rfl rfl ?_
    obtain ⟨x4, h1, h⟩ := bdS h
    refine V_callIS (As := [.int x1]) (st := []) G lkX3_95 (LawReader_letterOf_ok (μ := μ2) h1) (by omega) rfl rfl (Nat.le_of_ble_eq_true rfl) eX3_atom_44 ?_
    refine V_istoreA_n (i := 3) (L' := [some (.ref (wad w 3 0)), some (.int a1), some (.int x1), some (.int x4)]) G rfl eX3_atom_47 (by decide) rfl rfl ?_
    refine V_iload_n (i := 3) G eX3_atom_48 rfl rfl ?_
    refine V_iconst (n := -1) (v := (-1)) G eX3_atom_49 rfl ?_
    refine V_icmp_eq G eX3_atom_50 h (fun h => ?_) (fun h => ?_)
    · refine V_iload_n (i := 2) G eX3_atom_74 rfl rfl ?_
      refine V_bipush (n := 91) (v := (nI 91)) G eX3_atom_75 rfl ?_
      refine V_icmp_ne G eX3_atom_77 h (fun h => ?_) (fun h => ?_)
      · refine V_aload_n (i := 0) G eX3_atom_86 rfl rfl ?_
        refine V_get (v := .ref (wad w 9 0)) G fgX3_9 rfl eX3_atom_87 ?_
        obtain ⟨⟨x5, μ6⟩, h1, h⟩ := bdS h
        refine V_callI (As := []) (st := []) G lkX3_41 (Tape_wrongHere_ok h1) (by omega) rfl rfl (Nat.le_of_ble_eq_true rfl) eX3_atom_90 ?_
        exact V_rzM G hr eX3_atom_93 h
      · refine V_iload_n (i := 1) G eX3_atom_80 rfl rfl ?_
        refine V_bipush (n := 6) (v := (nI 6)) G eX3_atom_81 rfl ?_
        refine V_icmp_lt G eX3_atom_83 h (fun h => ?_) (fun h => ?_)
        · refine V_aload_n (i := 0) G eX3_atom_94 rfl rfl ?_
          refine V_get (v := .ref (wad w 9 0)) G fgX3_9 rfl eX3_atom_95 ?_
          obtain ⟨μ7, h1, h⟩ := bdS h
          refine V_callV (As := []) (st := []) G lkX3_80 (Tape_step_ok h1) (by omega) rfl rfl (Nat.le_of_ble_eq_true rfl) eX3_atom_98 ?_
          refine V_aload_n (i := 0) G eX3_atom_101 rfl rfl ?_
          refine V_iload_n (i := 1) G eX3_atom_102 rfl rfl ?_
          refine V_iconst (n := 1) (v := (nI 1)) G eX3_atom_103 rfl ?_
          refine V_iadd G eX3_atom_104 ?_
          obtain ⟨⟨x8, μ9⟩, h1, h⟩ := bdS h
          refine V_callI (As := [.int (a1 + (nI 1))]) (st := []) G lkX3_47 (ih_LawReader_sum h1) (by omega) rfl rfl (Nat.le_of_ble_eq_true rfl) eX3_atom_105 ?_
          refine V_if_eq G eX3_atom_108 h (fun h => ?_) (fun h => ?_)
          · refine V_iconst (n := 0) (v := (nI 0)) G eX3_atom_137 rfl ?_
            exact V_rzM G hr eX3_atom_138 h
          · refine V_aload_n (i := 0) G eX3_atom_111 rfl rfl ?_
            refine V_get (v := .ref (wad w 9 0)) G fgX3_9 rfl eX3_atom_112 ?_
            refine V_bipush (n := 93) (v := (nI 93)) G eX3_atom_115 rfl ?_
            obtain ⟨⟨x10, μ11⟩, h1, h⟩ := bdS h
            refine V_callI (As := [.int (nI 93)]) (st := []) G lkX3_33 (Tape_takes_ok h1) (by omega) rfl rfl (Nat.le_of_ble_eq_true rfl) eX3_atom_117 ?_
            refine V_if_ne G eX3_atom_120 h (fun h => ?_) (fun h => ?_)
            · refine V_iconst (n := 1) (v := (nI 1)) G eX3_atom_133 rfl ?_
              refine V_goto G eX3_atom_134 ?_
              exact V_rzM G hr eX3_atom_138 h
            · refine V_aload_n (i := 0) G eX3_atom_123 rfl rfl ?_
              refine V_get (v := .ref (wad w 9 0)) G fgX3_9 rfl eX3_atom_124 ?_
              obtain ⟨⟨x12, μ13⟩, h1, h⟩ := bdS h
              refine V_callI (As := []) (st := []) G lkX3_41 (Tape_wrongHere_ok h1) (by omega) rfl rfl (Nat.le_of_ble_eq_true rfl) eX3_atom_127 ?_
              refine V_if_eq G eX3_atom_130 h (fun h => ?_) (fun h => ?_)
              · refine V_iconst (n := 0) (v := (nI 0)) G eX3_atom_137 rfl ?_
                exact V_rzM G hr eX3_atom_138 h
              · refine V_iconst (n := 1) (v := (nI 1)) G eX3_atom_133 rfl ?_
                refine V_goto G eX3_atom_134 ?_
                exact V_rzM G hr eX3_atom_138 h
        · refine V_aload_n (i := 0) G eX3_atom_86 rfl rfl ?_
          refine V_get (v := .ref (wad w 9 0)) G fgX3_9 rfl eX3_atom_87 ?_
          obtain ⟨⟨x14, μ15⟩, h1, h⟩ := bdS h
          refine V_callI (As := []) (st := []) G lkX3_41 (Tape_wrongHere_ok h1) (by omega) rfl rfl (Nat.le_of_ble_eq_true rfl) eX3_atom_90 ?_
          exact V_rzM G hr eX3_atom_93 h
    · refine V_aload_n (i := 0) G eX3_atom_53 rfl rfl ?_
      refine V_get (v := .ref (wad w 9 0)) G fgX3_9 rfl eX3_atom_54 ?_
      obtain ⟨μ16, h1, h⟩ := bdS h
      refine V_callV (As := []) (st := []) G lkX3_80 (Tape_step_ok h1) (by omega) rfl rfl (Nat.le_of_ble_eq_true rfl) eX3_atom_57 ?_
      refine V_aload_n (i := 0) G eX3_atom_60 rfl rfl ?_
      refine V_get (v := .ref (wad w 4 0)) G fgX3_15 rfl eX3_atom_61 ?_
      refine V_sipush (n := 10000) (v := (nI 10000)) G eX3_atom_64 rfl ?_
      refine V_iload_n (i := 3) G eX3_atom_67 rfl rfl ?_
      refine V_iadd G eX3_atom_68 ?_
      obtain ⟨μ17, h1, h⟩ := bdS h
      refine V_callV (As := [.int ((nI 10000) + x4)]) (st := []) G lkX3_54 (Laws_emit_ok h1) (by omega) rfl rfl (Nat.le_of_ble_eq_true rfl) eX3_atom_69 ?_
      refine V_iconst (n := 1) (v := (nI 1)) G eX3_atom_72 rfl ?_
      exact V_rzM G hr eX3_atom_73 h
  · refine V_aload_n (i := 0) G eX3_atom_15 rfl rfl ?_
    refine V_get (v := .ref (wad w 9 0)) G fgX3_9 rfl eX3_atom_16 ?_
    refine V_iconst (n := 4) (v := (nI 4)) G eX3_atom_19 rfl ?_
    obtain ⟨⟨x18, μ19⟩, h1, h⟩ := bdS h
    refine V_callI (As := [.int (nI 4)]) (st := []) G lkX3_92 (Tape_readNumber_ok h1) (by omega) rfl rfl (Nat.le_of_ble_eq_true rfl) eX3_atom_20 ?_
    refine V_istoreA_n (i := 3) (L' := [some (.ref (wad w 3 0)), some (.int a1), some (.int x1), some (.int x18)]) G rfl eX3_atom_23 (by decide) rfl rfl ?_
    refine V_aload_n (i := 0) G eX3_atom_24 rfl rfl ?_
    refine V_get (v := .ref (wad w 4 0)) G fgX3_15 rfl eX3_atom_25 ?_
    refine V_iload_n (i := 3) G eX3_atom_28 rfl rfl ?_
    obtain ⟨μ20, h1, h⟩ := bdS h
    refine V_callV (As := [.int x18]) (st := []) G lkX3_54 (Laws_emit_ok h1) (by omega) rfl rfl (Nat.le_of_ble_eq_true rfl) eX3_atom_29 ?_
    refine V_iload_n (i := 3) G eX3_atom_32 rfl rfl ?_
    refine V_iconst (n := -1) (v := (-1)) G eX3_atom_33 rfl ?_
    refine V_icmp_eq G eX3_atom_34 h (fun h => ?_) (fun h => ?_)
    · refine V_iconst (n := 0) (v := (nI 0)) G eX3_atom_41 rfl ?_
      exact V_rzM G hr eX3_atom_42 h
    · refine V_iconst (n := 1) (v := (nI 1)) G eX3_atom_37 rfl ?_
      refine V_goto G eX3_atom_38 ?_
      exact V_rzM G hr eX3_atom_42 h
set_option maxRecDepth 100000 in
set_option maxHeartbeats 4000000 in
theorem G_LawReader_sum_ok {l : Launch} {w : Wld} : ∀ n : Nat, (∀ {a1 : Int32} {μ : Mem} {r : Int32} {μ' : Mem}, LawReader_sum n a1 μ = some (r, μ') → CtI l w yX3_sum cX3_sum 4 .boolean (2 + n) [.ref (wad w 3 0), .int a1] μ r μ') ∧ (∀ {a1 : Int32} {μ : Mem} {r : Int32} {μ' : Mem}, LawReader_term n a1 μ = some (r, μ') → CtI l w yX3_term cX3_term 4 .boolean (2 + n) [.ref (wad w 3 0), .int a1] μ r μ') ∧ (∀ {a1 : Int32} {μ : Mem} {r : Int32} {μ' : Mem}, LawReader_atom n a1 μ = some (r, μ') → CtI l w yX3_atom cX3_atom 4 .boolean (2 + n) [.ref (wad w 3 0), .int a1] μ r μ') := by
  intro n
  induction n with
  | zero => exact ⟨fun h => noS h, fun h => noS h, fun h => noS h⟩
  | succ n ih =>
    obtain ⟨ih_LawReader_sum, ih_LawReader_term, ih_LawReader_atom⟩ := ih
    refine ⟨?_, ?_, ?_⟩
    · intro a1 μ r μ' h
      rw [LawReader_sum_s] at h
      exact Ct_of (own := "PotBook$LawReader") [some (.ref (wad w 3 0)), some (.int a1), none, none] (by decide +kernel) rfl rfl (Nat.le_of_ble_eq_true rfl) fun p e s m args below meth c G hr => LawReader_sum_B_run (lv := 2 + n) (by omega) G hr ih_LawReader_term h
    · intro a1 μ r μ' h
      rw [LawReader_term_s] at h
      exact Ct_of (own := "PotBook$LawReader") [some (.ref (wad w 3 0)), some (.int a1), none, none] (by decide +kernel) rfl rfl (Nat.le_of_ble_eq_true rfl) fun p e s m args below meth c G hr => LawReader_term_B_run (lv := 2 + n) (by omega) G hr ih_LawReader_atom h
    · intro a1 μ r μ' h
      rw [LawReader_atom_s] at h
      exact Ct_of (own := "PotBook$LawReader") [some (.ref (wad w 3 0)), some (.int a1), none, none] (by decide +kernel) rfl rfl (Nat.le_of_ble_eq_true rfl) fun p e s m args below meth c G hr => LawReader_atom_B_run (lv := 2 + n) (by omega) G hr ih_LawReader_sum h

theorem LawReader_sum_ok {l : Launch} {w : Wld} {a1 : Int32} {μ : Mem} {r : Int32} {μ' : Mem} (h : LawReader_sum RF a1 μ = some (r, μ')) : CtI l w yX3_sum cX3_sum 4 .boolean (2 + RF) [.ref (wad w 3 0), .int a1] μ r μ' := (G_LawReader_sum_ok RF).1 h
theorem LawReader_term_ok {l : Launch} {w : Wld} {a1 : Int32} {μ : Mem} {r : Int32} {μ' : Mem} (h : LawReader_term RF a1 μ = some (r, μ')) : CtI l w yX3_term cX3_term 4 .boolean (2 + RF) [.ref (wad w 3 0), .int a1] μ r μ' := (G_LawReader_sum_ok RF).2.1 h
theorem LawReader_atom_ok {l : Launch} {w : Wld} {a1 : Int32} {μ : Mem} {r : Int32} {μ' : Mem} (h : LawReader_atom RF a1 μ = some (r, μ')) : CtI l w yX3_atom cX3_atom 4 .boolean (2 + RF) [.ref (wad w 3 0), .int a1] μ r μ' := (G_LawReader_sum_ok RF).2.2 h
set_option maxRecDepth 100000 in
set_option maxHeartbeats 4000000 in
theorem LawReader_comparing_run {p : Program} {l : Launch} {e : Env} {R : Room} {s : State} {m : MethodId} {args : Array Value} {below : List Frame} {meth : Method} {c : Code} {w : Wld} (G : Cxt p R s m args meth c w cX3_comparing 1 "PotBook$LawReader" 1 0 0) (hr : meth.sig.returnType = some .int) {a1 : Int32} {μ : Mem} {r : Int32} (h : LawReader_comparing a1 = some r) : Vj p l e R s m args below meth c w 1 0 0 (MQ below (QI w r μ) args s 0 0 w.2.2.2) 0 [some (.int a1)] [] μ := by
  unfold LawReader_comparing at h
  refine V_iload_n (i := 0) G eX3_comparing_0 rfl rfl ?_
  by_cases c0 : a1 = (nI 60)
  · rw [if_pos c0] at h
    refine V_tswIn (v := (nI 60)) (off := 31) (tgt := 32) G eX3_comparing_1 c0 (by decide) (by decide) rfl rfl ?_
    refine V_sipush (n := 10105) (v := (nI 10105)) G eX3_comparing_32 rfl ?_
    exact V_ri G hr eX3_comparing_35 h
  · rw [if_neg c0] at h
    by_cases c1 : a1 = (nI 61)
    · rw [if_pos c1] at h
      refine V_tswIn (v := (nI 61)) (off := 27) (tgt := 28) G eX3_comparing_1 c1 (by decide) (by decide) rfl rfl ?_
      refine V_sipush (n := 10104) (v := (nI 10104)) G eX3_comparing_28 rfl ?_
      exact V_ri G hr eX3_comparing_31 h
    · rw [if_neg c1] at h
      by_cases c2 : a1 = (nI 62)
      · rw [if_pos c2] at h
        refine V_tswIn (v := (nI 62)) (off := 35) (tgt := 36) G eX3_comparing_1 c2 (by decide) (by decide) rfl rfl ?_
        refine V_sipush (n := 10106) (v := (nI 10106)) G eX3_comparing_36 rfl ?_
        exact V_ri G hr eX3_comparing_39 h
      · rw [if_neg c2] at h
        refine V_tswOut G eX3_comparing_1 (fun k h1 h2 q => ?_) (tgt := 40) rfl ?_
        · rcases (show k = 60 ∨ k = 61 ∨ k = 62 by omega) with rfl | rfl | rfl
          · exact c0 q
          · exact c1 q
          · exact c2 q
        · refine V_iconst (n := -1) (v := (-1)) G eX3_comparing_40 rfl ?_
          exact V_ri G hr eX3_comparing_41 h
theorem LawReader_comparing_ok {l : Launch} {w : Wld} {a1 : Int32} {μ : Mem} {r : Int32} (h : LawReader_comparing a1 = some r) : CtI l w yX3_comparing cX3_comparing 1 .int 1 [.int a1] μ r μ :=
  Ct_of (own := "PotBook$LawReader") [some (.int a1)] (by decide +kernel) rfl rfl (Nat.le_of_ble_eq_true rfl) fun p e s m args below meth c G hr => LawReader_comparing_run G hr h
set_option maxRecDepth 100000 in
set_option maxHeartbeats 4000000 in
theorem LawReader_condition_l1_ok {p : Program} {l : Launch} {e : Env} {R : Room} {s : State} {m : MethodId} {args : Array Value} {below : List Frame} {meth : Method} {c : Code} {w : Wld} {lv : Nat} (hlv : 63 ≤ lv) (G : Cxt p R s m args meth c w cX3_condition 4 "PotBook$LawReader" (lv + 1) 0 0) (hr : meth.sig.returnType = some .boolean) {r_LawReader_truth : Int32 → Int32 → Mem → Option (Int32 × Mem)} (ih_LawReader_truth : ∀ {a1 : Int32} {a2 : Int32} {μ : Mem} {r : Int32} {μ' : Mem}, r_LawReader_truth a1 a2 μ = some (r, μ') → CtI l w yX3_truth cX3_truth 4 .boolean lv [.ref (wad w 3 0), .int a1, .int a2] μ r μ') {v1 : Int32} {r : Int32} {μ' : Mem} : ∀ {n : Nat} {v3 : Int32} {μ : Mem}, LawReader_condition_l1 r_LawReader_truth v1 n v3 μ = some (r, μ') → Vj p l e R s m args below meth c w 4 0 0 (MQ below (QI w r μ') args s 0 0 w.2.2.2) 13 [some (.ref (wad w 3 0)), some (.int v1), none, some (.int v3)] [] μ := by
  intro n
  induction n with
  | zero => intro v3 μ h; exact noS h
  | succ n ih =>
    intro v3 μ h
    replace h : LawReader_condition_l1b r_LawReader_truth v1 (LawReader_condition_l1 r_LawReader_truth v1 n) v3 μ = some (r, μ') := h
    unfold LawReader_condition_l1b at h
    refine V_iload_n (i := 3) G eX3_condition_13 rfl rfl ?_
    refine V_bipush (n := 120) (v := (nI 120)) G eX3_condition_14 rfl ?_
    refine V_icmp_ge G eX3_condition_16 h (fun h => ?_) (fun h => ?_)
    · refine V_iconst (n := 1) (v := (nI 1)) G eX3_condition_58 rfl ?_
      exact V_rzM G hr eX3_condition_59 h
    · refine V_aload_n (i := 0) G eX3_condition_19 rfl rfl ?_
      refine V_get (v := .ref (wad w 9 0)) G fgX3_9 rfl eX3_condition_20 ?_
      refine V_bipush (n := 124) (v := (nI 124)) G eX3_condition_23 rfl ?_
      obtain ⟨⟨x1, μ2⟩, h1, h⟩ := bdS h
      refine V_callI (As := [.int (nI 124)]) (st := []) G lkX3_33 (Tape_takes_ok h1) (by omega) rfl rfl (Nat.le_of_ble_eq_true rfl) eX3_condition_25 ?_
      refine V_if_eq G eX3_condition_28 h (fun h => ?_) (fun h => ?_)
      · refine V_iconst (n := 1) (v := (nI 1)) G eX3_condition_58 rfl ?_
        exact V_rzM G hr eX3_condition_59 h
      · refine V_aload_n (i := 0) G eX3_condition_31 rfl rfl ?_
        refine V_iload_n (i := 1) G eX3_condition_32 rfl rfl ?_
        refine V_iconst (n := 0) (v := (nI 0)) G eX3_condition_33 rfl ?_
        obtain ⟨⟨x3, μ4⟩, h1, h⟩ := bdS h
        refine V_callI (As := [.int v1, .int (nI 0)]) (st := []) G lkX3_71 (ih_LawReader_truth h1) (by omega) rfl rfl (Nat.le_of_ble_eq_true rfl) eX3_condition_34 ?_
        refine V_if_ne G eX3_condition_37 h (fun h => ?_) (fun h => ?_)
        · refine V_aload_n (i := 0) G eX3_condition_42 rfl rfl ?_
          refine V_get (v := .ref (wad w 4 0)) G fgX3_15 rfl eX3_condition_43 ?_
          refine V_sipush (n := 10108) (v := (nI 10108)) G eX3_condition_46 rfl ?_
          obtain ⟨μ5, h1, h⟩ := bdS h
          refine V_callV (As := [.int (nI 10108)]) (st := []) G lkX3_54 (Laws_emit_ok h1) (by omega) rfl rfl (Nat.le_of_ble_eq_true rfl) eX3_condition_49 ?_
          refine V_iinc (z := (nI 1)) (L' := (fun x6 => [some (.ref (wad w 3 0)), some (.int v1), none, some (.int x6)])) G eX3_condition_52 rfl rfl (by decide) rfl (fun _ => rfl) h (fun x6 h => ?_)
          refine V_goto G eX3_condition_55 ?_
          exact (ih h)
        · refine V_iconst (n := 0) (v := (nI 0)) G eX3_condition_40 rfl ?_
          exact V_rzM G hr eX3_condition_41 h
set_option maxRecDepth 100000 in
set_option maxHeartbeats 4000000 in
theorem LawReader_condition_B_run {p : Program} {l : Launch} {e : Env} {R : Room} {s : State} {m : MethodId} {args : Array Value} {below : List Frame} {meth : Method} {c : Code} {w : Wld} {lv : Nat} (hlv : 63 ≤ lv) (G : Cxt p R s m args meth c w cX3_condition 4 "PotBook$LawReader" (lv + 1) 0 0) (hr : meth.sig.returnType = some .boolean) {r_LawReader_truth : Int32 → Int32 → Mem → Option (Int32 × Mem)} (ih_LawReader_truth : ∀ {a1 : Int32} {a2 : Int32} {μ : Mem} {r : Int32} {μ' : Mem}, r_LawReader_truth a1 a2 μ = some (r, μ') → CtI l w yX3_truth cX3_truth 4 .boolean lv [.ref (wad w 3 0), .int a1, .int a2] μ r μ') {a1 : Int32} {a2 : Int32} {μ : Mem} {r : Int32} {μ' : Mem} (h : LawReader_condition_B r_LawReader_truth a1 a2 μ = some (r, μ')) : Vj p l e R s m args below meth c w 4 0 0 (MQ below (QI w r μ') args s 0 0 w.2.2.2) 0 [some (.ref (wad w 3 0)), some (.int a1), some (.int a2), none] [] μ := by
  unfold LawReader_condition_B at h
  refine V_aload_n (i := 0) G eX3_condition_0 rfl rfl ?_
  refine V_iload_n (i := 1) G eX3_condition_1 rfl rfl ?_
  refine V_iload_n (i := 2) G eX3_condition_2 rfl rfl ?_
  obtain ⟨⟨x1, μ2⟩, h1, h⟩ := bdS h
  refine V_callI (As := [.int a1, .int a2]) (st := []) G lkX3_71 (ih_LawReader_truth h1) (by omega) rfl rfl (Nat.le_of_ble_eq_true rfl) eX3_condition_3 ?_
  refine V_if_ne G eX3_condition_6 h (fun h => ?_) (fun h => ?_)
  · refine V_iconst (n := 0) (v := (nI 0)) G eX3_condition_11 rfl ?_
    refine V_istoreA_n (i := 3) (L' := [some (.ref (wad w 3 0)), some (.int a1), some (.int a2), some (.int (nI 0))]) G rfl eX3_condition_12 (by decide) rfl rfl ?_
    refine V_sub (lS_s (lS_s (lS_n (lS_s lS_0)))) ?_
    exact LawReader_condition_l1_ok hlv G hr ih_LawReader_truth h
  · refine V_iconst (n := 0) (v := (nI 0)) G eX3_condition_9 rfl ?_
    exact V_rzM G hr eX3_condition_10 h
set_option maxRecDepth 100000 in
set_option maxHeartbeats 4000000 in
theorem LawReader_truth_l1_ok {p : Program} {l : Launch} {e : Env} {R : Room} {s : State} {m : MethodId} {args : Array Value} {below : List Frame} {meth : Method} {c : Code} {w : Wld} {lv : Nat} (hlv : 63 ≤ lv) (G : Cxt p R s m args meth c w cX3_truth 4 "PotBook$LawReader" (lv + 1) 0 0) (hr : meth.sig.returnType = some .boolean) {r_LawReader_unit : Int32 → Int32 → Mem → Option (Int32 × Mem)} (ih_LawReader_unit : ∀ {a1 : Int32} {a2 : Int32} {μ : Mem} {r : Int32} {μ' : Mem}, r_LawReader_unit a1 a2 μ = some (r, μ') → CtI l w yX3_unit cX3_unit 4 .boolean lv [.ref (wad w 3 0), .int a1, .int a2] μ r μ') {v1 : Int32} {r : Int32} {μ' : Mem} : ∀ {n : Nat} {v3 : Int32} {μ : Mem}, LawReader_truth_l1 r_LawReader_unit v1 n v3 μ = some (r, μ') → Vj p l e R s m args below meth c w 4 0 0 (MQ below (QI w r μ') args s 0 0 w.2.2.2) 13 [some (.ref (wad w 3 0)), some (.int v1), none, some (.int v3)] [] μ := by
  intro n
  induction n with
  | zero => intro v3 μ h; exact noS h
  | succ n ih =>
    intro v3 μ h
    replace h : LawReader_truth_l1b r_LawReader_unit v1 (LawReader_truth_l1 r_LawReader_unit v1 n) v3 μ = some (r, μ') := h
    unfold LawReader_truth_l1b at h
    refine V_iload_n (i := 3) G eX3_truth_13 rfl rfl ?_
    refine V_bipush (n := 120) (v := (nI 120)) G eX3_truth_14 rfl ?_
    refine V_icmp_ge G eX3_truth_16 h (fun h => ?_) (fun h => ?_)
    · refine V_iconst (n := 1) (v := (nI 1)) G eX3_truth_58 rfl ?_
      exact V_rzM G hr eX3_truth_59 h
    · refine V_aload_n (i := 0) G eX3_truth_19 rfl rfl ?_
      refine V_get (v := .ref (wad w 9 0)) G fgX3_9 rfl eX3_truth_20 ?_
      refine V_bipush (n := 38) (v := (nI 38)) G eX3_truth_23 rfl ?_
      obtain ⟨⟨x1, μ2⟩, h1, h⟩ := bdS h
      refine V_callI (As := [.int (nI 38)]) (st := []) G lkX3_33 (Tape_takes_ok h1) (by omega) rfl rfl (Nat.le_of_ble_eq_true rfl) eX3_truth_25 ?_
      refine V_if_eq G eX3_truth_28 h (fun h => ?_) (fun h => ?_)
      · refine V_iconst (n := 1) (v := (nI 1)) G eX3_truth_58 rfl ?_
        exact V_rzM G hr eX3_truth_59 h
      · refine V_aload_n (i := 0) G eX3_truth_31 rfl rfl ?_
        refine V_iload_n (i := 1) G eX3_truth_32 rfl rfl ?_
        refine V_iconst (n := 0) (v := (nI 0)) G eX3_truth_33 rfl ?_
        obtain ⟨⟨x3, μ4⟩, h1, h⟩ := bdS h
        refine V_callI (As := [.int v1, .int (nI 0)]) (st := []) G lkX3_74 (ih_LawReader_unit h1) (by omega) rfl rfl (Nat.le_of_ble_eq_true rfl) eX3_truth_34 ?_
        refine V_if_ne G eX3_truth_37 h (fun h => ?_) (fun h => ?_)
        · refine V_aload_n (i := 0) G eX3_truth_42 rfl rfl ?_
          refine V_get (v := .ref (wad w 4 0)) G fgX3_15 rfl eX3_truth_43 ?_
          refine V_sipush (n := 10107) (v := (nI 10107)) G eX3_truth_46 rfl ?_
          obtain ⟨μ5, h1, h⟩ := bdS h
          refine V_callV (As := [.int (nI 10107)]) (st := []) G lkX3_54 (Laws_emit_ok h1) (by omega) rfl rfl (Nat.le_of_ble_eq_true rfl) eX3_truth_49 ?_
          refine V_iinc (z := (nI 1)) (L' := (fun x6 => [some (.ref (wad w 3 0)), some (.int v1), none, some (.int x6)])) G eX3_truth_52 rfl rfl (by decide) rfl (fun _ => rfl) h (fun x6 h => ?_)
          refine V_goto G eX3_truth_55 ?_
          exact (ih h)
        · refine V_iconst (n := 0) (v := (nI 0)) G eX3_truth_40 rfl ?_
          exact V_rzM G hr eX3_truth_41 h
set_option maxRecDepth 100000 in
set_option maxHeartbeats 4000000 in
theorem LawReader_truth_B_run {p : Program} {l : Launch} {e : Env} {R : Room} {s : State} {m : MethodId} {args : Array Value} {below : List Frame} {meth : Method} {c : Code} {w : Wld} {lv : Nat} (hlv : 63 ≤ lv) (G : Cxt p R s m args meth c w cX3_truth 4 "PotBook$LawReader" (lv + 1) 0 0) (hr : meth.sig.returnType = some .boolean) {r_LawReader_unit : Int32 → Int32 → Mem → Option (Int32 × Mem)} (ih_LawReader_unit : ∀ {a1 : Int32} {a2 : Int32} {μ : Mem} {r : Int32} {μ' : Mem}, r_LawReader_unit a1 a2 μ = some (r, μ') → CtI l w yX3_unit cX3_unit 4 .boolean lv [.ref (wad w 3 0), .int a1, .int a2] μ r μ') {a1 : Int32} {a2 : Int32} {μ : Mem} {r : Int32} {μ' : Mem} (h : LawReader_truth_B r_LawReader_unit a1 a2 μ = some (r, μ')) : Vj p l e R s m args below meth c w 4 0 0 (MQ below (QI w r μ') args s 0 0 w.2.2.2) 0 [some (.ref (wad w 3 0)), some (.int a1), some (.int a2), none] [] μ := by
  unfold LawReader_truth_B at h
  refine V_aload_n (i := 0) G eX3_truth_0 rfl rfl ?_
  refine V_iload_n (i := 1) G eX3_truth_1 rfl rfl ?_
  refine V_iload_n (i := 2) G eX3_truth_2 rfl rfl ?_
  obtain ⟨⟨x1, μ2⟩, h1, h⟩ := bdS h
  refine V_callI (As := [.int a1, .int a2]) (st := []) G lkX3_74 (ih_LawReader_unit h1) (by omega) rfl rfl (Nat.le_of_ble_eq_true rfl) eX3_truth_3 ?_
  refine V_if_ne G eX3_truth_6 h (fun h => ?_) (fun h => ?_)
  · refine V_iconst (n := 0) (v := (nI 0)) G eX3_truth_11 rfl ?_
    refine V_istoreA_n (i := 3) (L' := [some (.ref (wad w 3 0)), some (.int a1), some (.int a2), some (.int (nI 0))]) G rfl eX3_truth_12 (by decide) rfl rfl ?_
    refine V_sub (lS_s (lS_s (lS_n (lS_s lS_0)))) ?_
    exact LawReader_truth_l1_ok hlv G hr ih_LawReader_unit h
  · refine V_iconst (n := 0) (v := (nI 0)) G eX3_truth_9 rfl ?_
    exact V_rzM G hr eX3_truth_10 h
set_option maxRecDepth 100000 in
set_option maxHeartbeats 4000000 in
theorem LawReader_unit_B_run {p : Program} {l : Launch} {e : Env} {R : Room} {s : State} {m : MethodId} {args : Array Value} {below : List Frame} {meth : Method} {c : Code} {w : Wld} {lv : Nat} (hlv : 63 ≤ lv) (G : Cxt p R s m args meth c w cX3_unit 4 "PotBook$LawReader" (lv + 1) 0 0) (hr : meth.sig.returnType = some .boolean) {r_LawReader_opened : Int32 → Mem → Option (Int32 × Mem)} (ih_LawReader_opened : ∀ {a1 : Int32} {μ : Mem} {r : Int32} {μ' : Mem}, r_LawReader_opened a1 μ = some (r, μ') → CtI l w yX3_opened cX3_opened 2 .boolean lv [.ref (wad w 3 0), .int a1] μ r μ') {a1 : Int32} {a2 : Int32} {μ : Mem} {r : Int32} {μ' : Mem} (h : LawReader_unit_B r_LawReader_opened a1 a2 μ = some (r, μ')) : Vj p l e R s m args below meth c w 4 0 0 (MQ below (QI w r μ') args s 0 0 w.2.2.2) 0 [some (.ref (wad w 3 0)), some (.int a1), some (.int a2), none] [] μ := by
  unfold LawReader_unit_B at h
  refine V_iload_n (i := 2) G eX3_unit_0 rfl rfl ?_
  obtain ⟨k7, hkk7, h⟩ := kE h
  have Jk7 : ∀ (μ6 : Mem), k7 μ6 = some (r, μ') → Vj p l e R s m args below meth c w 4 0 0 (MQ below (QI w r μ') args s 0 0 w.2.2.2) 23 [some (.ref (wad w 3 0)), some (.int a1), some (.int a2), none] [] μ6 := by
    clear h
    intro μ6 h
    rw [hkk7] at h
    clear hkk7
    refine V_iload_n (i := 2) G eX3_unit_23 rfl rfl ?_
    obtain ⟨k11, hkk11, h⟩ := kE h
    have Jk11 : ∀ (μ10 : Mem), k11 μ10 = some (r, μ') → Vj p l e R s m args below meth c w 4 0 0 (MQ below (QI w r μ') args s 0 0 w.2.2.2) 37 [some (.ref (wad w 3 0)), some (.int a1), none, none] [] μ10 := by
      clear h
      intro μ10 h
      rw [hkk11] at h
      clear hkk11
      refine V_aload_n (i := 0) G eX3_unit_37 rfl rfl ?_
      refine V_get (v := .ref (wad w 9 0)) G fgX3_9 rfl eX3_unit_38 ?_
      obtain ⟨⟨x12, μ13⟩, h1, h⟩ := bdS h
      refine V_callI (As := []) (st := []) G lkX3_37 (Tape_look_ok h1) (by omega) rfl rfl (Nat.le_of_ble_eq_true rfl) eX3_unit_41 ?_
      obtain ⟨x14, h1, h⟩ := bdS h
      refine V_callIS (As := [.int x12]) (st := []) G lkX3_50 (LawReader_comparing_ok (μ := μ13) h1) (by omega) rfl rfl (Nat.le_of_ble_eq_true rfl) eX3_unit_44 ?_
      refine V_istoreA_n (i := 3) (L' := [some (.ref (wad w 3 0)), some (.int a1), none, some (.int x14)]) G rfl eX3_unit_47 (by decide) rfl rfl ?_
      refine V_iload_n (i := 3) G eX3_unit_48 rfl rfl ?_
      refine V_iconst (n := -1) (v := (-1)) G eX3_unit_49 rfl ?_
      refine V_icmp_ne G eX3_unit_50 h (fun h => ?_) (fun h => ?_)
      · refine V_aload_n (i := 0) G eX3_unit_61 rfl rfl ?_
        refine V_get (v := .ref (wad w 9 0)) G fgX3_9 rfl eX3_unit_62 ?_
        obtain ⟨μ15, h1, h⟩ := bdS h
        refine V_callV (As := []) (st := []) G lkX3_80 (Tape_step_ok h1) (by omega) rfl rfl (Nat.le_of_ble_eq_true rfl) eX3_unit_65 ?_
        refine V_aload_n (i := 0) G eX3_unit_68 rfl rfl ?_
        refine V_iload_n (i := 1) G eX3_unit_69 rfl rfl ?_
        obtain ⟨⟨x16, μ17⟩, h1, h⟩ := bdS h
        refine V_callI (As := [.int a1]) (st := []) G lkX3_47 (LawReader_sum_ok h1) (by unfold RF; omega) rfl rfl (Nat.le_of_ble_eq_true rfl) eX3_unit_70 ?_
        refine V_if_ne G eX3_unit_73 h (fun h => ?_) (fun h => ?_)
        · refine V_aload_n (i := 0) G eX3_unit_78 rfl rfl ?_
          refine V_get (v := .ref (wad w 4 0)) G fgX3_15 rfl eX3_unit_79 ?_
          refine V_iload_n (i := 3) G eX3_unit_82 rfl rfl ?_
          obtain ⟨μ18, h1, h⟩ := bdS h
          refine V_callV (As := [.int x14]) (st := []) G lkX3_54 (Laws_emit_ok h1) (by omega) rfl rfl (Nat.le_of_ble_eq_true rfl) eX3_unit_83 ?_
          refine V_iconst (n := 1) (v := (nI 1)) G eX3_unit_86 rfl ?_
          exact V_rzM G hr eX3_unit_87 h
        · refine V_iconst (n := 0) (v := (nI 0)) G eX3_unit_76 rfl ?_
          exact V_rzM G hr eX3_unit_77 h
      · refine V_aload_n (i := 0) G eX3_unit_53 rfl rfl ?_
        refine V_get (v := .ref (wad w 9 0)) G fgX3_9 rfl eX3_unit_54 ?_
        obtain ⟨⟨x19, μ20⟩, h1, h⟩ := bdS h
        refine V_callI (As := []) (st := []) G lkX3_41 (Tape_wrongHere_ok h1) (by omega) rfl rfl (Nat.le_of_ble_eq_true rfl) eX3_unit_57 ?_
        exact V_rzM G hr eX3_unit_60 h
    refine V_if_ne G eX3_unit_24 h (fun h => ?_) (fun h => ?_)
    · exact V_sub (lS_s (lS_s (lS_n (lS_n lS_0)))) (Jk11 _ h)
    · refine V_aload_n (i := 0) G eX3_unit_27 rfl rfl ?_
      refine V_iload_n (i := 1) G eX3_unit_28 rfl rfl ?_
      obtain ⟨⟨x8, μ9⟩, h1, h⟩ := bdS h
      refine V_callI (As := [.int a1]) (st := []) G lkX3_47 (LawReader_sum_ok h1) (by unfold RF; omega) rfl rfl (Nat.le_of_ble_eq_true rfl) eX3_unit_29 ?_
      refine V_if_ne G eX3_unit_32 h (fun h => ?_) (fun h => ?_)
      · exact V_sub (lS_s (lS_s (lS_n (lS_n lS_0)))) (Jk11 _ h)
      · refine V_iconst (n := 0) (v := (nI 0)) G eX3_unit_35 rfl ?_
        exact V_rzM G hr eX3_unit_36 h
  refine V_if_ne G eX3_unit_1 h (fun h => ?_) (fun h => ?_)
  · exact (Jk7 _ h)
  · refine V_aload_n (i := 0) G eX3_unit_4 rfl rfl ?_
    refine V_get (v := .ref (wad w 9 0)) G fgX3_9 rfl eX3_unit_5 ?_
    obtain ⟨⟨x1, μ2⟩, h1, h⟩ := bdS h
    refine V_callI (As := []) (st := []) G lkX3_37 (Tape_look_ok h1) (by omega) rfl rfl (Nat.le_of_ble_eq_true rfl) eX3_unit_8 ?_
    obtain ⟨x3, h1, h⟩ := bdS h
    refine V_callIS (As := [.int x1]) (st := []) G lkX3_44 (LawReader_opensUnit_ok (μ := μ2) h1) (by omega) rfl rfl (Nat.le_of_ble_eq_true rfl) eX3_unit_11 ?_
    refine V_if_eq G eX3_unit_14 h (fun h => ?_) (fun h => ?_)
    · exact (Jk7 _ h)
    · refine V_aload_n (i := 0) G eX3_unit_17 rfl rfl ?_
      refine V_iload_n (i := 1) G eX3_unit_18 rfl rfl ?_
      obtain ⟨⟨x4, μ5⟩, h1, h⟩ := bdS h
      refine V_callI (As := [.int a1]) (st := []) G lkX3_77 (ih_LawReader_opened h1) (by omega) rfl rfl (Nat.le_of_ble_eq_true rfl) eX3_unit_19 ?_
      exact V_rzM G hr eX3_unit_22 h
set_option maxRecDepth 100000 in
set_option maxHeartbeats 4000000 in
theorem LawReader_opened_B_run {p : Program} {l : Launch} {e : Env} {R : Room} {s : State} {m : MethodId} {args : Array Value} {below : List Frame} {meth : Method} {c : Code} {w : Wld} {lv : Nat} (hlv : 63 ≤ lv) (G : Cxt p R s m args meth c w cX3_opened 2 "PotBook$LawReader" (lv + 1) 0 0) (hr : meth.sig.returnType = some .boolean) {r_LawReader_condition : Int32 → Int32 → Mem → Option (Int32 × Mem)} {r_LawReader_unit : Int32 → Int32 → Mem → Option (Int32 × Mem)} (ih_LawReader_condition : ∀ {a1 : Int32} {a2 : Int32} {μ : Mem} {r : Int32} {μ' : Mem}, r_LawReader_condition a1 a2 μ = some (r, μ') → CtI l w yX3_condition cX3_condition 4 .boolean lv [.ref (wad w 3 0), .int a1, .int a2] μ r μ') (ih_LawReader_unit : ∀ {a1 : Int32} {a2 : Int32} {μ : Mem} {r : Int32} {μ' : Mem}, r_LawReader_unit a1 a2 μ = some (r, μ') → CtI l w yX3_unit cX3_unit 4 .boolean lv [.ref (wad w 3 0), .int a1, .int a2] μ r μ') {a1 : Int32} {μ : Mem} {r : Int32} {μ' : Mem} (h : LawReader_opened_B r_LawReader_condition r_LawReader_unit a1 μ = some (r, μ')) : Vj p l e R s m args below meth c w 2 0 0 (MQ below (QI w r μ') args s 0 0 w.2.2.2) 0 [some (.ref (wad w 3 0)), some (.int a1)] [] μ := by
  unfold LawReader_opened_B at h
  refine V_iload_n (i := 1) G eX3_opened_0 rfl rfl ?_
  refine V_bipush (n := 6) (v := (nI 6)) G eX3_opened_1 rfl ?_
  refine V_icmp_lt G eX3_opened_3 h (fun h => ?_) (fun h => ?_)
  · refine V_aload_n (i := 0) G eX3_opened_14 rfl rfl ?_
    refine V_get (v := .ref (wad w 9 0)) G fgX3_9 rfl eX3_opened_15 ?_
    refine V_bipush (n := 40) (v := (nI 40)) G eX3_opened_18 rfl ?_
    obtain ⟨⟨x1, μ2⟩, h1, h⟩ := bdS h
    refine V_callI (As := [.int (nI 40)]) (st := []) G lkX3_33 (Tape_takes_ok h1) (by omega) rfl rfl (Nat.le_of_ble_eq_true rfl) eX3_opened_20 ?_
    refine V_if_eq G eX3_opened_23 h (fun h => ?_) (fun h => ?_)
    · refine V_aload_n (i := 0) G eX3_opened_65 rfl rfl ?_
      refine V_get (v := .ref (wad w 9 0)) G fgX3_9 rfl eX3_opened_66 ?_
      obtain ⟨μ3, h1, h⟩ := bdS h
      refine V_callV (As := []) (st := []) G lkX3_80 (Tape_step_ok h1) (by omega) rfl rfl (Nat.le_of_ble_eq_true rfl) eX3_opened_69 ?_
      refine V_aload_n (i := 0) G eX3_opened_72 rfl rfl ?_
      refine V_iload_n (i := 1) G eX3_opened_73 rfl rfl ?_
      refine V_iconst (n := 1) (v := (nI 1)) G eX3_opened_74 rfl ?_
      refine V_iadd G eX3_opened_75 ?_
      refine V_iconst (n := 0) (v := (nI 0)) G eX3_opened_76 rfl ?_
      obtain ⟨⟨x4, μ5⟩, h1, h⟩ := bdS h
      refine V_callI (As := [.int (a1 + (nI 1)), .int (nI 0)]) (st := []) G lkX3_74 (ih_LawReader_unit h1) (by omega) rfl rfl (Nat.le_of_ble_eq_true rfl) eX3_opened_77 ?_
      refine V_if_ne G eX3_opened_80 h (fun h => ?_) (fun h => ?_)
      · refine V_aload_n (i := 0) G eX3_opened_85 rfl rfl ?_
        refine V_get (v := .ref (wad w 4 0)) G fgX3_15 rfl eX3_opened_86 ?_
        refine V_sipush (n := 10109) (v := (nI 10109)) G eX3_opened_89 rfl ?_
        obtain ⟨μ6, h1, h⟩ := bdS h
        refine V_callV (As := [.int (nI 10109)]) (st := []) G lkX3_54 (Laws_emit_ok h1) (by omega) rfl rfl (Nat.le_of_ble_eq_true rfl) eX3_opened_92 ?_
        refine V_iconst (n := 1) (v := (nI 1)) G eX3_opened_95 rfl ?_
        exact V_rzM G hr eX3_opened_96 h
      · refine V_iconst (n := 0) (v := (nI 0)) G eX3_opened_83 rfl ?_
        exact V_rzM G hr eX3_opened_84 h
    · refine V_aload_n (i := 0) G eX3_opened_26 rfl rfl ?_
      refine V_iload_n (i := 1) G eX3_opened_27 rfl rfl ?_
      refine V_iconst (n := 1) (v := (nI 1)) G eX3_opened_28 rfl ?_
      refine V_iadd G eX3_opened_29 ?_
      refine V_iconst (n := 0) (v := (nI 0)) G eX3_opened_30 rfl ?_
      obtain ⟨⟨x7, μ8⟩, h1, h⟩ := bdS h
      refine V_callI (As := [.int (a1 + (nI 1)), .int (nI 0)]) (st := []) G lkX3_58 (ih_LawReader_condition h1) (by omega) rfl rfl (Nat.le_of_ble_eq_true rfl) eX3_opened_31 ?_
      refine V_if_eq G eX3_opened_34 h (fun h => ?_) (fun h => ?_)
      · refine V_iconst (n := 0) (v := (nI 0)) G eX3_opened_63 rfl ?_
        exact V_rzM G hr eX3_opened_64 h
      · refine V_aload_n (i := 0) G eX3_opened_37 rfl rfl ?_
        refine V_get (v := .ref (wad w 9 0)) G fgX3_9 rfl eX3_opened_38 ?_
        refine V_bipush (n := 41) (v := (nI 41)) G eX3_opened_41 rfl ?_
        obtain ⟨⟨x9, μ10⟩, h1, h⟩ := bdS h
        refine V_callI (As := [.int (nI 41)]) (st := []) G lkX3_33 (Tape_takes_ok h1) (by omega) rfl rfl (Nat.le_of_ble_eq_true rfl) eX3_opened_43 ?_
        refine V_if_ne G eX3_opened_46 h (fun h => ?_) (fun h => ?_)
        · refine V_iconst (n := 1) (v := (nI 1)) G eX3_opened_59 rfl ?_
          refine V_goto G eX3_opened_60 ?_
          exact V_rzM G hr eX3_opened_64 h
        · refine V_aload_n (i := 0) G eX3_opened_49 rfl rfl ?_
          refine V_get (v := .ref (wad w 9 0)) G fgX3_9 rfl eX3_opened_50 ?_
          obtain ⟨⟨x11, μ12⟩, h1, h⟩ := bdS h
          refine V_callI (As := []) (st := []) G lkX3_41 (Tape_wrongHere_ok h1) (by omega) rfl rfl (Nat.le_of_ble_eq_true rfl) eX3_opened_53 ?_
          refine V_if_eq G eX3_opened_56 h (fun h => ?_) (fun h => ?_)
          · refine V_iconst (n := 0) (v := (nI 0)) G eX3_opened_63 rfl ?_
            exact V_rzM G hr eX3_opened_64 h
          · refine V_iconst (n := 1) (v := (nI 1)) G eX3_opened_59 rfl ?_
            refine V_goto G eX3_opened_60 ?_
            exact V_rzM G hr eX3_opened_64 h
  · refine V_aload_n (i := 0) G eX3_opened_6 rfl rfl ?_
    refine V_get (v := .ref (wad w 9 0)) G fgX3_9 rfl eX3_opened_7 ?_
    obtain ⟨⟨x13, μ14⟩, h1, h⟩ := bdS h
    refine V_callI (As := []) (st := []) G lkX3_41 (Tape_wrongHere_ok h1) (by omega) rfl rfl (Nat.le_of_ble_eq_true rfl) eX3_opened_10 ?_
    exact V_rzM G hr eX3_opened_13 h
set_option maxRecDepth 100000 in
set_option maxHeartbeats 4000000 in
theorem G_LawReader_condition_ok {l : Launch} {w : Wld} : ∀ n : Nat, (∀ {a1 : Int32} {a2 : Int32} {μ : Mem} {r : Int32} {μ' : Mem}, LawReader_condition n a1 a2 μ = some (r, μ') → CtI l w yX3_condition cX3_condition 4 .boolean (63 + n) [.ref (wad w 3 0), .int a1, .int a2] μ r μ') ∧ (∀ {a1 : Int32} {a2 : Int32} {μ : Mem} {r : Int32} {μ' : Mem}, LawReader_truth n a1 a2 μ = some (r, μ') → CtI l w yX3_truth cX3_truth 4 .boolean (63 + n) [.ref (wad w 3 0), .int a1, .int a2] μ r μ') ∧ (∀ {a1 : Int32} {a2 : Int32} {μ : Mem} {r : Int32} {μ' : Mem}, LawReader_unit n a1 a2 μ = some (r, μ') → CtI l w yX3_unit cX3_unit 4 .boolean (63 + n) [.ref (wad w 3 0), .int a1, .int a2] μ r μ') ∧ (∀ {a1 : Int32} {μ : Mem} {r : Int32} {μ' : Mem}, LawReader_opened n a1 μ = some (r, μ') → CtI l w yX3_opened cX3_opened 2 .boolean (63 + n) [.ref (wad w 3 0), .int a1] μ r μ') := by
  intro n
  induction n with
  | zero => exact ⟨fun h => noS h, fun h => noS h, fun h => noS h, fun h => noS h⟩
  | succ n ih =>
    obtain ⟨ih_LawReader_condition, ih_LawReader_truth, ih_LawReader_unit, ih_LawReader_opened⟩ := ih
    refine ⟨?_, ?_, ?_, ?_⟩
    · intro a1 a2 μ r μ' h
      rw [LawReader_condition_s] at h
      exact Ct_of (own := "PotBook$LawReader") [some (.ref (wad w 3 0)), some (.int a1), some (.int a2), none] (by decide +kernel) rfl rfl (Nat.le_of_ble_eq_true rfl) fun p e s m args below meth c G hr => LawReader_condition_B_run (lv := 63 + n) (by omega) G hr ih_LawReader_truth h
    · intro a1 a2 μ r μ' h
      rw [LawReader_truth_s] at h
      exact Ct_of (own := "PotBook$LawReader") [some (.ref (wad w 3 0)), some (.int a1), some (.int a2), none] (by decide +kernel) rfl rfl (Nat.le_of_ble_eq_true rfl) fun p e s m args below meth c G hr => LawReader_truth_B_run (lv := 63 + n) (by omega) G hr ih_LawReader_unit h
    · intro a1 a2 μ r μ' h
      rw [LawReader_unit_s] at h
      exact Ct_of (own := "PotBook$LawReader") [some (.ref (wad w 3 0)), some (.int a1), some (.int a2), none] (by decide +kernel) rfl rfl (Nat.le_of_ble_eq_true rfl) fun p e s m args below meth c G hr => LawReader_unit_B_run (lv := 63 + n) (by omega) G hr ih_LawReader_opened h
    · intro a1 μ r μ' h
      rw [LawReader_opened_s] at h
      exact Ct_of (own := "PotBook$LawReader") [some (.ref (wad w 3 0)), some (.int a1)] (by decide +kernel) rfl rfl (Nat.le_of_ble_eq_true rfl) fun p e s m args below meth c G hr => LawReader_opened_B_run (lv := 63 + n) (by omega) G hr ih_LawReader_condition ih_LawReader_unit h

theorem LawReader_condition_ok {l : Launch} {w : Wld} {a1 : Int32} {a2 : Int32} {μ : Mem} {r : Int32} {μ' : Mem} (h : LawReader_condition RF a1 a2 μ = some (r, μ')) : CtI l w yX3_condition cX3_condition 4 .boolean (63 + RF) [.ref (wad w 3 0), .int a1, .int a2] μ r μ' := (G_LawReader_condition_ok RF).1 h
theorem LawReader_truth_ok {l : Launch} {w : Wld} {a1 : Int32} {a2 : Int32} {μ : Mem} {r : Int32} {μ' : Mem} (h : LawReader_truth RF a1 a2 μ = some (r, μ')) : CtI l w yX3_truth cX3_truth 4 .boolean (63 + RF) [.ref (wad w 3 0), .int a1, .int a2] μ r μ' := (G_LawReader_condition_ok RF).2.1 h
theorem LawReader_unit_ok {l : Launch} {w : Wld} {a1 : Int32} {a2 : Int32} {μ : Mem} {r : Int32} {μ' : Mem} (h : LawReader_unit RF a1 a2 μ = some (r, μ')) : CtI l w yX3_unit cX3_unit 4 .boolean (63 + RF) [.ref (wad w 3 0), .int a1, .int a2] μ r μ' := (G_LawReader_condition_ok RF).2.2.1 h
theorem LawReader_opened_ok {l : Launch} {w : Wld} {a1 : Int32} {μ : Mem} {r : Int32} {μ' : Mem} (h : LawReader_opened RF a1 μ = some (r, μ')) : CtI l w yX3_opened cX3_opened 2 .boolean (63 + RF) [.ref (wad w 3 0), .int a1] μ r μ' := (G_LawReader_condition_ok RF).2.2.2 h
set_option maxRecDepth 100000 in
set_option maxHeartbeats 4000000 in
theorem Laws_length_run {p : Program} {l : Launch} {e : Env} {R : Room} {s : State} {m : MethodId} {args : Array Value} {below : List Frame} {meth : Method} {c : Code} {w : Wld} (G : Cxt p R s m args meth c w cX4_length 1 "PotBook$Laws" 1 0 0) (hr : meth.sig.returnType = some .int) {μ : Mem} {r : Int32} (h : Laws_length μ = some r) : Vj p l e R s m args below meth c w 1 0 0 (MQ below (QI w r μ) args s 0 0 w.2.2.2) 0 [some (.ref (wad w 4 0))] [] μ := by
  unfold Laws_length at h
  refine V_aload_n (i := 0) G eX4_length_0 rfl rfl ?_
  refine V_get (v := .ref (wad w 501 0)) G fgX4_16 rfl eX4_length_1 ?_
  refine V_aload_n (i := 0) G eX4_length_4 rfl rfl ?_
  refine V_get (v := .int (mI μ 504 0 0)) G fgX4_33 rfl eX4_length_5 ?_
  refine V_iald G al_501 (by decide) eX4_length_8 h (fun x1 h => ?_)
  exact V_ri G hr eX4_length_9 h
theorem Laws_length_ok {l : Launch} {w : Wld} {μ : Mem} {r : Int32} (h : Laws_length μ = some r) : CtI l w yX4_length cX4_length 1 .int 1 [.ref (wad w 4 0)] μ r μ :=
  Ct_of (own := "PotBook$Laws") [some (.ref (wad w 4 0))] (by decide +kernel) rfl rfl (Nat.le_of_ble_eq_true rfl) fun p e s m args below meth c G hr => Laws_length_run G hr h
set_option maxRecDepth 100000 in
set_option maxHeartbeats 4000000 in
theorem Laws_aim_run {p : Program} {l : Launch} {e : Env} {R : Room} {s : State} {m : MethodId} {args : Array Value} {below : List Frame} {meth : Method} {c : Code} {w : Wld} (G : Cxt p R s m args meth c w cX4_aim 2 "PotBook$Laws" 1 0 0) (hr : meth.sig.returnType = none) {a1 : Int32} {μ : Mem} {μ' : Mem} (h : Laws_aim a1 μ = some μ') : Vj p l e R s m args below meth c w 2 0 0 (MQ below (QV w μ') args s 0 0 w.2.2.2) 0 [some (.ref (wad w 4 0)), some (.int a1)] [] μ := by
  unfold Laws_aim at h
  refine V_iload_n (i := 1) G eX4_aim_0 rfl rfl ?_
  refine V_if_lt G eX4_aim_1 h (fun h => ?_) (fun h => ?_)
  · exact V_rvM G hr eX4_aim_37 h
  · refine V_iload_n (i := 1) G eX4_aim_4 rfl rfl ?_
    refine V_aload_n (i := 0) G eX4_aim_5 rfl rfl ?_
    refine V_get (v := .ref (wad w 501 0)) G fgX4_16 rfl eX4_aim_6 ?_
    refine V_aload_n (i := 0) G eX4_aim_9 rfl rfl ?_
    refine V_get (v := .int (mI μ 504 0 0)) G fgX4_33 rfl eX4_aim_10 ?_
    refine V_iald G al_501 (by decide) eX4_aim_13 h (fun x1 h => ?_)
    refine V_icmp_ge G eX4_aim_14 h (fun h => ?_) (fun h => ?_)
    · exact V_rvM G hr eX4_aim_37 h
    · refine V_aload_n (i := 0) G eX4_aim_17 rfl rfl ?_
      refine V_get (v := .ref (wad w 10500 0)) G fgX4_11 rfl eX4_aim_18 ?_
      refine V_aload_n (i := 0) G eX4_aim_21 rfl rfl ?_
      refine V_get (v := .int (mI μ 504 0 0)) G fgX4_33 rfl eX4_aim_22 ?_
      refine V_aaldI (id := 500) G al_10500 eX4_aim_25 h (fun r2 hr2 h => ?_)
      refine V_iload_n (i := 1) G eX4_aim_26 rfl rfl ?_
      refine V_aload_n (i := 0) G eX4_aim_27 rfl rfl ?_
      refine V_get (v := .ref (wad w 501 0)) G fgX4_16 rfl eX4_aim_28 ?_
      refine V_aload_n (i := 0) G eX4_aim_31 rfl rfl ?_
      refine V_get (v := .int (mI μ 504 0 0)) G fgX4_33 rfl eX4_aim_32 ?_
      refine V_iald G al_501 (by decide) eX4_aim_35 h (fun x3 h => ?_)
      refine V_iast G al_500 hr2 eX4_aim_36 h (fun μ4 h => ?_)
      exact V_rvM G hr eX4_aim_37 h
theorem Laws_aim_ok {l : Launch} {w : Wld} {a1 : Int32} {μ : Mem} {μ' : Mem} (h : Laws_aim a1 μ = some μ') : CtV l w yX4_aim cX4_aim 2 1 [.ref (wad w 4 0), .int a1] μ μ' :=
  Ct_of (own := "PotBook$Laws") [some (.ref (wad w 4 0)), some (.int a1)] (by decide +kernel) rfl rfl (Nat.le_of_ble_eq_true rfl) fun p e s m args below meth c G hr => Laws_aim_run G hr h
set_option maxRecDepth 100000 in
set_option maxHeartbeats 4000000 in
theorem LawReader_conditioned_run {p : Program} {l : Launch} {e : Env} {R : Room} {s : State} {m : MethodId} {args : Array Value} {below : List Frame} {meth : Method} {c : Code} {w : Wld} (G : Cxt p R s m args meth c w cX3_conditioned 2 "PotBook$LawReader" 64 0 0) (hr : meth.sig.returnType = some .boolean) {μ : Mem} {r : Int32} {μ' : Mem} (h : LawReader_conditioned μ = some (r, μ')) : Vj p l e R s m args below meth c w 2 0 0 (MQ below (QI w r μ') args s 0 0 w.2.2.2) 0 [some (.ref (wad w 3 0)), none] [] μ := by
  unfold LawReader_conditioned at h
  refine V_aload_n (i := 0) G eX3_conditioned_0 rfl rfl ?_
  refine V_get (v := .ref (wad w 9 0)) G fgX3_9 rfl eX3_conditioned_1 ?_
  refine V_bipush (n := 63) (v := (nI 63)) G eX3_conditioned_4 rfl ?_
  obtain ⟨⟨x1, μ2⟩, h1, h⟩ := bdS h
  refine V_callI (As := [.int (nI 63)]) (st := []) G lkX3_33 (Tape_takes_ok h1) (by decide) rfl rfl (Nat.le_of_ble_eq_true rfl) eX3_conditioned_6 ?_
  refine V_if_ne G eX3_conditioned_9 h (fun h => ?_) (fun h => ?_)
  · refine V_aload_n (i := 0) G eX3_conditioned_20 rfl rfl ?_
    refine V_get (v := .ref (wad w 4 0)) G fgX3_15 rfl eX3_conditioned_21 ?_
    refine V_sipush (n := 10110) (v := (nI 10110)) G eX3_conditioned_24 rfl ?_
    obtain ⟨μ3, h1, h⟩ := bdS h
    refine V_callV (As := [.int (nI 10110)]) (st := []) G lkX3_54 (Laws_emit_ok h1) (by decide) rfl rfl (Nat.le_of_ble_eq_true rfl) eX3_conditioned_27 ?_
    refine V_aload_n (i := 0) G eX3_conditioned_30 rfl rfl ?_
    refine V_get (v := .ref (wad w 4 0)) G fgX3_15 rfl eX3_conditioned_31 ?_
    obtain ⟨x4, h1, h⟩ := bdS h
    refine V_callI (As := []) (st := []) G lkX3_65 (Laws_length_ok h1) (by decide) rfl rfl (Nat.le_of_ble_eq_true rfl) eX3_conditioned_34 ?_
    refine V_istoreA_n (i := 1) (L' := [some (.ref (wad w 3 0)), some (.int x4)]) G rfl eX3_conditioned_37 (by decide) rfl rfl ?_
    refine V_aload_n (i := 0) G eX3_conditioned_38 rfl rfl ?_
    refine V_get (v := .ref (wad w 4 0)) G fgX3_15 rfl eX3_conditioned_39 ?_
    refine V_iconst (n := 0) (v := (nI 0)) G eX3_conditioned_42 rfl ?_
    obtain ⟨μ5, h1, h⟩ := bdS h
    refine V_callV (As := [.int (nI 0)]) (st := []) G lkX3_54 (Laws_emit_ok h1) (by decide) rfl rfl (Nat.le_of_ble_eq_true rfl) eX3_conditioned_43 ?_
    refine V_aload_n (i := 0) G eX3_conditioned_46 rfl rfl ?_
    refine V_iconst (n := 0) (v := (nI 0)) G eX3_conditioned_47 rfl ?_
    obtain ⟨⟨x6, μ7⟩, h1, h⟩ := bdS h
    refine V_callI (As := [.int (nI 0)]) (st := []) G lkX3_47 (LawReader_sum_ok h1) (by decide) rfl rfl (Nat.le_of_ble_eq_true rfl) eX3_conditioned_48 ?_
    refine V_if_ne G eX3_conditioned_51 h (fun h => ?_) (fun h => ?_)
    · refine V_aload_n (i := 0) G eX3_conditioned_56 rfl rfl ?_
      refine V_get (v := .ref (wad w 4 0)) G fgX3_15 rfl eX3_conditioned_57 ?_
      refine V_sipush (n := 10111) (v := (nI 10111)) G eX3_conditioned_60 rfl ?_
      obtain ⟨μ8, h1, h⟩ := bdS h
      refine V_callV (As := [.int (nI 10111)]) (st := []) G lkX3_54 (Laws_emit_ok h1) (by decide) rfl rfl (Nat.le_of_ble_eq_true rfl) eX3_conditioned_63 ?_
      refine V_aload_n (i := 0) G eX3_conditioned_66 rfl rfl ?_
      refine V_get (v := .ref (wad w 4 0)) G fgX3_15 rfl eX3_conditioned_67 ?_
      refine V_iload_n (i := 1) G eX3_conditioned_70 rfl rfl ?_
      obtain ⟨μ9, h1, h⟩ := bdS h
      refine V_callV (As := [.int x4]) (st := []) G lkX3_68 (Laws_aim_ok h1) (by decide) rfl rfl (Nat.le_of_ble_eq_true rfl) eX3_conditioned_71 ?_
      refine V_iconst (n := 1) (v := (nI 1)) G eX3_conditioned_74 rfl ?_
      exact V_rzM G hr eX3_conditioned_75 h
    · refine V_iconst (n := 0) (v := (nI 0)) G eX3_conditioned_54 rfl ?_
      exact V_rzM G hr eX3_conditioned_55 h
  · refine V_aload_n (i := 0) G eX3_conditioned_12 rfl rfl ?_
    refine V_get (v := .ref (wad w 9 0)) G fgX3_9 rfl eX3_conditioned_13 ?_
    obtain ⟨⟨x10, μ11⟩, h1, h⟩ := bdS h
    refine V_callI (As := []) (st := []) G lkX3_41 (Tape_wrongHere_ok h1) (by decide) rfl rfl (Nat.le_of_ble_eq_true rfl) eX3_conditioned_16 ?_
    exact V_rzM G hr eX3_conditioned_19 h
theorem LawReader_conditioned_ok {l : Launch} {w : Wld} {μ : Mem} {r : Int32} {μ' : Mem} (h : LawReader_conditioned μ = some (r, μ')) : CtI l w yX3_conditioned cX3_conditioned 2 .boolean 64 [.ref (wad w 3 0)] μ r μ' :=
  Ct_of (own := "PotBook$LawReader") [some (.ref (wad w 3 0)), none] (by decide +kernel) rfl rfl (Nat.le_of_ble_eq_true rfl) fun p e s m args below meth c G hr => LawReader_conditioned_run G hr h
set_option maxRecDepth 100000 in
set_option maxHeartbeats 4000000 in
theorem LawReader_clause_run {p : Program} {l : Launch} {e : Env} {R : Room} {s : State} {m : MethodId} {args : Array Value} {below : List Frame} {meth : Method} {c : Code} {w : Wld} (G : Cxt p R s m args meth c w cX3_clause 2 "PotBook$LawReader" 125 0 0) (hr : meth.sig.returnType = some .boolean) {μ : Mem} {r : Int32} {μ' : Mem} (h : LawReader_clause μ = some (r, μ')) : Vj p l e R s m args below meth c w 2 0 0 (MQ below (QI w r μ') args s 0 0 w.2.2.2) 0 [some (.ref (wad w 3 0)), none] [] μ := by
  unfold LawReader_clause at h
  refine V_aload_n (i := 0) G eX3_clause_0 rfl rfl ?_
  refine V_get (v := .ref (wad w 9 0)) G fgX3_9 rfl eX3_clause_1 ?_
  refine V_bipush (n := 121) (v := (nI 121)) G eX3_clause_4 rfl ?_
  obtain ⟨⟨x1, μ2⟩, h1, h⟩ := bdS h
  refine V_callI (As := [.int (nI 121)]) (st := []) G lkX3_33 (Tape_takes_ok h1) (by decide) rfl rfl (Nat.le_of_ble_eq_true rfl) eX3_clause_6 ?_
  refine V_if_eq G eX3_clause_9 h (fun h => ?_) (fun h => ?_)
  · refine V_aload_n (i := 0) G eX3_clause_24 rfl rfl ?_
    refine V_get (v := .ref (wad w 9 0)) G fgX3_9 rfl eX3_clause_25 ?_
    obtain ⟨⟨x3, μ4⟩, h1, h⟩ := bdS h
    refine V_callI (As := []) (st := []) G lkX3_41 (Tape_wrongHere_ok h1) (by decide) rfl rfl (Nat.le_of_ble_eq_true rfl) eX3_clause_28 ?_
    exact V_rzM G hr eX3_clause_31 h
  · refine V_aload_n (i := 0) G eX3_clause_12 rfl rfl ?_
    refine V_get (v := .ref (wad w 9 0)) G fgX3_9 rfl eX3_clause_13 ?_
    refine V_bipush (n := 58) (v := (nI 58)) G eX3_clause_16 rfl ?_
    obtain ⟨⟨x5, μ6⟩, h1, h⟩ := bdS h
    refine V_callI (As := [.int (nI 58)]) (st := []) G lkX3_33 (Tape_takes_ok h1) (by decide) rfl rfl (Nat.le_of_ble_eq_true rfl) eX3_clause_18 ?_
    refine V_if_ne G eX3_clause_21 h (fun h => ?_) (fun h => ?_)
    · refine V_aload_n (i := 0) G eX3_clause_32 rfl rfl ?_
      refine V_get (v := .ref (wad w 9 0)) G fgX3_9 rfl eX3_clause_33 ?_
      obtain ⟨⟨x7, μ8⟩, h1, h⟩ := bdS h
      refine V_callI (As := []) (st := []) G lkX3_37 (Tape_look_ok h1) (by decide) rfl rfl (Nat.le_of_ble_eq_true rfl) eX3_clause_36 ?_
      obtain ⟨x9, h1, h⟩ := bdS h
      refine V_callIS (As := [.int x7]) (st := []) G lkX3_44 (LawReader_opensUnit_ok (μ := μ8) h1) (by decide) rfl rfl (Nat.le_of_ble_eq_true rfl) eX3_clause_39 ?_
      refine V_istoreA_n (i := 1) (L' := [some (.ref (wad w 3 0)), some (.int x9)]) G rfl eX3_clause_42 (by decide) rfl rfl ?_
      refine V_iload_n (i := 1) G eX3_clause_43 rfl rfl ?_
      obtain ⟨k17, hkk17, h⟩ := kE h
      have Jk17 : ∀ (μ16 : Mem), k17 μ16 = some (r, μ') → Vj p l e R s m args below meth c w 2 0 0 (MQ below (QI w r μ') args s 0 0 w.2.2.2) 83 [some (.ref (wad w 3 0)), some (.int x9)] [] μ16 := by
        clear h
        intro μ16 h
        rw [hkk17] at h
        clear hkk17
        refine V_aload_n (i := 0) G eX3_clause_83 rfl rfl ?_
        refine V_iconst (n := 0) (v := (nI 0)) G eX3_clause_84 rfl ?_
        refine V_iload_n (i := 1) G eX3_clause_85 rfl rfl ?_
        obtain ⟨x18, hj, h⟩ := bdS h
        have J : Vj p l e R s m args below meth c w 2 0 0 (MQ below (QI w r μ') args s 0 0 w.2.2.2) 94 [some (.ref (wad w 3 0)), none] [.int x18, .int (nI 0), .ref (wad w 3 0)] μ16 := by
          clear hj
          obtain ⟨⟨x19, μ20⟩, h1, h⟩ := bdS h
          refine V_callI (As := [.int (nI 0), .int x18]) (st := []) G lkX3_58 (LawReader_condition_ok h1) (by decide) rfl rfl (Nat.le_of_ble_eq_true rfl) eX3_clause_94 ?_
          refine V_if_eq G eX3_clause_97 h (fun h => ?_) (fun h => ?_)
          · refine V_iconst (n := 0) (v := (nI 0)) G eX3_clause_111 rfl ?_
            exact V_rzM G hr eX3_clause_112 h
          · refine V_aload_n (i := 0) G eX3_clause_100 rfl rfl ?_
            obtain ⟨⟨x21, μ22⟩, h1, h⟩ := bdS h
            refine V_callI (As := []) (st := []) G lkX3_62 (LawReader_conditioned_ok h1) (by decide) rfl rfl (Nat.le_of_ble_eq_true rfl) eX3_clause_101 ?_
            refine V_if_eq G eX3_clause_104 h (fun h => ?_) (fun h => ?_)
            · refine V_iconst (n := 0) (v := (nI 0)) G eX3_clause_111 rfl ?_
              exact V_rzM G hr eX3_clause_112 h
            · refine V_iconst (n := 1) (v := (nI 1)) G eX3_clause_107 rfl ?_
              refine V_goto G eX3_clause_108 ?_
              exact V_rzM G hr eX3_clause_112 h
        replace h := hj
        clear hj
        refine V_if_ne G eX3_clause_86 h (fun h => ?_) (fun h => ?_)
        · refine V_iconst (n := 0) (v := (nI 0)) G eX3_clause_93 rfl ?_
          cases h; exact V_sub (lS_s (lS_n lS_0)) J
        · refine V_iconst (n := 1) (v := (nI 1)) G eX3_clause_89 rfl ?_
          refine V_goto G eX3_clause_90 ?_
          cases h; exact V_sub (lS_s (lS_n lS_0)) J
      refine V_if_ne G eX3_clause_44 h (fun h => ?_) (fun h => ?_)
      · exact (Jk17 _ h)
      · refine V_aload_n (i := 0) G eX3_clause_47 rfl rfl ?_
        refine V_iconst (n := 0) (v := (nI 0)) G eX3_clause_48 rfl ?_
        obtain ⟨⟨x10, μ11⟩, h1, h⟩ := bdS h
        refine V_callI (As := [.int (nI 0)]) (st := []) G lkX3_47 (LawReader_sum_ok h1) (by decide) rfl rfl (Nat.le_of_ble_eq_true rfl) eX3_clause_49 ?_
        refine V_if_ne G eX3_clause_52 h (fun h => ?_) (fun h => ?_)
        · refine V_aload_n (i := 0) G eX3_clause_57 rfl rfl ?_
          refine V_get (v := .ref (wad w 9 0)) G fgX3_9 rfl eX3_clause_58 ?_
          obtain ⟨⟨x12, μ13⟩, h1, h⟩ := bdS h
          refine V_callI (As := []) (st := []) G lkX3_37 (Tape_look_ok h1) (by decide) rfl rfl (Nat.le_of_ble_eq_true rfl) eX3_clause_61 ?_
          obtain ⟨x14, h1, h⟩ := bdS h
          refine V_callIS (As := [.int x12]) (st := []) G lkX3_50 (LawReader_comparing_ok (μ := μ13) h1) (by decide) rfl rfl (Nat.le_of_ble_eq_true rfl) eX3_clause_64 ?_
          refine V_iconst (n := -1) (v := (-1)) G eX3_clause_67 rfl ?_
          refine V_icmp_ne G eX3_clause_68 h (fun h => ?_) (fun h => ?_)
          · exact (Jk17 _ h)
          · refine V_aload_n (i := 0) G eX3_clause_71 rfl rfl ?_
            refine V_get (v := .ref (wad w 4 0)) G fgX3_15 rfl eX3_clause_72 ?_
            refine V_sipush (n := 10111) (v := (nI 10111)) G eX3_clause_75 rfl ?_
            obtain ⟨μ15, h1, h⟩ := bdS h
            refine V_callV (As := [.int (nI 10111)]) (st := []) G lkX3_54 (Laws_emit_ok h1) (by decide) rfl rfl (Nat.le_of_ble_eq_true rfl) eX3_clause_78 ?_
            refine V_iconst (n := 1) (v := (nI 1)) G eX3_clause_81 rfl ?_
            exact V_rzM G hr eX3_clause_82 h
        · refine V_iconst (n := 0) (v := (nI 0)) G eX3_clause_55 rfl ?_
          exact V_rzM G hr eX3_clause_56 h
    · refine V_aload_n (i := 0) G eX3_clause_24 rfl rfl ?_
      refine V_get (v := .ref (wad w 9 0)) G fgX3_9 rfl eX3_clause_25 ?_
      obtain ⟨⟨x23, μ24⟩, h1, h⟩ := bdS h
      refine V_callI (As := []) (st := []) G lkX3_41 (Tape_wrongHere_ok h1) (by decide) rfl rfl (Nat.le_of_ble_eq_true rfl) eX3_clause_28 ?_
      exact V_rzM G hr eX3_clause_31 h
theorem LawReader_clause_ok {l : Launch} {w : Wld} {μ : Mem} {r : Int32} {μ' : Mem} (h : LawReader_clause μ = some (r, μ')) : CtI l w yX3_clause cX3_clause 2 .boolean 125 [.ref (wad w 3 0)] μ r μ' :=
  Ct_of (own := "PotBook$LawReader") [some (.ref (wad w 3 0)), none] (by decide +kernel) rfl rfl (Nat.le_of_ble_eq_true rfl) fun p e s m args below meth c G hr => LawReader_clause_run G hr h
set_option maxRecDepth 100000 in
set_option maxHeartbeats 4000000 in
theorem LawReader_readsTape_l1_ok {p : Program} {l : Launch} {e : Env} {R : Room} {s : State} {m : MethodId} {args : Array Value} {below : List Frame} {meth : Method} {c : Code} {w : Wld} (G : Cxt p R s m args meth c w cX3_readsTape 2 "PotBook$LawReader" 126 0 0) (hr : meth.sig.returnType = some .boolean) {r : Int32} {μ' : Mem} : ∀ {n : Nat} {v1 : Int32} {μ : Mem}, LawReader_readsTape_l1 n v1 μ = some (r, μ') → Vj p l e R s m args below meth c w 2 0 0 (MQ below (QI w r μ') args s 0 0 w.2.2.2) 16 [some (.ref (wad w 3 0)), some (.int v1)] [] μ := by
  intro n
  induction n with
  | zero => intro v1 μ h; exact noS h
  | succ n ih =>
    intro v1 μ h
    replace h : LawReader_readsTape_l1b (LawReader_readsTape_l1 n) v1 μ = some (r, μ') := h
    unfold LawReader_readsTape_l1b at h
    refine V_iload_n (i := 1) G eX3_readsTape_16 rfl rfl ?_
    refine V_bipush (n := 120) (v := (nI 120)) G eX3_readsTape_17 rfl ?_
    refine V_icmp_ge G eX3_readsTape_19 h (fun h => ?_) (fun h => ?_)
    · refine V_aload_n (i := 0) G eX3_readsTape_76 rfl rfl ?_
      refine V_get (v := .ref (wad w 9 0)) G fgX3_9 rfl eX3_readsTape_77 ?_
      obtain ⟨⟨x1, μ2⟩, h1, h⟩ := bdS h
      refine V_callI (As := []) (st := []) G lkX3_41 (Tape_wrongHere_ok h1) (by decide) rfl rfl (Nat.le_of_ble_eq_true rfl) eX3_readsTape_80 ?_
      exact V_rzM G hr eX3_readsTape_83 h
    · refine V_aload_n (i := 0) G eX3_readsTape_22 rfl rfl ?_
      obtain ⟨⟨x3, μ4⟩, h1, h⟩ := bdS h
      refine V_callI (As := []) (st := []) G lkX3_29 (LawReader_clause_ok h1) (by decide) rfl rfl (Nat.le_of_ble_eq_true rfl) eX3_readsTape_23 ?_
      refine V_if_ne G eX3_readsTape_26 h (fun h => ?_) (fun h => ?_)
      · refine V_aload_n (i := 0) G eX3_readsTape_31 rfl rfl ?_
        refine V_get (v := .ref (wad w 9 0)) G fgX3_9 rfl eX3_readsTape_32 ?_
        refine V_bipush (n := 59) (v := (nI 59)) G eX3_readsTape_35 rfl ?_
        obtain ⟨⟨x5, μ6⟩, h1, h⟩ := bdS h
        refine V_callI (As := [.int (nI 59)]) (st := []) G lkX3_33 (Tape_takes_ok h1) (by decide) rfl rfl (Nat.le_of_ble_eq_true rfl) eX3_readsTape_37 ?_
        refine V_if_ne G eX3_readsTape_40 h (fun h => ?_) (fun h => ?_)
        · refine V_iinc (z := (nI 1)) (L' := (fun x7 => [some (.ref (wad w 3 0)), some (.int x7)])) G eX3_readsTape_70 rfl rfl (by decide) rfl (fun _ => rfl) h (fun x7 h => ?_)
          refine V_goto G eX3_readsTape_73 ?_
          exact (ih h)
        · refine V_aload_n (i := 0) G eX3_readsTape_43 rfl rfl ?_
          refine V_get (v := .ref (wad w 9 0)) G fgX3_9 rfl eX3_readsTape_44 ?_
          obtain ⟨⟨x8, μ9⟩, h1, h⟩ := bdS h
          refine V_callI (As := []) (st := []) G lkX3_37 (Tape_look_ok h1) (by decide) rfl rfl (Nat.le_of_ble_eq_true rfl) eX3_readsTape_47 ?_
          refine V_iconst (n := -1) (v := (-1)) G eX3_readsTape_50 rfl ?_
          refine V_icmp_eq G eX3_readsTape_51 h (fun h => ?_) (fun h => ?_)
          · refine V_iconst (n := 1) (v := (nI 1)) G eX3_readsTape_64 rfl ?_
            refine V_goto G eX3_readsTape_65 ?_
            exact V_rzM G hr eX3_readsTape_69 h
          · refine V_aload_n (i := 0) G eX3_readsTape_54 rfl rfl ?_
            refine V_get (v := .ref (wad w 9 0)) G fgX3_9 rfl eX3_readsTape_55 ?_
            obtain ⟨⟨x10, μ11⟩, h1, h⟩ := bdS h
            refine V_callI (As := []) (st := []) G lkX3_41 (Tape_wrongHere_ok h1) (by decide) rfl rfl (Nat.le_of_ble_eq_true rfl) eX3_readsTape_58 ?_
            refine V_if_eq G eX3_readsTape_61 h (fun h => ?_) (fun h => ?_)
            · refine V_iconst (n := 0) (v := (nI 0)) G eX3_readsTape_68 rfl ?_
              exact V_rzM G hr eX3_readsTape_69 h
            · refine V_iconst (n := 1) (v := (nI 1)) G eX3_readsTape_64 rfl ?_
              refine V_goto G eX3_readsTape_65 ?_
              exact V_rzM G hr eX3_readsTape_69 h
      · refine V_iconst (n := 0) (v := (nI 0)) G eX3_readsTape_29 rfl ?_
        exact V_rzM G hr eX3_readsTape_30 h
set_option maxRecDepth 100000 in
set_option maxHeartbeats 4000000 in
theorem LawReader_readsTape_run {p : Program} {l : Launch} {e : Env} {R : Room} {s : State} {m : MethodId} {args : Array Value} {below : List Frame} {meth : Method} {c : Code} {w : Wld} (G : Cxt p R s m args meth c w cX3_readsTape 2 "PotBook$LawReader" 126 0 0) (hr : meth.sig.returnType = some .boolean) {μ : Mem} {r : Int32} {μ' : Mem} (h : LawReader_readsTape μ = some (r, μ')) : Vj p l e R s m args below meth c w 2 0 0 (MQ below (QI w r μ') args s 0 0 w.2.2.2) 0 [some (.ref (wad w 3 0)), none] [] μ := by
  unfold LawReader_readsTape at h
  refine V_aload_n (i := 0) G eX3_readsTape_0 rfl rfl ?_
  refine V_get (v := .ref (wad w 4 0)) G fgX3_15 rfl eX3_readsTape_1 ?_
  obtain ⟨μ1, h1, h⟩ := bdS h
  refine V_callV (As := []) (st := []) G lkX3_19 (Laws_clearRow_ok h1) (by decide) rfl rfl (Nat.le_of_ble_eq_true rfl) eX3_readsTape_4 ?_
  refine V_aload_n (i := 0) G eX3_readsTape_7 rfl rfl ?_
  refine V_get (v := .ref (wad w 9 0)) G fgX3_9 rfl eX3_readsTape_8 ?_
  obtain ⟨μ2, h1, h⟩ := bdS h
  refine V_callV (As := []) (st := []) G lkX3_24 (Tape_begin_ok h1) (by decide) rfl rfl (Nat.le_of_ble_eq_true rfl) eX3_readsTape_11 ?_
  refine V_iconst (n := 0) (v := (nI 0)) G eX3_readsTape_14 rfl ?_
  refine V_istoreA_n (i := 1) (L' := [some (.ref (wad w 3 0)), some (.int (nI 0))]) G rfl eX3_readsTape_15 (by decide) rfl rfl ?_
  exact LawReader_readsTape_l1_ok G hr h
theorem LawReader_readsTape_ok {l : Launch} {w : Wld} {μ : Mem} {r : Int32} {μ' : Mem} (h : LawReader_readsTape μ = some (r, μ')) : CtI l w yX3_readsTape cX3_readsTape 2 .boolean 126 [.ref (wad w 3 0)] μ r μ' :=
  Ct_of (own := "PotBook$LawReader") [some (.ref (wad w 3 0)), none] (by decide +kernel) rfl rfl (Nat.le_of_ble_eq_true rfl) fun p e s m args below meth c G hr => LawReader_readsTape_run G hr h
set_option maxRecDepth 100000 in
set_option maxHeartbeats 4000000 in
theorem B_fault_run {p : Program} {l : Launch} {e : Env} {R : Room} {s : State} {m : MethodId} {args : Array Value} {below : List Frame} {meth : Method} {c : Code} {w : Wld} (G : Cxt p R s m args meth c w cX11_fault 3 "PotBook" 127 0 0) (hr : meth.sig.returnType = some .int) {a1 : Int32} {μ : Mem} {r : Int32} {μ' : Mem} (h : B_fault a1 μ = some (r, μ')) : Vj p l e R s m args below meth c w 3 0 0 (MQ below (QI w r μ') args s 0 0 w.2.2.2) 0 [some (.ref (wad w 11 0)), some (.int a1), none] [] μ := by
  unfold B_fault at h
  refine V_iload_n (i := 1) G eX11_fault_0 rfl rfl ?_
  obtain ⟨k1, hkk1, h⟩ := kE h
  have Jk1 :  k1 () = some (r, μ') → Vj p l e R s m args below meth c w 3 0 0 (MQ below (QI w r μ') args s 0 0 w.2.2.2) 12 [some (.ref (wad w 11 0)), some (.int a1), none] [] μ := by
    clear h
    intro h
    rw [hkk1] at h
    clear hkk1
    refine V_iload_n (i := 1) G eX11_fault_12 rfl rfl ?_
    obtain ⟨⟨x6, μ7⟩, hj, h⟩ := bdS h
    have J : Vj p l e R s m args below meth c w 3 0 0 (MQ below (QI w r μ') args s 0 0 w.2.2.2) 33 [some (.ref (wad w 11 0)), none, none] [.int x6] μ7 := by
      clear hj
      refine V_istoreA_n (i := 2) (L' := [some (.ref (wad w 11 0)), none, some (.int x6)]) G rfl eX11_fault_33 (by decide) rfl rfl ?_
      refine V_iload_n (i := 2) G eX11_fault_34 rfl rfl ?_
      refine V_if_eq G eX11_fault_35 h (fun h => ?_) (fun h => ?_)
      · refine V_aload_n (i := 0) G eX11_fault_42 rfl rfl ?_
        refine V_get (v := .ref (wad w 9 0)) G fgX11_10 rfl eX11_fault_43 ?_
        refine V_get (v := .int (mI μ7 1003 0 0)) G fgX11_117 rfl eX11_fault_46 ?_
        exact V_riM G hr eX11_fault_49 h
      · refine V_iconst (n := -1) (v := (-1)) G eX11_fault_38 rfl ?_
        refine V_goto G eX11_fault_39 ?_
        exact V_riM G hr eX11_fault_49 h
    replace h := hj
    clear hj
    refine V_if_ne G eX11_fault_13 h (fun h => ?_) (fun h => ?_)
    · refine V_aload_n (i := 0) G eX11_fault_26 rfl rfl ?_
      refine V_get (v := .ref (wad w 3 0)) G fgX11_44 rfl eX11_fault_27 ?_
      obtain ⟨⟨x2, μ3⟩, h1, h⟩ := bdS h
      refine V_callI (As := []) (st := []) G lkX11_116 (LawReader_readsTape_ok h1) (by decide) rfl rfl (Nat.le_of_ble_eq_true rfl) eX11_fault_30 ?_
      cases h; exact V_sub (lS_s (lS_n (lS_n lS_0))) J
    · refine V_aload_n (i := 0) G eX11_fault_16 rfl rfl ?_
      refine V_get (v := .ref (wad w 6 0)) G fgX11_28 rfl eX11_fault_17 ?_
      obtain ⟨⟨x4, μ5⟩, h1, h⟩ := bdS h
      refine V_callI (As := []) (st := []) G lkX11_112 (Pages_readsTape_ok h1) (by decide) rfl rfl (Nat.le_of_ble_eq_true rfl) eX11_fault_20 ?_
      refine V_goto G eX11_fault_23 ?_
      cases h; exact V_sub (lS_s (lS_n (lS_n lS_0))) J
  refine V_if_eq G eX11_fault_1 h (fun h => ?_) (fun h => ?_)
  · exact (Jk1 h)
  · refine V_iload_n (i := 1) G eX11_fault_4 rfl rfl ?_
    refine V_iconst (n := 1) (v := (nI 1)) G eX11_fault_5 rfl ?_
    refine V_icmp_eq G eX11_fault_6 h (fun h => ?_) (fun h => ?_)
    · exact (Jk1 h)
    · refine V_bipush (n := -2) (v := (-2)) G eX11_fault_9 rfl ?_
      exact V_riM G hr eX11_fault_11 h
theorem B_fault_ok {l : Launch} {w : Wld} {a1 : Int32} {μ : Mem} {r : Int32} {μ' : Mem} (h : B_fault a1 μ = some (r, μ')) : CtI l w yX11_fault cX11_fault 3 .int 127 [.ref (wad w 11 0), .int a1] μ r μ' :=
  Ct_of (own := "PotBook") [some (.ref (wad w 11 0)), some (.int a1), none] (by decide +kernel) rfl rfl (Nat.le_of_ble_eq_true rfl) fun p e s m args below meth c G hr => B_fault_run G hr h
set_option maxRecDepth 100000 in
set_option maxHeartbeats 4000000 in
theorem Kin_actChanges_l1_ok {p : Program} {l : Launch} {e : Env} {R : Room} {s : State} {m : MethodId} {args : Array Value} {below : List Frame} {meth : Method} {c : Code} {w : Wld} {Q : State → Prop} (G : Cxt p R s m args meth c w cX2_actChanges 9 "PotBook$Kin" 2 0 0) {v1 : Int32} {v2 : Int32} {v3 : Int32} {μo : Mem} : ∀ {n : Nat} {v4 : Int32} {μ : Mem}, Kin_actChanges_l1 v1 v2 v3 n v4 μ = some μo → Vj p l e R s m args below meth c w 9 0 0 Q 34 [some (.ref (wad w 2 0)), some (.int v1), some (.int v2), some (.int v3), none, none, none, none, none] [] μo → Vj p l e R s m args below meth c w 9 0 0 Q 13 [some (.ref (wad w 2 0)), some (.int v1), some (.int v2), some (.int v3), some (.int v4), none, none, none, none] [] μ := by
  intro n
  induction n with
  | zero => intro v4 μ h K; exact noS h
  | succ n ih =>
    intro v4 μ h K
    replace h : Kin_actChanges_l1b v1 v2 v3 (Kin_actChanges_l1 v1 v2 v3 n) v4 μ = some μo := h
    unfold Kin_actChanges_l1b at h
    refine V_iload G eX2_actChanges_13 rfl ?_
    refine V_iload_n (i := 3) G eX2_actChanges_15 rfl rfl ?_
    refine V_icmp_gt G eX2_actChanges_16 h (fun h => ?_) (fun h => ?_)
    · cases h; exact V_sub (lS_s (lS_s (lS_s (lS_s (lS_n (lS_n (lS_n (lS_n (lS_n lS_0))))))))) K
    · refine V_aload_n (i := 0) G eX2_actChanges_19 rfl rfl ?_
      refine V_get (v := .ref (wad w 304 0)) G fgX2_23 rfl eX2_actChanges_20 ?_
      refine V_iload G eX2_actChanges_23 rfl ?_
      refine V_iload G eX2_actChanges_25 rfl ?_
      refine V_iast G al_304 (by decide) eX2_actChanges_27 h (fun μ1 h => ?_)
      refine V_iinc (z := (nI 1)) (L' := (fun x2 => [some (.ref (wad w 2 0)), some (.int v1), some (.int v2), some (.int v3), some (.int x2), none, none, none, none])) G eX2_actChanges_28 rfl rfl (by decide) rfl (fun _ => rfl) h (fun x2 h => ?_)
      refine V_goto G eX2_actChanges_31 ?_
      exact (ih h K)
set_option maxRecDepth 100000 in
set_option maxHeartbeats 4000000 in
theorem Kin_actChanges_l3_ok {p : Program} {l : Launch} {e : Env} {R : Room} {s : State} {m : MethodId} {args : Array Value} {below : List Frame} {meth : Method} {c : Code} {w : Wld} {Q : State → Prop} (G : Cxt p R s m args meth c w cX2_actChanges 9 "PotBook$Kin" 2 0 0) {v1 : Int32} {v2 : Int32} {v3 : Int32} {v4 : Int32} {μo : Mem} : ∀ {n : Nat} {v5 : Int32} {v6 : Int32} {μ : Mem}, Kin_actChanges_l3 v1 v2 v3 v4 n v5 v6 μ = some μo → Vj p l e R s m args below meth c w 9 0 0 Q 178 [some (.ref (wad w 2 0)), some (.int v1), some (.int v2), some (.int v3), some (.int v4), none, none, none, none] [] μo → Vj p l e R s m args below meth c w 9 0 0 Q 70 [some (.ref (wad w 2 0)), some (.int v1), some (.int v2), some (.int v3), some (.int v4), some (.int v5), some (.int v6), none, none] [] μ := by
  intro n
  induction n with
  | zero => intro v5 v6 μ h K; exact noS h
  | succ n ih =>
    intro v5 v6 μ h K
    replace h : Kin_actChanges_l3b v1 v2 v3 v4 (Kin_actChanges_l3 v1 v2 v3 v4 n) v5 v6 μ = some μo := h
    unfold Kin_actChanges_l3b at h
    refine V_iload G eX2_actChanges_70 rfl ?_
    refine V_iload_n (i := 3) G eX2_actChanges_72 rfl rfl ?_
    refine V_icmp_gt G eX2_actChanges_73 h (fun h => ?_) (fun h => ?_)
    · cases h; exact V_sub (lS_s (lS_s (lS_s (lS_s (lS_s (lS_n (lS_n (lS_n (lS_n lS_0))))))))) K
    · refine V_aload_n (i := 0) G eX2_actChanges_76 rfl rfl ?_
      refine V_get (v := .ref (wad w 6 0)) G fgX2_33 rfl eX2_actChanges_77 ?_
      refine V_get (v := .ref (wad w 10708 0)) G fgX2_55 rfl eX2_actChanges_80 ?_
      refine V_iload_n (i := 1) G eX2_actChanges_83 rfl rfl ?_
      refine V_aaldI (id := 708) G al_10708 eX2_actChanges_84 h (fun r1 hr1 h => ?_)
      refine V_iload G eX2_actChanges_85 rfl ?_
      refine V_iconst (n := 1) (v := (nI 1)) G eX2_actChanges_87 rfl ?_
      refine V_isub G eX2_actChanges_88 ?_
      refine V_iald G al_708 hr1 eX2_actChanges_89 h (fun x2 h => ?_)
      refine V_aload_n (i := 0) G eX2_actChanges_90 rfl rfl ?_
      refine V_get (v := .ref (wad w 6 0)) G fgX2_33 rfl eX2_actChanges_91 ?_
      refine V_get (v := .ref (wad w 10708 0)) G fgX2_55 rfl eX2_actChanges_94 ?_
      refine V_iload_n (i := 2) G eX2_actChanges_97 rfl rfl ?_
      refine V_aaldI (id := 708) G al_10708 eX2_actChanges_98 h (fun r3 hr3 h => ?_)
      refine V_iload G eX2_actChanges_99 rfl ?_
      refine V_iconst (n := 1) (v := (nI 1)) G eX2_actChanges_101 rfl ?_
      refine V_isub G eX2_actChanges_102 ?_
      refine V_iald G al_708 hr3 eX2_actChanges_103 h (fun x4 h => ?_)
      obtain ⟨x5, hj, h⟩ := bdS h
      have J : Vj p l e R s m args below meth c w 9 0 0 Q 112 [some (.ref (wad w 2 0)), some (.int v1), some (.int v2), some (.int v3), some (.int v4), some (.int v5), some (.int v6), none, none] [.int x5] μ := by
        clear hj
        refine V_istoreA (i := 7) (L' := [some (.ref (wad w 2 0)), some (.int v1), some (.int v2), some (.int v3), some (.int v4), some (.int v5), some (.int v6), some (.int x5), none]) G eX2_actChanges_112 (by decide) rfl rfl ?_
        refine V_iload G eX2_actChanges_114 rfl ?_
        obtain ⟨x6, hj, h⟩ := bdS h
        have J : Vj p l e R s m args below meth c w 9 0 0 Q 128 [some (.ref (wad w 2 0)), some (.int v1), some (.int v2), some (.int v3), some (.int v4), none, some (.int v6), none, none] [.int x6] μ := by
          clear hj
          refine V_istoreA (i := 8) (L' := [some (.ref (wad w 2 0)), some (.int v1), some (.int v2), some (.int v3), some (.int v4), none, some (.int v6), none, some (.int x6)]) G eX2_actChanges_128 (by decide) rfl rfl ?_
          refine V_aload_n (i := 0) G eX2_actChanges_130 rfl rfl ?_
          refine V_get (v := .ref (wad w 304 0)) G fgX2_23 rfl eX2_actChanges_131 ?_
          refine V_iload G eX2_actChanges_134 rfl ?_
          refine V_iald G al_304 (by decide) eX2_actChanges_136 h (fun x7 h => ?_)
          refine V_istoreA (i := 5) (L' := [some (.ref (wad w 2 0)), some (.int v1), some (.int v2), some (.int v3), some (.int v4), some (.int x7), some (.int v6), none, some (.int x6)]) G eX2_actChanges_137 (by decide) rfl rfl ?_
          refine V_aload_n (i := 0) G eX2_actChanges_139 rfl rfl ?_
          refine V_get (v := .ref (wad w 304 0)) G fgX2_23 rfl eX2_actChanges_140 ?_
          refine V_iload G eX2_actChanges_143 rfl ?_
          refine V_iload G eX2_actChanges_145 rfl ?_
          refine V_aload_n (i := 0) G eX2_actChanges_147 rfl rfl ?_
          refine V_get (v := .ref (wad w 304 0)) G fgX2_23 rfl eX2_actChanges_148 ?_
          refine V_iload G eX2_actChanges_151 rfl ?_
          refine V_iald G al_304 (by decide) eX2_actChanges_153 h (fun x8 h => ?_)
          refine V_aload_n (i := 0) G eX2_actChanges_154 rfl rfl ?_
          refine V_get (v := .ref (wad w 304 0)) G fgX2_23 rfl eX2_actChanges_155 ?_
          refine V_iload G eX2_actChanges_158 rfl ?_
          refine V_iconst (n := 1) (v := (nI 1)) G eX2_actChanges_160 rfl ?_
          refine V_isub G eX2_actChanges_161 ?_
          refine V_iald G al_304 (by decide) eX2_actChanges_162 h (fun x9 h => ?_)
          refine V_jMin G mkX2_58 (by decide) (Nat.le_of_ble_eq_true rfl) eX2_actChanges_163 ?_
          refine V_iconst (n := 1) (v := (nI 1)) G eX2_actChanges_166 rfl ?_
          refine V_iadd G eX2_actChanges_167 ?_
          refine V_jMin G mkX2_58 (by decide) (Nat.le_of_ble_eq_true rfl) eX2_actChanges_168 ?_
          refine V_iast G al_304 (by decide) eX2_actChanges_171 h (fun μ10 h => ?_)
          refine V_iinc (z := (nI 1)) (L' := (fun x11 => [some (.ref (wad w 2 0)), some (.int v1), some (.int v2), some (.int v3), some (.int v4), some (.int x7), some (.int x11), none, some (.int x6)])) G eX2_actChanges_172 rfl rfl (by decide) rfl (fun _ => rfl) h (fun x11 h => ?_)
          refine V_goto G eX2_actChanges_175 ?_
          exact V_sub (lS_s (lS_s (lS_s (lS_s (lS_s (lS_s (lS_s (lS_n (lS_n lS_0))))))))) (ih h K)
        replace h := hj
        clear hj
        refine V_if_eq G eX2_actChanges_116 h (fun h => ?_) (fun h => ?_)
        · refine V_iload G eX2_actChanges_124 rfl ?_
          refine V_iconst (n := 1) (v := (nI 1)) G eX2_actChanges_126 rfl ?_
          refine V_iadd G eX2_actChanges_127 ?_
          cases h; exact V_sub (lS_s (lS_s (lS_s (lS_s (lS_s (lS_n (lS_s (lS_n (lS_n lS_0))))))))) J
        · refine V_iload G eX2_actChanges_119 rfl ?_
          refine V_goto G eX2_actChanges_121 ?_
          cases h; exact V_sub (lS_s (lS_s (lS_s (lS_s (lS_s (lS_n (lS_s (lS_n (lS_n lS_0))))))))) J
      replace h := hj
      clear hj
      refine V_icmp_ne G eX2_actChanges_104 h (fun h => ?_) (fun h => ?_)
      · refine V_iconst (n := 0) (v := (nI 0)) G eX2_actChanges_111 rfl ?_
        cases h; exact J
      · refine V_iconst (n := 1) (v := (nI 1)) G eX2_actChanges_107 rfl ?_
        refine V_goto G eX2_actChanges_108 ?_
        cases h; exact J
set_option maxRecDepth 100000 in
set_option maxHeartbeats 4000000 in
theorem Kin_actChanges_l2_ok {p : Program} {l : Launch} {e : Env} {R : Room} {s : State} {m : MethodId} {args : Array Value} {below : List Frame} {meth : Method} {c : Code} {w : Wld} {Q : State → Prop} (G : Cxt p R s m args meth c w cX2_actChanges 9 "PotBook$Kin" 2 0 0) {v1 : Int32} {v2 : Int32} {v3 : Int32} {μo : Mem} : ∀ {n : Nat} {v4 : Int32} {μ : Mem}, Kin_actChanges_l2 v1 v2 v3 n v4 μ = some μo → Vj p l e R s m args below meth c w 9 0 0 Q 184 [some (.ref (wad w 2 0)), none, none, some (.int v3), none, none, none, none, none] [] μo → Vj p l e R s m args below meth c w 9 0 0 Q 37 [some (.ref (wad w 2 0)), some (.int v1), some (.int v2), some (.int v3), some (.int v4), none, none, none, none] [] μ := by
  intro n
  induction n with
  | zero => intro v4 μ h K; exact noS h
  | succ n ih =>
    intro v4 μ h K
    replace h : Kin_actChanges_l2b v1 v2 v3 (Kin_actChanges_l2 v1 v2 v3 n) v4 μ = some μo := h
    unfold Kin_actChanges_l2b at h
    refine V_iload G eX2_actChanges_37 rfl ?_
    refine V_aload_n (i := 0) G eX2_actChanges_39 rfl rfl ?_
    refine V_get (v := .ref (wad w 6 0)) G fgX2_33 rfl eX2_actChanges_40 ?_
    refine V_get (v := .ref (wad w 709 0)) G fgX2_52 rfl eX2_actChanges_43 ?_
    refine V_iload_n (i := 1) G eX2_actChanges_46 rfl rfl ?_
    refine V_iald G al_709 (by decide) eX2_actChanges_47 h (fun x1 h => ?_)
    refine V_icmp_gt G eX2_actChanges_48 h (fun h => ?_) (fun h => ?_)
    · cases h; exact V_sub (lS_s (lS_n (lS_n (lS_s (lS_n (lS_n (lS_n (lS_n (lS_n lS_0))))))))) K
    · refine V_aload_n (i := 0) G eX2_actChanges_51 rfl rfl ?_
      refine V_get (v := .ref (wad w 304 0)) G fgX2_23 rfl eX2_actChanges_52 ?_
      refine V_iconst (n := 0) (v := (nI 0)) G eX2_actChanges_55 rfl ?_
      refine V_iald G al_304 (by decide) eX2_actChanges_56 h (fun x2 h => ?_)
      refine V_istoreA (i := 5) (L' := [some (.ref (wad w 2 0)), some (.int v1), some (.int v2), some (.int v3), some (.int v4), some (.int x2), none, none, none]) G eX2_actChanges_57 (by decide) rfl rfl ?_
      refine V_aload_n (i := 0) G eX2_actChanges_59 rfl rfl ?_
      refine V_get (v := .ref (wad w 304 0)) G fgX2_23 rfl eX2_actChanges_60 ?_
      refine V_iconst (n := 0) (v := (nI 0)) G eX2_actChanges_63 rfl ?_
      refine V_iload G eX2_actChanges_64 rfl ?_
      refine V_iast G al_304 (by decide) eX2_actChanges_66 h (fun μ3 h => ?_)
      refine V_iconst (n := 1) (v := (nI 1)) G eX2_actChanges_67 rfl ?_
      refine V_istoreA (i := 6) (L' := [some (.ref (wad w 2 0)), some (.int v1), some (.int v2), some (.int v3), some (.int v4), some (.int x2), some (.int (nI 1)), none, none]) G eX2_actChanges_68 (by decide) rfl rfl ?_
      obtain ⟨μ4, h1, h⟩ := bdS h
      refine Kin_actChanges_l3_ok G h1 ?_
      refine V_iinc (z := (nI 1)) (L' := (fun x5 => [some (.ref (wad w 2 0)), some (.int v1), some (.int v2), some (.int v3), some (.int x5), none, none, none, none])) G eX2_actChanges_178 rfl rfl (by decide) rfl (fun _ => rfl) h (fun x5 h => ?_)
      refine V_goto G eX2_actChanges_181 ?_
      exact (ih h K)
set_option maxRecDepth 100000 in
set_option maxHeartbeats 4000000 in
theorem Kin_actChanges_run {p : Program} {l : Launch} {e : Env} {R : Room} {s : State} {m : MethodId} {args : Array Value} {below : List Frame} {meth : Method} {c : Code} {w : Wld} (G : Cxt p R s m args meth c w cX2_actChanges 9 "PotBook$Kin" 2 0 0) (hr : meth.sig.returnType = some .int) {a1 : Int32} {a2 : Int32} {μ : Mem} {r : Int32} {μ' : Mem} (h : Kin_actChanges a1 a2 μ = some (r, μ')) : Vj p l e R s m args below meth c w 9 0 0 (MQ below (QI w r μ') args s 0 0 w.2.2.2) 0 [some (.ref (wad w 2 0)), some (.int a1), some (.int a2), none, none, none, none, none, none] [] μ := by
  unfold Kin_actChanges at h
  refine V_aload_n (i := 0) G eX2_actChanges_0 rfl rfl ?_
  refine V_get (v := .ref (wad w 6 0)) G fgX2_33 rfl eX2_actChanges_1 ?_
  refine V_get (v := .ref (wad w 709 0)) G fgX2_52 rfl eX2_actChanges_4 ?_
  refine V_iload_n (i := 2) G eX2_actChanges_7 rfl rfl ?_
  refine V_iald G al_709 (by decide) eX2_actChanges_8 h (fun x1 h => ?_)
  refine V_istoreA_n (i := 3) (L' := [some (.ref (wad w 2 0)), some (.int a1), some (.int a2), some (.int x1), none, none, none, none, none]) G rfl eX2_actChanges_9 (by decide) rfl rfl ?_
  refine V_iconst (n := 0) (v := (nI 0)) G eX2_actChanges_10 rfl ?_
  refine V_istoreA (i := 4) (L' := [some (.ref (wad w 2 0)), some (.int a1), some (.int a2), some (.int x1), some (.int (nI 0)), none, none, none, none]) G eX2_actChanges_11 (by decide) rfl rfl ?_
  obtain ⟨μ2, h1, h⟩ := bdS h
  refine Kin_actChanges_l1_ok G h1 ?_
  refine V_iconst (n := 1) (v := (nI 1)) G eX2_actChanges_34 rfl ?_
  refine V_istoreA (i := 4) (L' := [some (.ref (wad w 2 0)), some (.int a1), some (.int a2), some (.int x1), some (.int (nI 1)), none, none, none, none]) G eX2_actChanges_35 (by decide) rfl rfl ?_
  obtain ⟨μ3, h1, h⟩ := bdS h
  refine Kin_actChanges_l2_ok G h1 ?_
  refine V_aload_n (i := 0) G eX2_actChanges_184 rfl rfl ?_
  refine V_get (v := .ref (wad w 304 0)) G fgX2_23 rfl eX2_actChanges_185 ?_
  refine V_iload_n (i := 3) G eX2_actChanges_188 rfl rfl ?_
  refine V_iald G al_304 (by decide) eX2_actChanges_189 h (fun x4 h => ?_)
  exact V_riM G hr eX2_actChanges_190 h
theorem Kin_actChanges_ok {l : Launch} {w : Wld} {a1 : Int32} {a2 : Int32} {μ : Mem} {r : Int32} {μ' : Mem} (h : Kin_actChanges a1 a2 μ = some (r, μ')) : CtI l w yX2_actChanges cX2_actChanges 9 .int 2 [.ref (wad w 2 0), .int a1, .int a2] μ r μ' :=
  Ct_of (own := "PotBook$Kin") [some (.ref (wad w 2 0)), some (.int a1), some (.int a2), none, none, none, none, none, none] (by decide +kernel) rfl rfl (Nat.le_of_ble_eq_true rfl) fun p e s m args below meth c G hr => Kin_actChanges_run G hr h
set_option maxRecDepth 100000 in
set_option maxHeartbeats 4000000 in
theorem J_bitCount_run {p : Program} {l : Launch} {e : Env} {R : Room} {s : State} {m : MethodId} {args : Array Value} {below : List Frame} {meth : Method} {c : Code} {w : Wld} (G : Cxt p R s m args meth c w cJ6_bitCount_0f7a4 1 "java/lang/Integer" 1 0 0) (hr : meth.sig.returnType = some .int) {a1 : Int32} {μ : Mem} {r : Int32} (h : J_bitCount a1 = some r) : Vj p l e R s m args below meth c w 1 0 0 (MQ below (QI w r μ) args s 0 0 w.2.2.2) 0 [some (.int a1)] [] μ := by
  unfold J_bitCount at h
  refine V_iload_n (i := 0) G eJ6_bitCount_0f7a4_0 rfl rfl ?_
  refine V_iload_n (i := 0) G eJ6_bitCount_0f7a4_1 rfl rfl ?_
  refine V_iconst (n := 1) (v := (nI 1)) G eJ6_bitCount_0f7a4_2 rfl ?_
  refine V_iushr G eJ6_bitCount_0f7a4_3 ?_
  refine V_ldcw (v := (nI 1431655765)) G cnI_J6_265 eJ6_bitCount_0f7a4_4 ?_
  refine V_iand G eJ6_bitCount_0f7a4_7 ?_
  refine V_isub G eJ6_bitCount_0f7a4_8 ?_
  refine V_istore_n (i := 0) (L' := (fun x1 => [some (.int x1)])) G rfl eJ6_bitCount_0f7a4_9 (by decide) rfl (fun _ => rfl) h (fun x1 h => ?_)
  refine V_iload_n (i := 0) G eJ6_bitCount_0f7a4_10 rfl rfl ?_
  refine V_ldcw (v := (nI 858993459)) G cnI_J6_266 eJ6_bitCount_0f7a4_11 ?_
  refine V_iand G eJ6_bitCount_0f7a4_14 ?_
  refine V_iload_n (i := 0) G eJ6_bitCount_0f7a4_15 rfl rfl ?_
  refine V_iconst (n := 2) (v := (nI 2)) G eJ6_bitCount_0f7a4_16 rfl ?_
  refine V_iushr G eJ6_bitCount_0f7a4_17 ?_
  refine V_ldcw (v := (nI 858993459)) G cnI_J6_266 eJ6_bitCount_0f7a4_18 ?_
  refine V_iand G eJ6_bitCount_0f7a4_21 ?_
  refine V_iadd G eJ6_bitCount_0f7a4_22 ?_
  refine V_istore_n (i := 0) (L' := (fun x2 => [some (.int x2)])) G rfl eJ6_bitCount_0f7a4_23 (by decide) rfl (fun _ => rfl) h (fun x2 h => ?_)
  refine V_iload_n (i := 0) G eJ6_bitCount_0f7a4_24 rfl rfl ?_
  refine V_iload_n (i := 0) G eJ6_bitCount_0f7a4_25 rfl rfl ?_
  refine V_iconst (n := 4) (v := (nI 4)) G eJ6_bitCount_0f7a4_26 rfl ?_
  refine V_iushr G eJ6_bitCount_0f7a4_27 ?_
  refine V_iadd G eJ6_bitCount_0f7a4_28 ?_
  refine V_ldcw (v := (nI 252645135)) G cnI_J6_267 eJ6_bitCount_0f7a4_29 ?_
  refine V_iand G eJ6_bitCount_0f7a4_32 ?_
  refine V_istore_n (i := 0) (L' := (fun x3 => [some (.int x3)])) G rfl eJ6_bitCount_0f7a4_33 (by decide) rfl (fun _ => rfl) h (fun x3 h => ?_)
  refine V_iload_n (i := 0) G eJ6_bitCount_0f7a4_34 rfl rfl ?_
  refine V_iload_n (i := 0) G eJ6_bitCount_0f7a4_35 rfl rfl ?_
  refine V_bipush (n := 8) (v := (nI 8)) G eJ6_bitCount_0f7a4_36 rfl ?_
  refine V_iushr G eJ6_bitCount_0f7a4_38 ?_
  refine V_iadd G eJ6_bitCount_0f7a4_39 ?_
  refine V_istore_n (i := 0) (L' := (fun x4 => [some (.int x4)])) G rfl eJ6_bitCount_0f7a4_40 (by decide) rfl (fun _ => rfl) h (fun x4 h => ?_)
  refine V_iload_n (i := 0) G eJ6_bitCount_0f7a4_41 rfl rfl ?_
  refine V_iload_n (i := 0) G eJ6_bitCount_0f7a4_42 rfl rfl ?_
  refine V_bipush (n := 16) (v := (nI 16)) G eJ6_bitCount_0f7a4_43 rfl ?_
  refine V_iushr G eJ6_bitCount_0f7a4_45 ?_
  refine V_iadd G eJ6_bitCount_0f7a4_46 ?_
  refine V_istore_n (i := 0) (L' := (fun x5 => [some (.int x5)])) G rfl eJ6_bitCount_0f7a4_47 (by decide) rfl (fun _ => rfl) h (fun x5 h => ?_)
  refine V_iload_n (i := 0) G eJ6_bitCount_0f7a4_48 rfl rfl ?_
  refine V_bipush (n := 63) (v := (nI 63)) G eJ6_bitCount_0f7a4_49 rfl ?_
  refine V_iand G eJ6_bitCount_0f7a4_51 ?_
  exact V_ri G hr eJ6_bitCount_0f7a4_52 h
theorem J_bitCount_ok {l : Launch} {w : Wld} {a1 : Int32} {μ : Mem} {r : Int32} (h : J_bitCount a1 = some r) : CtI l w yJ6_bitCount_0f7a4 cJ6_bitCount_0f7a4 1 .int 1 [.int a1] μ r μ :=
  Ct_of (own := "java/lang/Integer") [some (.int a1)] (by decide +kernel) rfl rfl (Nat.le_of_ble_eq_true rfl) fun p e s m args below meth c G hr => J_bitCount_run G hr h
set_option maxRecDepth 100000 in
set_option maxHeartbeats 4000000 in
theorem Kin_join_l1_ok {p : Program} {l : Launch} {e : Env} {R : Room} {s : State} {m : MethodId} {args : Array Value} {below : List Frame} {meth : Method} {c : Code} {w : Wld} {Q : State → Prop} (G : Cxt p R s m args meth c w cX2_join 5 "PotBook$Kin" 3 0 0) {v1 : Int32} {μo : Mem} : ∀ {n : Nat} {v2 : Int32} {μ : Mem}, Kin_join_l1 v1 n v2 μ = some μo → Vj p l e R s m args below meth c w 5 0 0 Q 117 [none, none, none, none, none] [] μo → Vj p l e R s m args below meth c w 5 0 0 Q 9 [some (.ref (wad w 2 0)), some (.int v1), some (.int v2), none, none] [] μ := by
  intro n
  induction n with
  | zero => intro v2 μ h K; exact noS h
  | succ n ih =>
    intro v2 μ h K
    replace h : Kin_join_l1b v1 (Kin_join_l1 v1 n) v2 μ = some μo := h
    unfold Kin_join_l1b at h
    refine V_iload_n (i := 2) G eX2_join_9 rfl rfl ?_
    refine V_iload_n (i := 1) G eX2_join_10 rfl rfl ?_
    refine V_icmp_ge G eX2_join_11 h (fun h => ?_) (fun h => ?_)
    · cases h; exact V_sub (lS_n (lS_n (lS_n (lS_n (lS_n lS_0))))) K
    · refine V_aload_n (i := 0) G eX2_join_14 rfl rfl ?_
      refine V_iload_n (i := 1) G eX2_join_15 rfl rfl ?_
      refine V_iload_n (i := 2) G eX2_join_16 rfl rfl ?_
      obtain ⟨⟨x1, μ2⟩, h1, h⟩ := bdS h
      refine V_callI (As := [.int v1, .int v2]) (st := []) G lkX2_37 (Kin_actChanges_ok h1) (by decide) rfl rfl (Nat.le_of_ble_eq_true rfl) eX2_join_17 ?_
      refine V_istoreA_n (i := 3) (L' := [some (.ref (wad w 2 0)), some (.int v1), some (.int v2), some (.int x1), none]) G rfl eX2_join_20 (by decide) rfl rfl ?_
      refine V_aload_n (i := 0) G eX2_join_21 rfl rfl ?_
      refine V_get (v := .ref (wad w 6 0)) G fgX2_33 rfl eX2_join_22 ?_
      refine V_get (v := .ref (wad w 706 0)) G fgX2_41 rfl eX2_join_25 ?_
      refine V_iload_n (i := 1) G eX2_join_28 rfl rfl ?_
      refine V_iald G al_706 (by decide) eX2_join_29 h (fun x3 h => ?_)
      refine V_aload_n (i := 0) G eX2_join_30 rfl rfl ?_
      refine V_get (v := .ref (wad w 6 0)) G fgX2_33 rfl eX2_join_31 ?_
      refine V_get (v := .ref (wad w 706 0)) G fgX2_41 rfl eX2_join_34 ?_
      refine V_iload_n (i := 2) G eX2_join_37 rfl rfl ?_
      refine V_iald G al_706 (by decide) eX2_join_38 h (fun x4 h => ?_)
      refine V_ixor G eX2_join_39 ?_
      obtain ⟨x5, h1, h⟩ := bdS h
      refine V_callIS (As := [.int (x3 ^^^ x4)]) (st := []) G lkX2_46 (J_bitCount_ok (μ := μ2) h1) (by decide) rfl rfl (Nat.le_of_ble_eq_true rfl) eX2_join_40 ?_
      refine V_iload_n (i := 3) G eX2_join_43 rfl rfl ?_
      refine V_iadd G eX2_join_44 ?_
      refine V_istore (i := 4) (L' := (fun x6 => [some (.ref (wad w 2 0)), some (.int v1), some (.int v2), some (.int x1), some (.int x6)])) G eX2_join_45 (by decide) rfl (fun _ => rfl) h (fun x6 h => ?_)
      refine V_aload_n (i := 0) G eX2_join_47 rfl rfl ?_
      refine V_get (v := .ref (wad w 10302 0)) G fgX2_16 rfl eX2_join_48 ?_
      refine V_iload_n (i := 1) G eX2_join_51 rfl rfl ?_
      refine V_aaldI (id := 302) G al_10302 eX2_join_52 h (fun r7 hr7 h => ?_)
      refine V_iload_n (i := 2) G eX2_join_53 rfl rfl ?_
      refine V_iload_n (i := 3) G eX2_join_54 rfl rfl ?_
      refine V_iast G al_302 hr7 eX2_join_55 h (fun μ8 h => ?_)
      refine V_aload_n (i := 0) G eX2_join_56 rfl rfl ?_
      refine V_get (v := .ref (wad w 10301 0)) G fgX2_11 rfl eX2_join_57 ?_
      refine V_iload_n (i := 1) G eX2_join_60 rfl rfl ?_
      refine V_aaldI (id := 301) G al_10301 eX2_join_61 h (fun r9 hr9 h => ?_)
      refine V_iload_n (i := 2) G eX2_join_62 rfl rfl ?_
      refine V_iload G eX2_join_63 rfl ?_
      refine V_iast G al_301 hr9 eX2_join_65 h (fun μ10 h => ?_)
      refine V_aload_n (i := 0) G eX2_join_66 rfl rfl ?_
      refine V_get (v := .ref (wad w 10301 0)) G fgX2_11 rfl eX2_join_67 ?_
      refine V_iload_n (i := 2) G eX2_join_70 rfl rfl ?_
      refine V_aaldI (id := 301) G al_10301 eX2_join_71 h (fun r11 hr11 h => ?_)
      refine V_iload_n (i := 1) G eX2_join_72 rfl rfl ?_
      refine V_iload G eX2_join_73 rfl ?_
      refine V_iast G al_301 hr11 eX2_join_75 h (fun μ12 h => ?_)
      refine V_aload_n (i := 0) G eX2_join_76 rfl rfl ?_
      refine V_get (v := .ref (wad w 303 0)) G fgX2_19 rfl eX2_join_77 ?_
      refine V_iload_n (i := 1) G eX2_join_80 rfl rfl ?_
      refine V_iald G al_303 (by decide) eX2_join_81 h (fun x13 h => ?_)
      refine V_iconst (n := -1) (v := (-1)) G eX2_join_82 rfl ?_
      obtain ⟨μ19, hj, h⟩ := bdS h
      have J : Vj p l e R s m args below meth c w 5 0 0 Q 111 [some (.ref (wad w 2 0)), some (.int v1), some (.int v2), none, none] [] μ19 := by
        clear hj
        refine V_iinc (z := (nI 1)) (L' := (fun x20 => [some (.ref (wad w 2 0)), some (.int v1), some (.int x20), none, none])) G eX2_join_111 rfl rfl (by decide) rfl (fun _ => rfl) h (fun x20 h => ?_)
        refine V_goto G eX2_join_114 ?_
        exact (ih h K)
      replace h := hj
      clear hj
      refine V_icmp_eq G eX2_join_83 h (fun h => ?_) (fun h => ?_)
      · refine V_aload_n (i := 0) G eX2_join_104 rfl rfl ?_
        refine V_get (v := .ref (wad w 303 0)) G fgX2_19 rfl eX2_join_105 ?_
        refine V_iload_n (i := 1) G eX2_join_108 rfl rfl ?_
        refine V_iload_n (i := 2) G eX2_join_109 rfl rfl ?_
        refine V_iast G al_303 (by decide) eX2_join_110 h (fun μ14 h => ?_)
        cases h; exact V_sub (lS_s (lS_s (lS_s (lS_n (lS_n lS_0))))) J
      · refine V_iload G eX2_join_86 rfl ?_
        refine V_aload_n (i := 0) G eX2_join_88 rfl rfl ?_
        refine V_get (v := .ref (wad w 10301 0)) G fgX2_11 rfl eX2_join_89 ?_
        refine V_iload_n (i := 1) G eX2_join_92 rfl rfl ?_
        refine V_aaldI (id := 301) G al_10301 eX2_join_93 h (fun r15 hr15 h => ?_)
        refine V_aload_n (i := 0) G eX2_join_94 rfl rfl ?_
        refine V_get (v := .ref (wad w 303 0)) G fgX2_19 rfl eX2_join_95 ?_
        refine V_iload_n (i := 1) G eX2_join_98 rfl rfl ?_
        refine V_iald G al_303 (by decide) eX2_join_99 h (fun x16 h => ?_)
        refine V_iald G al_301 hr15 eX2_join_100 h (fun x17 h => ?_)
        refine V_icmp_ge G eX2_join_101 h (fun h => ?_) (fun h => ?_)
        · cases h; exact V_sub (lS_s (lS_s (lS_s (lS_n (lS_n lS_0))))) J
        · refine V_aload_n (i := 0) G eX2_join_104 rfl rfl ?_
          refine V_get (v := .ref (wad w 303 0)) G fgX2_19 rfl eX2_join_105 ?_
          refine V_iload_n (i := 1) G eX2_join_108 rfl rfl ?_
          refine V_iload_n (i := 2) G eX2_join_109 rfl rfl ?_
          refine V_iast G al_303 (by decide) eX2_join_110 h (fun μ18 h => ?_)
          cases h; exact V_sub (lS_s (lS_s (lS_s (lS_n (lS_n lS_0))))) J
set_option maxRecDepth 100000 in
set_option maxHeartbeats 4000000 in
theorem Kin_join_run {p : Program} {l : Launch} {e : Env} {R : Room} {s : State} {m : MethodId} {args : Array Value} {below : List Frame} {meth : Method} {c : Code} {w : Wld} (G : Cxt p R s m args meth c w cX2_join 5 "PotBook$Kin" 3 0 0) (hr : meth.sig.returnType = none) {a1 : Int32} {μ : Mem} {μ' : Mem} (h : Kin_join a1 μ = some μ') : Vj p l e R s m args below meth c w 5 0 0 (MQ below (QV w μ') args s 0 0 w.2.2.2) 0 [some (.ref (wad w 2 0)), some (.int a1), none, none, none] [] μ := by
  unfold Kin_join at h
  refine V_aload_n (i := 0) G eX2_join_0 rfl rfl ?_
  refine V_get (v := .ref (wad w 303 0)) G fgX2_19 rfl eX2_join_1 ?_
  refine V_iload_n (i := 1) G eX2_join_4 rfl rfl ?_
  refine V_iconst (n := -1) (v := (-1)) G eX2_join_5 rfl ?_
  refine V_iast G al_303 (by decide) eX2_join_6 h (fun μ1 h => ?_)
  refine V_iconst (n := 0) (v := (nI 0)) G eX2_join_7 rfl ?_
  refine V_istoreA_n (i := 2) (L' := [some (.ref (wad w 2 0)), some (.int a1), some (.int (nI 0)), none, none]) G rfl eX2_join_8 (by decide) rfl rfl ?_
  obtain ⟨μ2, h1, h⟩ := bdS h
  refine Kin_join_l1_ok G h1 ?_
  exact V_rvM G hr eX2_join_117 h
theorem Kin_join_ok {l : Launch} {w : Wld} {a1 : Int32} {μ : Mem} {μ' : Mem} (h : Kin_join a1 μ = some μ') : CtV l w yX2_join cX2_join 5 3 [.ref (wad w 2 0), .int a1] μ μ' :=
  Ct_of (own := "PotBook$Kin") [some (.ref (wad w 2 0)), some (.int a1), none, none, none] (by decide +kernel) rfl rfl (Nat.le_of_ble_eq_true rfl) fun p e s m args below meth c G hr => Kin_join_run G hr h
set_option maxRecDepth 100000 in
set_option maxHeartbeats 4000000 in
theorem B_text_run {p : Program} {l : Launch} {e : Env} {R : Room} {s : State} {m : MethodId} {args : Array Value} {below : List Frame} {meth : Method} {c : Code} {w : Wld} (G : Cxt p R s m args meth c w cX11_text 2 "PotBook" 127 0 0) (hr : meth.sig.returnType = some .int) {a1 : Int32} {μ : Mem} {r : Int32} {μ' : Mem} (h : B_text a1 μ = some (r, μ')) : Vj p l e R s m args below meth c w 2 0 0 (MQ below (QI w r μ') args s 0 0 w.2.2.2) 0 [some (.ref (wad w 11 0)), some (.int a1)] [] μ := by
  unfold B_text at h
  refine V_iload_n (i := 1) G eX11_text_0 rfl rfl ?_
  obtain ⟨k7, hkk7, h⟩ := kE h
  have Jk7 : ∀ (μ6 : Mem), k7 μ6 = some (r, μ') → Vj p l e R s m args below meth c w 2 0 0 (MQ below (QI w r μ') args s 0 0 w.2.2.2) 73 [some (.ref (wad w 11 0)), some (.int a1)] [] μ6 := by
    clear h
    intro μ6 h
    rw [hkk7] at h
    clear hkk7
    refine V_iload_n (i := 1) G eX11_text_73 rfl rfl ?_
    refine V_iconst (n := 1) (v := (nI 1)) G eX11_text_74 rfl ?_
    refine V_icmp_ne G eX11_text_75 h (fun h => ?_) (fun h => ?_)
    · refine V_iconst (n := -1) (v := (-1)) G eX11_text_131 rfl ?_
      exact V_riM G hr eX11_text_132 h
    · refine V_aload_n (i := 0) G eX11_text_78 rfl rfl ?_
      refine V_get (v := .ref (wad w 4 0)) G fgX11_35 rfl eX11_text_79 ?_
      refine V_get (v := .int (mI μ6 504 0 0)) G fgX11_126 rfl eX11_text_82 ?_
      refine V_bipush (n := 6) (v := (nI 6)) G eX11_text_85 rfl ?_
      refine V_icmp_ge G eX11_text_87 h (fun h => ?_) (fun h => ?_)
      · refine V_iconst (n := -1) (v := (-1)) G eX11_text_131 rfl ?_
        exact V_riM G hr eX11_text_132 h
      · refine V_aload_n (i := 0) G eX11_text_90 rfl rfl ?_
        refine V_get (v := .ref (wad w 3 0)) G fgX11_44 rfl eX11_text_91 ?_
        obtain ⟨⟨x8, μ9⟩, h1, h⟩ := bdS h
        refine V_callI (As := []) (st := []) G lkX11_116 (LawReader_readsTape_ok h1) (by decide) rfl rfl (Nat.le_of_ble_eq_true rfl) eX11_text_94 ?_
        refine V_if_eq G eX11_text_97 h (fun h => ?_) (fun h => ?_)
        · refine V_iconst (n := -1) (v := (-1)) G eX11_text_131 rfl ?_
          exact V_riM G hr eX11_text_132 h
        · refine V_aload_n (i := 0) G eX11_text_100 rfl rfl ?_
          refine V_get (v := .ref (wad w 9 0)) G fgX11_10 rfl eX11_text_101 ?_
          refine V_iconst (n := 0) (v := (nI 0)) G eX11_text_104 rfl ?_
          refine V_put G fgX11_104 fp_9_1 eX11_text_105 h (fun μ10 h => ?_)
          refine V_aload_n (i := 0) G eX11_text_108 rfl rfl ?_
          refine V_get (v := .ref (wad w 4 0)) G fgX11_35 rfl eX11_text_109 ?_
          refine V_dup G eX11_text_112 rfl ?_
          refine V_get (v := .int (mI μ10 504 0 0)) G fgX11_126 rfl eX11_text_113 ?_
          refine V_iconst (n := 1) (v := (nI 1)) G eX11_text_116 rfl ?_
          refine V_iadd G eX11_text_117 ?_
          refine V_put G fgX11_126 fp_4_4 eX11_text_118 h (fun μ11 h => ?_)
          refine V_aload_n (i := 0) G eX11_text_121 rfl rfl ?_
          refine V_get (v := .ref (wad w 4 0)) G fgX11_35 rfl eX11_text_122 ?_
          refine V_get (v := .int (mI μ11 504 0 0)) G fgX11_126 rfl eX11_text_125 ?_
          refine V_iconst (n := 1) (v := (nI 1)) G eX11_text_128 rfl ?_
          refine V_isub G eX11_text_129 ?_
          exact V_riM G hr eX11_text_130 h
  refine V_if_ne G eX11_text_1 h (fun h => ?_) (fun h => ?_)
  · exact (Jk7 _ h)
  · refine V_aload_n (i := 0) G eX11_text_4 rfl rfl ?_
    refine V_get (v := .ref (wad w 6 0)) G fgX11_28 rfl eX11_text_5 ?_
    refine V_get (v := .int (mI μ 712 0 0)) G fgX11_120 rfl eX11_text_8 ?_
    refine V_bipush (n := 16) (v := (nI 16)) G eX11_text_11 rfl ?_
    refine V_icmp_ge G eX11_text_13 h (fun h => ?_) (fun h => ?_)
    · exact (Jk7 _ h)
    · refine V_aload_n (i := 0) G eX11_text_16 rfl rfl ?_
      refine V_get (v := .ref (wad w 6 0)) G fgX11_28 rfl eX11_text_17 ?_
      obtain ⟨⟨x1, μ2⟩, h1, h⟩ := bdS h
      refine V_callI (As := []) (st := []) G lkX11_112 (Pages_readsTape_ok h1) (by decide) rfl rfl (Nat.le_of_ble_eq_true rfl) eX11_text_20 ?_
      refine V_if_eq G eX11_text_23 h (fun h => ?_) (fun h => ?_)
      · exact (Jk7 _ h)
      · refine V_aload_n (i := 0) G eX11_text_26 rfl rfl ?_
        refine V_get (v := .ref (wad w 9 0)) G fgX11_10 rfl eX11_text_27 ?_
        refine V_iconst (n := 0) (v := (nI 0)) G eX11_text_30 rfl ?_
        refine V_put G fgX11_104 fp_9_1 eX11_text_31 h (fun μ3 h => ?_)
        refine V_aload_n (i := 0) G eX11_text_34 rfl rfl ?_
        refine V_get (v := .ref (wad w 6 0)) G fgX11_28 rfl eX11_text_35 ?_
        refine V_dup G eX11_text_38 rfl ?_
        refine V_get (v := .int (mI μ3 712 0 0)) G fgX11_120 rfl eX11_text_39 ?_
        refine V_iconst (n := 1) (v := (nI 1)) G eX11_text_42 rfl ?_
        refine V_iadd G eX11_text_43 ?_
        refine V_put G fgX11_120 fp_6_12 eX11_text_44 h (fun μ4 h => ?_)
        refine V_aload_n (i := 0) G eX11_text_47 rfl rfl ?_
        refine V_get (v := .ref (wad w 2 0)) G fgX11_71 rfl eX11_text_48 ?_
        refine V_aload_n (i := 0) G eX11_text_51 rfl rfl ?_
        refine V_get (v := .ref (wad w 6 0)) G fgX11_28 rfl eX11_text_52 ?_
        refine V_get (v := .int (mI μ4 712 0 0)) G fgX11_120 rfl eX11_text_55 ?_
        refine V_iconst (n := 1) (v := (nI 1)) G eX11_text_58 rfl ?_
        refine V_isub G eX11_text_59 ?_
        obtain ⟨μ5, h1, h⟩ := bdS h
        refine V_callV (As := [.int ((mI μ4 712 0 0) - (nI 1))]) (st := []) G lkX11_123 (Kin_join_ok h1) (by decide) rfl rfl (Nat.le_of_ble_eq_true rfl) eX11_text_60 ?_
        refine V_aload_n (i := 0) G eX11_text_63 rfl rfl ?_
        refine V_get (v := .ref (wad w 6 0)) G fgX11_28 rfl eX11_text_64 ?_
        refine V_get (v := .int (mI μ5 712 0 0)) G fgX11_120 rfl eX11_text_67 ?_
        refine V_iconst (n := 1) (v := (nI 1)) G eX11_text_70 rfl ?_
        refine V_isub G eX11_text_71 ?_
        exact V_riM G hr eX11_text_72 h
theorem B_text_ok {l : Launch} {w : Wld} {a1 : Int32} {μ : Mem} {r : Int32} {μ' : Mem} (h : B_text a1 μ = some (r, μ')) : CtI l w yX11_text cX11_text 2 .int 127 [.ref (wad w 11 0), .int a1] μ r μ' :=
  Ct_of (own := "PotBook") [some (.ref (wad w 11 0)), some (.int a1)] (by decide +kernel) rfl rfl (Nat.le_of_ble_eq_true rfl) fun p e s m args below meth c G hr => B_text_run G hr h
