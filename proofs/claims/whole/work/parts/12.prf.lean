set_option maxRecDepth 100000 in
set_option maxHeartbeats 4000000 in
theorem Copies_has_run {p : Program} {l : Launch} {e : Env} {R : Room} {s : State} {m : MethodId} {args : Array Value} {below : List Frame} {meth : Method} {c : Code} {w : Wld} (G : Cxt p R s m args meth c w cX1_has 2 "PotBook$Copies" 1 0 0) (hr : meth.sig.returnType = some .boolean) {a1 : Int32} {μ : Mem} {r : Int32} (h : Copies_has a1 μ = some r) : Vj p l e R s m args below meth c w 2 0 0 (MQ below (QI w r μ) args s 0 0 w.2.2.2) 0 [some (.ref (wad w 1 0)), some (.int a1)] [] μ := by
  unfold Copies_has at h
  refine V_iload_n (i := 1) G eX1_has_0 rfl rfl ?_
  refine V_if_lt G eX1_has_1 h (fun h => ?_) (fun h => ?_)
  · refine V_iconst (n := 0) (v := (nI 0)) G eX1_has_16 rfl ?_
    exact V_rz G hr eX1_has_17 h
  · refine V_iload_n (i := 1) G eX1_has_4 rfl rfl ?_
    refine V_aload_n (i := 0) G eX1_has_5 rfl rfl ?_
    refine V_get (v := .int (mI μ 206 0 0)) G fgX1_34 rfl eX1_has_6 ?_
    refine V_icmp_ge G eX1_has_9 h (fun h => ?_) (fun h => ?_)
    · refine V_iconst (n := 0) (v := (nI 0)) G eX1_has_16 rfl ?_
      exact V_rz G hr eX1_has_17 h
    · refine V_iconst (n := 1) (v := (nI 1)) G eX1_has_12 rfl ?_
      refine V_goto G eX1_has_13 ?_
      exact V_rz G hr eX1_has_17 h
theorem Copies_has_ok {l : Launch} {w : Wld} {a1 : Int32} {μ : Mem} {r : Int32} (h : Copies_has a1 μ = some r) : CtI l w yX1_has cX1_has 2 .boolean 1 [.ref (wad w 1 0), .int a1] μ r μ :=
  Ct_of (own := "PotBook$Copies") [some (.ref (wad w 1 0)), some (.int a1)] (by decide +kernel) rfl rfl (Nat.le_of_ble_eq_true rfl) fun p e s m args below meth c G hr => Copies_has_run G hr h
set_option maxRecDepth 100000 in
set_option maxHeartbeats 4000000 in
theorem Copies_put_run {p : Program} {l : Launch} {e : Env} {R : Room} {s : State} {m : MethodId} {args : Array Value} {below : List Frame} {meth : Method} {c : Code} {w : Wld} (G : Cxt p R s m args meth c w cX1_put 2 "PotBook$Copies" 1 0 0) (hr : meth.sig.returnType = some .int) {a1 : Int32} {μ : Mem} {r : Int32} {μ' : Mem} (h : Copies_put a1 μ = some (r, μ')) : Vj p l e R s m args below meth c w 2 0 0 (MQ below (QI w r μ') args s 0 0 w.2.2.2) 0 [some (.ref (wad w 1 0)), some (.int a1)] [] μ := by
  unfold Copies_put at h
  refine V_aload_n (i := 0) G eX1_put_0 rfl rfl ?_
  refine V_get (v := .ref (wad w 200 0)) G fgX1_9 rfl eX1_put_1 ?_
  refine V_aload_n (i := 0) G eX1_put_4 rfl rfl ?_
  refine V_get (v := .int (mI μ 206 0 0)) G fgX1_34 rfl eX1_put_5 ?_
  refine V_iload_n (i := 1) G eX1_put_8 rfl rfl ?_
  refine V_iast G al_200 (by decide) eX1_put_9 h (fun μ1 h => ?_)
  refine V_aload_n (i := 0) G eX1_put_10 rfl rfl ?_
  refine V_get (v := .ref (wad w 201 0)) G fgX1_15 rfl eX1_put_11 ?_
  refine V_aload_n (i := 0) G eX1_put_14 rfl rfl ?_
  refine V_get (v := .int (mI μ1 206 0 0)) G fgX1_34 rfl eX1_put_15 ?_
  refine V_iconst (n := -1) (v := (-1)) G eX1_put_18 rfl ?_
  refine V_iast G al_201 (by decide) eX1_put_19 h (fun μ2 h => ?_)
  refine V_aload_n (i := 0) G eX1_put_20 rfl rfl ?_
  refine V_dup G eX1_put_21 rfl ?_
  refine V_get (v := .int (mI μ2 206 0 0)) G fgX1_34 rfl eX1_put_22 ?_
  refine V_iconst (n := 1) (v := (nI 1)) G eX1_put_25 rfl ?_
  refine V_iadd G eX1_put_26 ?_
  refine V_put G fgX1_34 fp_1_6 eX1_put_27 h (fun μ3 h => ?_)
  refine V_aload_n (i := 0) G eX1_put_30 rfl rfl ?_
  refine V_get (v := .int (mI μ3 206 0 0)) G fgX1_34 rfl eX1_put_31 ?_
  refine V_iconst (n := 1) (v := (nI 1)) G eX1_put_34 rfl ?_
  refine V_isub G eX1_put_35 ?_
  exact V_riM G hr eX1_put_36 h
theorem Copies_put_ok {l : Launch} {w : Wld} {a1 : Int32} {μ : Mem} {r : Int32} {μ' : Mem} (h : Copies_put a1 μ = some (r, μ')) : CtI l w yX1_put cX1_put 2 .int 1 [.ref (wad w 1 0), .int a1] μ r μ' :=
  Ct_of (own := "PotBook$Copies") [some (.ref (wad w 1 0)), some (.int a1)] (by decide +kernel) rfl rfl (Nat.le_of_ble_eq_true rfl) fun p e s m args below meth c G hr => Copies_put_run G hr h
set_option maxRecDepth 100000 in
set_option maxHeartbeats 4000000 in
theorem B_book_run {p : Program} {l : Launch} {e : Env} {R : Room} {s : State} {m : MethodId} {args : Array Value} {below : List Frame} {meth : Method} {c : Code} {w : Wld} (G : Cxt p R s m args meth c w cX11_book 2 "PotBook" 2 0 0) (hr : meth.sig.returnType = some .int) {a1 : Int32} {μ : Mem} {r : Int32} {μ' : Mem} (h : B_book a1 μ = some (r, μ')) : Vj p l e R s m args below meth c w 2 0 0 (MQ below (QI w r μ') args s 0 0 w.2.2.2) 0 [some (.ref (wad w 11 0)), some (.int a1)] [] μ := by
  unfold B_book at h
  refine V_iload_n (i := 1) G eX11_book_0 rfl rfl ?_
  refine V_iconst (n := -1) (v := (-1)) G eX11_book_1 rfl ?_
  obtain ⟨k2, hkk2, h⟩ := kE h
  have Jk2 :  k2 () = some (r, μ') → Vj p l e R s m args below meth c w 2 0 0 (MQ below (QI w r μ') args s 0 0 w.2.2.2) 16 [some (.ref (wad w 11 0)), some (.int a1)] [] μ := by
    clear h
    intro h
    rw [hkk2] at h
    clear hkk2
    refine V_aload_n (i := 0) G eX11_book_16 rfl rfl ?_
    refine V_get (v := .ref (wad w 1 0)) G fgX11_78 rfl eX11_book_17 ?_
    refine V_get (v := .int (mI μ 206 0 0)) G fgX11_234 rfl eX11_book_20 ?_
    refine V_bipush (n := 12) (v := (nI 12)) G eX11_book_23 rfl ?_
    refine V_icmp_lt G eX11_book_25 h (fun h => ?_) (fun h => ?_)
    · refine V_aload_n (i := 0) G eX11_book_30 rfl rfl ?_
      refine V_get (v := .ref (wad w 1 0)) G fgX11_78 rfl eX11_book_31 ?_
      refine V_iload_n (i := 1) G eX11_book_34 rfl rfl ?_
      obtain ⟨⟨x3, μ4⟩, h1, h⟩ := bdS h
      refine V_callI (As := [.int a1]) (st := []) G lkX11_235 (Copies_put_ok h1) (by decide) rfl rfl (Nat.le_of_ble_eq_true rfl) eX11_book_35 ?_
      exact V_riM G hr eX11_book_38 h
    · refine V_iconst (n := -1) (v := (-1)) G eX11_book_28 rfl ?_
      exact V_riM G hr eX11_book_29 h
  refine V_icmp_eq G eX11_book_2 h (fun h => ?_) (fun h => ?_)
  · exact (Jk2 h)
  · refine V_aload_n (i := 0) G eX11_book_5 rfl rfl ?_
    refine V_get (v := .ref (wad w 1 0)) G fgX11_78 rfl eX11_book_6 ?_
    refine V_iload_n (i := 1) G eX11_book_9 rfl rfl ?_
    obtain ⟨x1, h1, h⟩ := bdS h
    refine V_callI (As := [.int a1]) (st := []) G lkX11_233 (Copies_has_ok h1) (by decide) rfl rfl (Nat.le_of_ble_eq_true rfl) eX11_book_10 ?_
    refine V_if_eq G eX11_book_13 h (fun h => ?_) (fun h => ?_)
    · refine V_iconst (n := -1) (v := (-1)) G eX11_book_28 rfl ?_
      exact V_riM G hr eX11_book_29 h
    · exact (Jk2 h)
theorem B_book_ok {l : Launch} {w : Wld} {a1 : Int32} {μ : Mem} {r : Int32} {μ' : Mem} (h : B_book a1 μ = some (r, μ')) : CtI l w yX11_book cX11_book 2 .int 2 [.ref (wad w 11 0), .int a1] μ r μ' :=
  Ct_of (own := "PotBook") [some (.ref (wad w 11 0)), some (.int a1)] (by decide +kernel) rfl rfl (Nat.le_of_ble_eq_true rfl) fun p e s m args below meth c G hr => B_book_run G hr h
set_option maxRecDepth 100000 in
set_option maxHeartbeats 4000000 in
theorem B_isWord_run {p : Program} {l : Launch} {e : Env} {R : Room} {s : State} {m : MethodId} {args : Array Value} {below : List Frame} {meth : Method} {c : Code} {w : Wld} (G : Cxt p R s m args meth c w cX11_isWord 1 "PotBook" 2 0 0) (hr : meth.sig.returnType = some .boolean) {a1 : Int32} {μ : Mem} {r : Int32} (h : B_isWord a1 = some r) : Vj p l e R s m args below meth c w 1 0 0 (MQ below (QI w r μ) args s 0 0 w.2.2.2) 0 [some (.int a1)] [] μ := by
  unfold B_isWord at h
  refine V_iload_n (i := 0) G eX11_isWord_0 rfl rfl ?_
  refine V_iconst (n := 0) (v := (nI 0)) G eX11_isWord_1 rfl ?_
  refine V_bipush (n := 7) (v := (nI 7)) G eX11_isWord_2 rfl ?_
  obtain ⟨x1, h1, h⟩ := bdS h
  refine V_callIS (As := [.int a1, .int (nI 0), .int (nI 7)]) (st := []) G lkX11_127 (B_isWithin_ok (μ := μ) h1) (by decide) rfl rfl (Nat.le_of_ble_eq_true rfl) eX11_isWord_4 ?_
  exact V_rz G hr eX11_isWord_7 h
theorem B_isWord_ok {l : Launch} {w : Wld} {a1 : Int32} {μ : Mem} {r : Int32} (h : B_isWord a1 = some r) : CtI l w yX11_isWord cX11_isWord 1 .boolean 2 [.int a1] μ r μ :=
  Ct_of (own := "PotBook") [some (.int a1)] (by decide +kernel) rfl rfl (Nat.le_of_ble_eq_true rfl) fun p e s m args below meth c G hr => B_isWord_run G hr h
set_option maxRecDepth 100000 in
set_option maxHeartbeats 4000000 in
theorem B_slip_run {p : Program} {l : Launch} {e : Env} {R : Room} {s : State} {m : MethodId} {args : Array Value} {below : List Frame} {meth : Method} {c : Code} {w : Wld} (G : Cxt p R s m args meth c w cX11_slip 4 "PotBook" 3 0 0) (hr : meth.sig.returnType = some .boolean) {a1 : Int32} {a2 : Int32} {a3 : Int32} {μ : Mem} {r : Int32} {μ' : Mem} (h : B_slip a1 a2 a3 μ = some (r, μ')) : Vj p l e R s m args below meth c w 4 0 0 (MQ below (QI w r μ') args s 0 0 w.2.2.2) 0 [some (.ref (wad w 11 0)), some (.int a1), some (.int a2), some (.int a3)] [] μ := by
  unfold B_slip at h
  refine V_iload_n (i := 1) G eX11_slip_0 rfl rfl ?_
  obtain ⟨x1, h1, h⟩ := bdS h
  refine V_callIS (As := [.int a1]) (st := []) G lkX11_237 (B_isWord_ok (μ := μ) h1) (by decide) rfl rfl (Nat.le_of_ble_eq_true rfl) eX11_slip_1 ?_
  refine V_if_eq G eX11_slip_4 h (fun h => ?_) (fun h => ?_)
  · refine V_iconst (n := 0) (v := (nI 0)) G eX11_slip_29 rfl ?_
    exact V_rzM G hr eX11_slip_30 h
  · refine V_iload_n (i := 2) G eX11_slip_7 rfl rfl ?_
    obtain ⟨x2, h1, h⟩ := bdS h
    refine V_callIS (As := [.int a2]) (st := []) G lkX11_237 (B_isWord_ok (μ := μ) h1) (by decide) rfl rfl (Nat.le_of_ble_eq_true rfl) eX11_slip_8 ?_
    refine V_if_eq G eX11_slip_11 h (fun h => ?_) (fun h => ?_)
    · refine V_iconst (n := 0) (v := (nI 0)) G eX11_slip_29 rfl ?_
      exact V_rzM G hr eX11_slip_30 h
    · refine V_iload_n (i := 1) G eX11_slip_14 rfl rfl ?_
      refine V_iload_n (i := 2) G eX11_slip_15 rfl rfl ?_
      refine V_icmp_eq G eX11_slip_16 h (fun h => ?_) (fun h => ?_)
      · refine V_iconst (n := 0) (v := (nI 0)) G eX11_slip_29 rfl ?_
        exact V_rzM G hr eX11_slip_30 h
      · refine V_iload_n (i := 3) G eX11_slip_19 rfl rfl ?_
        refine V_iconst (n := 0) (v := (nI 0)) G eX11_slip_20 rfl ?_
        refine V_bipush (n := 99) (v := (nI 99)) G eX11_slip_21 rfl ?_
        obtain ⟨x3, h1, h⟩ := bdS h
        refine V_callIS (As := [.int a3, .int (nI 0), .int (nI 99)]) (st := []) G lkX11_127 (B_isWithin_ok (μ := μ) h1) (by decide) rfl rfl (Nat.le_of_ble_eq_true rfl) eX11_slip_23 ?_
        refine V_if_ne G eX11_slip_26 h (fun h => ?_) (fun h => ?_)
        · refine V_aload_n (i := 0) G eX11_slip_31 rfl rfl ?_
          refine V_get (v := .ref (wad w 1 0)) G fgX11_78 rfl eX11_slip_32 ?_
          refine V_get (v := .ref (wad w 10202 0)) G fgX11_240 rfl eX11_slip_35 ?_
          refine V_iload_n (i := 1) G eX11_slip_38 rfl rfl ?_
          refine V_aaldI (id := 202) G al_10202 eX11_slip_39 h (fun r4 hr4 h => ?_)
          refine V_iload_n (i := 2) G eX11_slip_40 rfl rfl ?_
          refine V_iload_n (i := 3) G eX11_slip_41 rfl rfl ?_
          refine V_iast G al_202 hr4 eX11_slip_42 h (fun μ5 h => ?_)
          refine V_iconst (n := 1) (v := (nI 1)) G eX11_slip_43 rfl ?_
          exact V_rzM G hr eX11_slip_44 h
        · refine V_iconst (n := 0) (v := (nI 0)) G eX11_slip_29 rfl ?_
          exact V_rzM G hr eX11_slip_30 h
theorem B_slip_ok {l : Launch} {w : Wld} {a1 : Int32} {a2 : Int32} {a3 : Int32} {μ : Mem} {r : Int32} {μ' : Mem} (h : B_slip a1 a2 a3 μ = some (r, μ')) : CtI l w yX11_slip cX11_slip 4 .boolean 3 [.ref (wad w 11 0), .int a1, .int a2, .int a3] μ r μ' :=
  Ct_of (own := "PotBook") [some (.ref (wad w 11 0)), some (.int a1), some (.int a2), some (.int a3)] (by decide +kernel) rfl rfl (Nat.le_of_ble_eq_true rfl) fun p e s m args below meth c G hr => B_slip_run G hr h
set_option maxRecDepth 100000 in
set_option maxHeartbeats 4000000 in
theorem B_reads_run {p : Program} {l : Launch} {e : Env} {R : Room} {s : State} {m : MethodId} {args : Array Value} {below : List Frame} {meth : Method} {c : Code} {w : Wld} (G : Cxt p R s m args meth c w cX11_reads 3 "PotBook" 3 0 0) (hr : meth.sig.returnType = some .boolean) {a1 : Int32} {a2 : Int32} {μ : Mem} {r : Int32} {μ' : Mem} (h : B_reads a1 a2 μ = some (r, μ')) : Vj p l e R s m args below meth c w 3 0 0 (MQ below (QI w r μ') args s 0 0 w.2.2.2) 0 [some (.ref (wad w 11 0)), some (.int a1), some (.int a2)] [] μ := by
  unfold B_reads at h
  refine V_aload_n (i := 0) G eX11_reads_0 rfl rfl ?_
  refine V_get (v := .ref (wad w 1 0)) G fgX11_78 rfl eX11_reads_1 ?_
  refine V_iload_n (i := 1) G eX11_reads_4 rfl rfl ?_
  obtain ⟨x1, h1, h⟩ := bdS h
  refine V_callI (As := [.int a1]) (st := []) G lkX11_233 (Copies_has_ok h1) (by decide) rfl rfl (Nat.le_of_ble_eq_true rfl) eX11_reads_5 ?_
  refine V_if_eq G eX11_reads_8 h (fun h => ?_) (fun h => ?_)
  · refine V_iconst (n := 0) (v := (nI 0)) G eX11_reads_23 rfl ?_
    exact V_rzM G hr eX11_reads_24 h
  · refine V_iload_n (i := 2) G eX11_reads_11 rfl rfl ?_
    refine V_iconst (n := -1) (v := (-1)) G eX11_reads_12 rfl ?_
    obtain ⟨k3, hkk3, h⟩ := kE h
    have Jk3 :  k3 () = some (r, μ') → Vj p l e R s m args below meth c w 3 0 0 (MQ below (QI w r μ') args s 0 0 w.2.2.2) 25 [some (.ref (wad w 11 0)), some (.int a1), some (.int a2)] [] μ := by
      clear h
      intro h
      rw [hkk3] at h
      clear hkk3
      refine V_aload_n (i := 0) G eX11_reads_25 rfl rfl ?_
      refine V_get (v := .ref (wad w 1 0)) G fgX11_78 rfl eX11_reads_26 ?_
      refine V_get (v := .ref (wad w 201 0)) G fgX11_244 rfl eX11_reads_29 ?_
      refine V_iload_n (i := 1) G eX11_reads_32 rfl rfl ?_
      refine V_iload_n (i := 2) G eX11_reads_33 rfl rfl ?_
      refine V_iast G al_201 (by decide) eX11_reads_34 h (fun μ4 h => ?_)
      refine V_iconst (n := 1) (v := (nI 1)) G eX11_reads_35 rfl ?_
      exact V_rzM G hr eX11_reads_36 h
    refine V_icmp_eq G eX11_reads_13 h (fun h => ?_) (fun h => ?_)
    · exact (Jk3 h)
    · refine V_iload_n (i := 2) G eX11_reads_16 rfl rfl ?_
      obtain ⟨x2, h1, h⟩ := bdS h
      refine V_callIS (As := [.int a2]) (st := []) G lkX11_237 (B_isWord_ok (μ := μ) h1) (by decide) rfl rfl (Nat.le_of_ble_eq_true rfl) eX11_reads_17 ?_
      refine V_if_ne G eX11_reads_20 h (fun h => ?_) (fun h => ?_)
      · exact (Jk3 h)
      · refine V_iconst (n := 0) (v := (nI 0)) G eX11_reads_23 rfl ?_
        exact V_rzM G hr eX11_reads_24 h
theorem B_reads_ok {l : Launch} {w : Wld} {a1 : Int32} {a2 : Int32} {μ : Mem} {r : Int32} {μ' : Mem} (h : B_reads a1 a2 μ = some (r, μ')) : CtI l w yX11_reads cX11_reads 3 .boolean 3 [.ref (wad w 11 0), .int a1, .int a2] μ r μ' :=
  Ct_of (own := "PotBook") [some (.ref (wad w 11 0)), some (.int a1), some (.int a2)] (by decide +kernel) rfl rfl (Nat.le_of_ble_eq_true rfl) fun p e s m args below meth c G hr => B_reads_run G hr h
set_option maxRecDepth 100000 in
set_option maxHeartbeats 4000000 in
theorem Copies_canRead_run {p : Program} {l : Launch} {e : Env} {R : Room} {s : State} {m : MethodId} {args : Array Value} {below : List Frame} {meth : Method} {c : Code} {w : Wld} (G : Cxt p R s m args meth c w cX1_canRead 3 "PotBook$Copies" 1 0 0) (hr : meth.sig.returnType = some .boolean) {a1 : Int32} {a2 : Int32} {μ : Mem} {r : Int32} (h : Copies_canRead a1 a2 μ = some r) : Vj p l e R s m args below meth c w 3 0 0 (MQ below (QI w r μ) args s 0 0 w.2.2.2) 0 [some (.ref (wad w 1 0)), some (.int a1), some (.int a2)] [] μ := by
  unfold Copies_canRead at h
  refine V_aload_n (i := 0) G eX1_canRead_0 rfl rfl ?_
  refine V_get (v := .ref (wad w 201 0)) G fgX1_15 rfl eX1_canRead_1 ?_
  refine V_iload_n (i := 1) G eX1_canRead_4 rfl rfl ?_
  refine V_iald G al_201 (by decide) eX1_canRead_5 h (fun x1 h => ?_)
  refine V_iconst (n := -1) (v := (-1)) G eX1_canRead_6 rfl ?_
  refine V_icmp_eq G eX1_canRead_7 h (fun h => ?_) (fun h => ?_)
  · refine V_iconst (n := 1) (v := (nI 1)) G eX1_canRead_20 rfl ?_
    refine V_goto G eX1_canRead_21 ?_
    exact V_rz G hr eX1_canRead_25 h
  · refine V_aload_n (i := 0) G eX1_canRead_10 rfl rfl ?_
    refine V_get (v := .ref (wad w 201 0)) G fgX1_15 rfl eX1_canRead_11 ?_
    refine V_iload_n (i := 1) G eX1_canRead_14 rfl rfl ?_
    refine V_iald G al_201 (by decide) eX1_canRead_15 h (fun x2 h => ?_)
    refine V_iload_n (i := 2) G eX1_canRead_16 rfl rfl ?_
    refine V_icmp_ne G eX1_canRead_17 h (fun h => ?_) (fun h => ?_)
    · refine V_iconst (n := 0) (v := (nI 0)) G eX1_canRead_24 rfl ?_
      exact V_rz G hr eX1_canRead_25 h
    · refine V_iconst (n := 1) (v := (nI 1)) G eX1_canRead_20 rfl ?_
      refine V_goto G eX1_canRead_21 ?_
      exact V_rz G hr eX1_canRead_25 h
theorem Copies_canRead_ok {l : Launch} {w : Wld} {a1 : Int32} {a2 : Int32} {μ : Mem} {r : Int32} (h : Copies_canRead a1 a2 μ = some r) : CtI l w yX1_canRead cX1_canRead 3 .boolean 1 [.ref (wad w 1 0), .int a1, .int a2] μ r μ :=
  Ct_of (own := "PotBook$Copies") [some (.ref (wad w 1 0)), some (.int a1), some (.int a2)] (by decide +kernel) rfl rfl (Nat.le_of_ble_eq_true rfl) fun p e s m args below meth c G hr => Copies_canRead_run G hr h
set_option maxRecDepth 100000 in
set_option maxHeartbeats 4000000 in
theorem Copies_leastBelow_l1_ok {p : Program} {l : Launch} {e : Env} {R : Room} {s : State} {m : MethodId} {args : Array Value} {below : List Frame} {meth : Method} {c : Code} {w : Wld} {Q : State → Prop} (G : Cxt p R s m args meth c w cX1_leastBelow 5 "PotBook$Copies" 2 0 0) {v1 : Int32} {v2 : Int32} {μ : Mem} {o1 : Int32} : ∀ {n : Nat} {v3 : Int32} {v4 : Int32}, Copies_leastBelow_l1 v1 v2 μ n v3 v4 = some o1 → Vj p l e R s m args below meth c w 5 0 0 Q 55 [none, none, none, some (.int o1), none] [] μ → Vj p l e R s m args below meth c w 5 0 0 Q 6 [some (.ref (wad w 1 0)), some (.int v1), some (.int v2), some (.int v3), some (.int v4)] [] μ := by
  intro n
  induction n with
  | zero => intro v3 v4 h K; exact noS h
  | succ n ih =>
    intro v3 v4 h K
    replace h : Copies_leastBelow_l1b v1 v2 μ (Copies_leastBelow_l1 v1 v2 μ n) v3 v4 = some o1 := h
    unfold Copies_leastBelow_l1b at h
    refine V_iload G eX1_leastBelow_6 rfl ?_
    refine V_bipush (n := 8) (v := (nI 8)) G eX1_leastBelow_8 rfl ?_
    refine V_icmp_ge G eX1_leastBelow_10 h (fun h => ?_) (fun h => ?_)
    · cases h; exact V_sub (lS_n (lS_n (lS_n (lS_s (lS_n lS_0))))) K
    · refine V_aload_n (i := 0) G eX1_leastBelow_13 rfl rfl ?_
      refine V_iload_n (i := 1) G eX1_leastBelow_14 rfl rfl ?_
      refine V_iload G eX1_leastBelow_15 rfl ?_
      obtain ⟨x1, h1, h⟩ := bdS h
      refine V_callI (As := [.int v1, .int v4]) (st := []) G lkX1_46 (Copies_canRead_ok h1) (by decide) rfl rfl (Nat.le_of_ble_eq_true rfl) eX1_leastBelow_17 ?_
      obtain ⟨x7, hj, h⟩ := bdS h
      have J : Vj p l e R s m args below meth c w 5 0 0 Q 49 [some (.ref (wad w 1 0)), some (.int v1), some (.int v2), some (.int x7), some (.int v4)] [] μ := by
        clear hj
        refine V_iinc (z := (nI 1)) (L' := (fun x8 => [some (.ref (wad w 1 0)), some (.int v1), some (.int v2), some (.int x7), some (.int x8)])) G eX1_leastBelow_49 rfl rfl (by decide) rfl (fun _ => rfl) h (fun x8 h => ?_)
        refine V_goto G eX1_leastBelow_52 ?_
        exact (ih h K)
      replace h := hj
      clear hj
      refine V_if_eq G eX1_leastBelow_20 h (fun h => ?_) (fun h => ?_)
      · cases h; exact J
      · refine V_iload_n (i := 3) G eX1_leastBelow_23 rfl rfl ?_
        refine V_aload_n (i := 0) G eX1_leastBelow_24 rfl rfl ?_
        refine V_get (v := .ref (wad w 10202 0)) G fgX1_20 rfl eX1_leastBelow_25 ?_
        refine V_iload_n (i := 2) G eX1_leastBelow_28 rfl rfl ?_
        refine V_aaldI (id := 202) G al_10202 eX1_leastBelow_29 h (fun r2 hr2 h => ?_)
        refine V_iload G eX1_leastBelow_30 rfl ?_
        refine V_iald G al_202 hr2 eX1_leastBelow_32 h (fun x3 h => ?_)
        refine V_aload_n (i := 0) G eX1_leastBelow_33 rfl rfl ?_
        refine V_get (v := .ref (wad w 10203 0)) G fgX1_23 rfl eX1_leastBelow_34 ?_
        refine V_iload_n (i := 1) G eX1_leastBelow_37 rfl rfl ?_
        refine V_iconst (n := 1) (v := (nI 1)) G eX1_leastBelow_38 rfl ?_
        refine V_iadd G eX1_leastBelow_39 ?_
        refine V_aaldI (id := 203) G al_10203 eX1_leastBelow_40 h (fun r4 hr4 h => ?_)
        refine V_iload G eX1_leastBelow_41 rfl ?_
        refine V_iald G al_203 hr4 eX1_leastBelow_43 h (fun x5 h => ?_)
        refine V_iadd G eX1_leastBelow_44 ?_
        refine V_jMin G mkX1_53 (by decide) (Nat.le_of_ble_eq_true rfl) eX1_leastBelow_45 ?_
        refine V_istore_n (i := 3) (L' := (fun x6 => [some (.ref (wad w 1 0)), some (.int v1), some (.int v2), some (.int x6), some (.int v4)])) G rfl eX1_leastBelow_48 (by decide) rfl (fun _ => rfl) h (fun x6 h => ?_)
        cases h; exact J
set_option maxRecDepth 100000 in
set_option maxHeartbeats 4000000 in
theorem Copies_leastBelow_run {p : Program} {l : Launch} {e : Env} {R : Room} {s : State} {m : MethodId} {args : Array Value} {below : List Frame} {meth : Method} {c : Code} {w : Wld} (G : Cxt p R s m args meth c w cX1_leastBelow 5 "PotBook$Copies" 2 0 0) (hr : meth.sig.returnType = some .int) {a1 : Int32} {a2 : Int32} {μ : Mem} {r : Int32} (h : Copies_leastBelow a1 a2 μ = some r) : Vj p l e R s m args below meth c w 5 0 0 (MQ below (QI w r μ) args s 0 0 w.2.2.2) 0 [some (.ref (wad w 1 0)), some (.int a1), some (.int a2), none, none] [] μ := by
  unfold Copies_leastBelow at h
  refine V_ldc (v := (nI 2147483647)) G cnI_X1_52 eX1_leastBelow_0 ?_
  refine V_istoreA_n (i := 3) (L' := [some (.ref (wad w 1 0)), some (.int a1), some (.int a2), some (.int (nI 2147483647)), none]) G rfl eX1_leastBelow_2 (by decide) rfl rfl ?_
  refine V_iconst (n := 0) (v := (nI 0)) G eX1_leastBelow_3 rfl ?_
  refine V_istoreA (i := 4) (L' := [some (.ref (wad w 1 0)), some (.int a1), some (.int a2), some (.int (nI 2147483647)), some (.int (nI 0))]) G eX1_leastBelow_4 (by decide) rfl rfl ?_
  obtain ⟨x1, h1, h⟩ := bdS h
  refine Copies_leastBelow_l1_ok G h1 ?_
  refine V_iload_n (i := 3) G eX1_leastBelow_55 rfl rfl ?_
  exact V_ri G hr eX1_leastBelow_56 h
theorem Copies_leastBelow_ok {l : Launch} {w : Wld} {a1 : Int32} {a2 : Int32} {μ : Mem} {r : Int32} (h : Copies_leastBelow a1 a2 μ = some r) : CtI l w yX1_leastBelow cX1_leastBelow 5 .int 2 [.ref (wad w 1 0), .int a1, .int a2] μ r μ :=
  Ct_of (own := "PotBook$Copies") [some (.ref (wad w 1 0)), some (.int a1), some (.int a2), none, none] (by decide +kernel) rfl rfl (Nat.le_of_ble_eq_true rfl) fun p e s m args below meth c G hr => Copies_leastBelow_run G hr h
set_option maxRecDepth 100000 in
set_option maxHeartbeats 4000000 in
theorem Copies_addCopy_l1_ok {p : Program} {l : Launch} {e : Env} {R : Room} {s : State} {m : MethodId} {args : Array Value} {below : List Frame} {meth : Method} {c : Code} {w : Wld} {Q : State → Prop} (G : Cxt p R s m args meth c w cX1_addCopy 7 "PotBook$Copies" 3 0 0) {v1 : Int32} {v2 : Int32} {v3 : Int32} {μ : Mem} {o1 : Int64} : ∀ {n : Nat} {v4 : Int64} {v6 : Int32}, Copies_addCopy_l1 v1 v2 v3 μ n v4 v6 = some o1 → Vj p l e R s m args below meth c w 7 0 0 Q 77 [some (.ref (wad w 1 0)), some (.int v1), some (.int v2), some (.int v3), some (.long o1), none, none] [] μ → Vj p l e R s m args below meth c w 7 0 0 Q 13 [some (.ref (wad w 1 0)), some (.int v1), some (.int v2), some (.int v3), some (.long v4), none, some (.int v6)] [] μ := by
  intro n
  induction n with
  | zero => intro v4 v6 h K; exact noS h
  | succ n ih =>
    intro v4 v6 h K
    replace h : Copies_addCopy_l1b v1 v2 v3 μ (Copies_addCopy_l1 v1 v2 v3 μ n) v4 v6 = some o1 := h
    unfold Copies_addCopy_l1b at h
    refine V_iload G eX1_addCopy_13 rfl ?_
    refine V_bipush (n := 8) (v := (nI 8)) G eX1_addCopy_15 rfl ?_
    refine V_icmp_ge G eX1_addCopy_17 h (fun h => ?_) (fun h => ?_)
    · cases h; exact V_sub (lS_s (lS_s (lS_s (lS_s (lS_s (lS_n (lS_n lS_0))))))) K
    · refine V_aload_n (i := 0) G eX1_addCopy_20 rfl rfl ?_
      refine V_iload_n (i := 1) G eX1_addCopy_21 rfl rfl ?_
      refine V_iload G eX1_addCopy_22 rfl ?_
      obtain ⟨x1, h1, h⟩ := bdS h
      refine V_callI (As := [.int v1, .int v6]) (st := []) G lkX1_46 (Copies_canRead_ok h1) (by decide) rfl rfl (Nat.le_of_ble_eq_true rfl) eX1_addCopy_24 ?_
      obtain ⟨x9, hj, h⟩ := bdS h
      have J : Vj p l e R s m args below meth c w 7 0 0 Q 71 [some (.ref (wad w 1 0)), some (.int v1), some (.int v2), some (.int v3), some (.long x9), none, some (.int v6)] [] μ := by
        clear hj
        refine V_iinc (z := (nI 1)) (L' := (fun x10 => [some (.ref (wad w 1 0)), some (.int v1), some (.int v2), some (.int v3), some (.long x9), none, some (.int x10)])) G eX1_addCopy_71 rfl rfl (by decide) rfl (fun _ => rfl) h (fun x10 h => ?_)
        refine V_goto G eX1_addCopy_74 ?_
        exact (ih h K)
      replace h := hj
      clear hj
      refine V_if_eq G eX1_addCopy_27 h (fun h => ?_) (fun h => ?_)
      · cases h; exact J
      · refine V_aload_n (i := 0) G eX1_addCopy_30 rfl rfl ?_
        refine V_get (v := .ref (wad w 10202 0)) G fgX1_20 rfl eX1_addCopy_31 ?_
        refine V_iload_n (i := 2) G eX1_addCopy_34 rfl rfl ?_
        refine V_aaldI (id := 202) G al_10202 eX1_addCopy_35 h (fun r2 hr2 h => ?_)
        refine V_iload G eX1_addCopy_36 rfl ?_
        refine V_iald G al_202 hr2 eX1_addCopy_38 h (fun x3 h => ?_)
        refine V_aload_n (i := 0) G eX1_addCopy_39 rfl rfl ?_
        refine V_get (v := .ref (wad w 10203 0)) G fgX1_23 rfl eX1_addCopy_40 ?_
        refine V_iload_n (i := 1) G eX1_addCopy_43 rfl rfl ?_
        refine V_iconst (n := 1) (v := (nI 1)) G eX1_addCopy_44 rfl ?_
        refine V_iadd G eX1_addCopy_45 ?_
        refine V_aaldI (id := 203) G al_10203 eX1_addCopy_46 h (fun r4 hr4 h => ?_)
        refine V_iload G eX1_addCopy_47 rfl ?_
        refine V_iald G al_203 hr4 eX1_addCopy_49 h (fun x5 h => ?_)
        refine V_iadd G eX1_addCopy_50 ?_
        refine V_iload_n (i := 3) G eX1_addCopy_51 rfl rfl ?_
        refine V_icmp_ne G eX1_addCopy_52 h (fun h => ?_) (fun h => ?_)
        · cases h; exact J
        · refine V_lload G eX1_addCopy_55 rfl ?_
          refine V_aload_n (i := 0) G eX1_addCopy_57 rfl rfl ?_
          refine V_get (v := .ref (wad w 10204 0)) G fgX1_28 rfl eX1_addCopy_58 ?_
          refine V_iload_n (i := 1) G eX1_addCopy_61 rfl rfl ?_
          refine V_iconst (n := 1) (v := (nI 1)) G eX1_addCopy_62 rfl ?_
          refine V_iadd G eX1_addCopy_63 ?_
          refine V_aaldL (id := 204) G al_10204 eX1_addCopy_64 h (fun r6 hr6 h => ?_)
          refine V_iload G eX1_addCopy_65 rfl ?_
          refine V_lald G al_204 hr6 eX1_addCopy_67 h (fun x7 h => ?_)
          refine V_ladd G eX1_addCopy_68 ?_
          refine V_lstore (i := 4) (L' := (fun x8 => [some (.ref (wad w 1 0)), some (.int v1), some (.int v2), some (.int v3), some (.long x8), none, some (.int v6)])) G eX1_addCopy_69 (by decide) rfl (fun _ => rfl) h (fun x8 h => ?_)
          cases h; exact J
set_option maxRecDepth 100000 in
set_option maxHeartbeats 4000000 in
theorem Copies_addCopy_run {p : Program} {l : Launch} {e : Env} {R : Room} {s : State} {m : MethodId} {args : Array Value} {below : List Frame} {meth : Method} {c : Code} {w : Wld} (G : Cxt p R s m args meth c w cX1_addCopy 7 "PotBook$Copies" 3 0 0) (hr : meth.sig.returnType = none) {a1 : Int32} {a2 : Int32} {μ : Mem} {μ' : Mem} (h : Copies_addCopy a1 a2 μ = some μ') : Vj p l e R s m args below meth c w 7 0 0 (MQ below (QV w μ') args s 0 0 w.2.2.2) 0 [some (.ref (wad w 1 0)), some (.int a1), some (.int a2), none, none, none, none] [] μ := by
  unfold Copies_addCopy at h
  refine V_aload_n (i := 0) G eX1_addCopy_0 rfl rfl ?_
  refine V_iload_n (i := 1) G eX1_addCopy_1 rfl rfl ?_
  refine V_iload_n (i := 2) G eX1_addCopy_2 rfl rfl ?_
  obtain ⟨x1, h1, h⟩ := bdS h
  refine V_callI (As := [.int a1, .int a2]) (st := []) G lkX1_42 (Copies_leastBelow_ok h1) (by decide) rfl rfl (Nat.le_of_ble_eq_true rfl) eX1_addCopy_3 ?_
  refine V_istoreA_n (i := 3) (L' := [some (.ref (wad w 1 0)), some (.int a1), some (.int a2), some (.int x1), none, none, none]) G rfl eX1_addCopy_6 (by decide) rfl rfl ?_
  refine V_lconst (v := 0) G eX1_addCopy_7 rfl ?_
  refine V_lstoreA (i := 4) (L' := [some (.ref (wad w 1 0)), some (.int a1), some (.int a2), some (.int x1), some (.long 0), none, none]) G eX1_addCopy_8 (by decide) rfl rfl ?_
  refine V_iconst (n := 0) (v := (nI 0)) G eX1_addCopy_10 rfl ?_
  refine V_istoreA (i := 6) (L' := [some (.ref (wad w 1 0)), some (.int a1), some (.int a2), some (.int x1), some (.long 0), none, some (.int (nI 0))]) G eX1_addCopy_11 (by decide) rfl rfl ?_
  obtain ⟨x2, h1, h⟩ := bdS h
  refine Copies_addCopy_l1_ok G h1 ?_
  refine V_aload_n (i := 0) G eX1_addCopy_77 rfl rfl ?_
  refine V_get (v := .ref (wad w 10203 0)) G fgX1_23 rfl eX1_addCopy_78 ?_
  refine V_aload_n (i := 0) G eX1_addCopy_81 rfl rfl ?_
  refine V_get (v := .ref (wad w 200 0)) G fgX1_9 rfl eX1_addCopy_82 ?_
  refine V_iload_n (i := 1) G eX1_addCopy_85 rfl rfl ?_
  refine V_iald G al_200 (by decide) eX1_addCopy_86 h (fun x3 h => ?_)
  refine V_iconst (n := 1) (v := (nI 1)) G eX1_addCopy_87 rfl ?_
  refine V_iadd G eX1_addCopy_88 ?_
  refine V_aaldI (id := 203) G al_10203 eX1_addCopy_89 h (fun r4 hr4 h => ?_)
  refine V_iload_n (i := 2) G eX1_addCopy_90 rfl rfl ?_
  refine V_dup2_11 G eX1_addCopy_91 rfl rfl ?_
  refine V_iald G al_203 hr4 eX1_addCopy_92 h (fun x5 h => ?_)
  refine V_iload_n (i := 3) G eX1_addCopy_93 rfl rfl ?_
  refine V_iadd G eX1_addCopy_94 ?_
  refine V_iast G al_203 hr4 eX1_addCopy_95 h (fun μ6 h => ?_)
  refine V_aload_n (i := 0) G eX1_addCopy_96 rfl rfl ?_
  refine V_get (v := .ref (wad w 10204 0)) G fgX1_28 rfl eX1_addCopy_97 ?_
  refine V_aload_n (i := 0) G eX1_addCopy_100 rfl rfl ?_
  refine V_get (v := .ref (wad w 200 0)) G fgX1_9 rfl eX1_addCopy_101 ?_
  refine V_iload_n (i := 1) G eX1_addCopy_104 rfl rfl ?_
  refine V_iald G al_200 (by decide) eX1_addCopy_105 h (fun x7 h => ?_)
  refine V_iconst (n := 1) (v := (nI 1)) G eX1_addCopy_106 rfl ?_
  refine V_iadd G eX1_addCopy_107 ?_
  refine V_aaldL (id := 204) G al_10204 eX1_addCopy_108 h (fun r8 hr8 h => ?_)
  refine V_iload_n (i := 2) G eX1_addCopy_109 rfl rfl ?_
  refine V_dup2_11 G eX1_addCopy_110 rfl rfl ?_
  refine V_lald G al_204 hr8 eX1_addCopy_111 h (fun x9 h => ?_)
  refine V_lload G eX1_addCopy_112 rfl ?_
  refine V_lmul G eX1_addCopy_114 ?_
  refine V_last G al_204 hr8 eX1_addCopy_115 h (fun μ10 h => ?_)
  exact V_rvM G hr eX1_addCopy_116 h
theorem Copies_addCopy_ok {l : Launch} {w : Wld} {a1 : Int32} {a2 : Int32} {μ : Mem} {μ' : Mem} (h : Copies_addCopy a1 a2 μ = some μ') : CtV l w yX1_addCopy cX1_addCopy 7 3 [.ref (wad w 1 0), .int a1, .int a2] μ μ' :=
  Ct_of (own := "PotBook$Copies") [some (.ref (wad w 1 0)), some (.int a1), some (.int a2), none, none, none, none] (by decide +kernel) rfl rfl (Nat.le_of_ble_eq_true rfl) fun p e s m args below meth c G hr => Copies_addCopy_run G hr h
set_option maxRecDepth 100000 in
set_option maxHeartbeats 4000000 in
theorem Copies_reckon_l2_ok {p : Program} {l : Launch} {e : Env} {R : Room} {s : State} {m : MethodId} {args : Array Value} {below : List Frame} {meth : Method} {c : Code} {w : Wld} {Q : State → Prop} (G : Cxt p R s m args meth c w cX1_reckon 3 "PotBook$Copies" 4 0 0) {v1 : Int32} {μo : Mem} : ∀ {n : Nat} {v2 : Int32} {μ : Mem}, Copies_reckon_l2 v1 n v2 μ = some μo → Vj p l e R s m args below meth c w 3 0 0 Q 42 [some (.ref (wad w 1 0)), some (.int v1), none] [] μo → Vj p l e R s m args below meth c w 3 0 0 Q 12 [some (.ref (wad w 1 0)), some (.int v1), some (.int v2)] [] μ := by
  intro n
  induction n with
  | zero => intro v2 μ h K; exact noS h
  | succ n ih =>
    intro v2 μ h K
    replace h : Copies_reckon_l2b v1 (Copies_reckon_l2 v1 n) v2 μ = some μo := h
    unfold Copies_reckon_l2b at h
    refine V_iload_n (i := 2) G eX1_reckon_12 rfl rfl ?_
    refine V_bipush (n := 8) (v := (nI 8)) G eX1_reckon_13 rfl ?_
    refine V_icmp_ge G eX1_reckon_15 h (fun h => ?_) (fun h => ?_)
    · cases h; exact V_sub (lS_s (lS_s (lS_n lS_0))) K
    · refine V_aload_n (i := 0) G eX1_reckon_18 rfl rfl ?_
      refine V_get (v := .ref (wad w 10203 0)) G fgX1_23 rfl eX1_reckon_19 ?_
      refine V_iload_n (i := 1) G eX1_reckon_22 rfl rfl ?_
      refine V_aaldI (id := 203) G al_10203 eX1_reckon_23 h (fun r1 hr1 h => ?_)
      refine V_iload_n (i := 2) G eX1_reckon_24 rfl rfl ?_
      refine V_iconst (n := 0) (v := (nI 0)) G eX1_reckon_25 rfl ?_
      refine V_iast G al_203 hr1 eX1_reckon_26 h (fun μ2 h => ?_)
      refine V_aload_n (i := 0) G eX1_reckon_27 rfl rfl ?_
      refine V_get (v := .ref (wad w 10204 0)) G fgX1_28 rfl eX1_reckon_28 ?_
      refine V_iload_n (i := 1) G eX1_reckon_31 rfl rfl ?_
      refine V_aaldL (id := 204) G al_10204 eX1_reckon_32 h (fun r3 hr3 h => ?_)
      refine V_iload_n (i := 2) G eX1_reckon_33 rfl rfl ?_
      refine V_lconst (v := 1) G eX1_reckon_34 rfl ?_
      refine V_last G al_204 hr3 eX1_reckon_35 h (fun μ4 h => ?_)
      refine V_iinc (z := (nI 1)) (L' := (fun x5 => [some (.ref (wad w 1 0)), some (.int v1), some (.int x5)])) G eX1_reckon_36 rfl rfl (by decide) rfl (fun _ => rfl) h (fun x5 h => ?_)
      refine V_goto G eX1_reckon_39 ?_
      exact (ih h K)
set_option maxRecDepth 100000 in
set_option maxHeartbeats 4000000 in
theorem Copies_reckon_l1_ok {p : Program} {l : Launch} {e : Env} {R : Room} {s : State} {m : MethodId} {args : Array Value} {below : List Frame} {meth : Method} {c : Code} {w : Wld} {Q : State → Prop} (G : Cxt p R s m args meth c w cX1_reckon 3 "PotBook$Copies" 4 0 0) {μo : Mem} : ∀ {n : Nat} {v1 : Int32} {μ : Mem}, Copies_reckon_l1 n v1 μ = some μo → Vj p l e R s m args below meth c w 3 0 0 Q 48 [some (.ref (wad w 1 0)), none, none] [] μo → Vj p l e R s m args below meth c w 3 0 0 Q 2 [some (.ref (wad w 1 0)), some (.int v1), none] [] μ := by
  intro n
  induction n with
  | zero => intro v1 μ h K; exact noS h
  | succ n ih =>
    intro v1 μ h K
    replace h : Copies_reckon_l1b (Copies_reckon_l1 n) v1 μ = some μo := h
    unfold Copies_reckon_l1b at h
    refine V_iload_n (i := 1) G eX1_reckon_2 rfl rfl ?_
    refine V_aload_n (i := 0) G eX1_reckon_3 rfl rfl ?_
    refine V_get (v := .int (mI μ 206 0 0)) G fgX1_34 rfl eX1_reckon_4 ?_
    refine V_icmp_gt G eX1_reckon_7 h (fun h => ?_) (fun h => ?_)
    · cases h; exact V_sub (lS_s (lS_n (lS_n lS_0))) K
    · refine V_iconst (n := 0) (v := (nI 0)) G eX1_reckon_10 rfl ?_
      refine V_istoreA_n (i := 2) (L' := [some (.ref (wad w 1 0)), some (.int v1), some (.int (nI 0))]) G rfl eX1_reckon_11 (by decide) rfl rfl ?_
      obtain ⟨μ1, h1, h⟩ := bdS h
      refine Copies_reckon_l2_ok G h1 ?_
      refine V_iinc (z := (nI 1)) (L' := (fun x2 => [some (.ref (wad w 1 0)), some (.int x2), none])) G eX1_reckon_42 rfl rfl (by decide) rfl (fun _ => rfl) h (fun x2 h => ?_)
      refine V_goto G eX1_reckon_45 ?_
      exact (ih h K)
set_option maxRecDepth 100000 in
set_option maxHeartbeats 4000000 in
theorem Copies_reckon_l4_ok {p : Program} {l : Launch} {e : Env} {R : Room} {s : State} {m : MethodId} {args : Array Value} {below : List Frame} {meth : Method} {c : Code} {w : Wld} {Q : State → Prop} (G : Cxt p R s m args meth c w cX1_reckon 3 "PotBook$Copies" 4 0 0) {v1 : Int32} {μo : Mem} : ∀ {n : Nat} {v2 : Int32} {μ : Mem}, Copies_reckon_l4 v1 n v2 μ = some μo → Vj p l e R s m args below meth c w 3 0 0 Q 79 [some (.ref (wad w 1 0)), some (.int v1), none] [] μo → Vj p l e R s m args below meth c w 3 0 0 Q 61 [some (.ref (wad w 1 0)), some (.int v1), some (.int v2)] [] μ := by
  intro n
  induction n with
  | zero => intro v2 μ h K; exact noS h
  | succ n ih =>
    intro v2 μ h K
    replace h : Copies_reckon_l4b v1 (Copies_reckon_l4 v1 n) v2 μ = some μo := h
    unfold Copies_reckon_l4b at h
    refine V_iload_n (i := 2) G eX1_reckon_61 rfl rfl ?_
    refine V_bipush (n := 8) (v := (nI 8)) G eX1_reckon_62 rfl ?_
    refine V_icmp_ge G eX1_reckon_64 h (fun h => ?_) (fun h => ?_)
    · cases h; exact V_sub (lS_s (lS_s (lS_n lS_0))) K
    · refine V_aload_n (i := 0) G eX1_reckon_67 rfl rfl ?_
      refine V_iload_n (i := 1) G eX1_reckon_68 rfl rfl ?_
      refine V_iload_n (i := 2) G eX1_reckon_69 rfl rfl ?_
      obtain ⟨μ1, h1, h⟩ := bdS h
      refine V_callV (As := [.int v1, .int v2]) (st := []) G lkX1_38 (Copies_addCopy_ok h1) (by decide) rfl rfl (Nat.le_of_ble_eq_true rfl) eX1_reckon_70 ?_
      refine V_iinc (z := (nI 1)) (L' := (fun x2 => [some (.ref (wad w 1 0)), some (.int v1), some (.int x2)])) G eX1_reckon_73 rfl rfl (by decide) rfl (fun _ => rfl) h (fun x2 h => ?_)
      refine V_goto G eX1_reckon_76 ?_
      exact (ih h K)
set_option maxRecDepth 100000 in
set_option maxHeartbeats 4000000 in
theorem Copies_reckon_l3_ok {p : Program} {l : Launch} {e : Env} {R : Room} {s : State} {m : MethodId} {args : Array Value} {below : List Frame} {meth : Method} {c : Code} {w : Wld} {Q : State → Prop} (G : Cxt p R s m args meth c w cX1_reckon 3 "PotBook$Copies" 4 0 0) {μo : Mem} : ∀ {n : Nat} {v1 : Int32} {μ : Mem}, Copies_reckon_l3 n v1 μ = some μo → Vj p l e R s m args below meth c w 3 0 0 Q 85 [none, none, none] [] μo → Vj p l e R s m args below meth c w 3 0 0 Q 55 [some (.ref (wad w 1 0)), some (.int v1), none] [] μ := by
  intro n
  induction n with
  | zero => intro v1 μ h K; exact noS h
  | succ n ih =>
    intro v1 μ h K
    replace h : Copies_reckon_l3b (Copies_reckon_l3 n) v1 μ = some μo := h
    unfold Copies_reckon_l3b at h
    refine V_iload_n (i := 1) G eX1_reckon_55 rfl rfl ?_
    refine V_if_lt G eX1_reckon_56 h (fun h => ?_) (fun h => ?_)
    · cases h; exact V_sub (lS_n (lS_n (lS_n lS_0))) K
    · refine V_iconst (n := 0) (v := (nI 0)) G eX1_reckon_59 rfl ?_
      refine V_istoreA_n (i := 2) (L' := [some (.ref (wad w 1 0)), some (.int v1), some (.int (nI 0))]) G rfl eX1_reckon_60 (by decide) rfl rfl ?_
      obtain ⟨μ1, h1, h⟩ := bdS h
      refine Copies_reckon_l4_ok G h1 ?_
      refine V_iinc (z := (-1)) (L' := (fun x2 => [some (.ref (wad w 1 0)), some (.int x2), none])) G eX1_reckon_79 rfl rfl (by decide) rfl (fun _ => rfl) h (fun x2 h => ?_)
      refine V_goto G eX1_reckon_82 ?_
      exact (ih h K)
set_option maxRecDepth 100000 in
set_option maxHeartbeats 4000000 in
theorem Copies_reckon_run {p : Program} {l : Launch} {e : Env} {R : Room} {s : State} {m : MethodId} {args : Array Value} {below : List Frame} {meth : Method} {c : Code} {w : Wld} (G : Cxt p R s m args meth c w cX1_reckon 3 "PotBook$Copies" 4 0 0) (hr : meth.sig.returnType = none) {μ : Mem} {μ' : Mem} (h : Copies_reckon μ = some μ') : Vj p l e R s m args below meth c w 3 0 0 (MQ below (QV w μ') args s 0 0 w.2.2.2) 0 [some (.ref (wad w 1 0)), none, none] [] μ := by
  unfold Copies_reckon at h
  refine V_iconst (n := 0) (v := (nI 0)) G eX1_reckon_0 rfl ?_
  refine V_istoreA_n (i := 1) (L' := [some (.ref (wad w 1 0)), some (.int (nI 0)), none]) G rfl eX1_reckon_1 (by decide) rfl rfl ?_
  obtain ⟨μ1, h1, h⟩ := bdS h
  refine Copies_reckon_l1_ok G h1 ?_
  refine V_aload_n (i := 0) G eX1_reckon_48 rfl rfl ?_
  refine V_get (v := .int (mI μ1 206 0 0)) G fgX1_34 rfl eX1_reckon_49 ?_
  refine V_iconst (n := 1) (v := (nI 1)) G eX1_reckon_52 rfl ?_
  refine V_isub G eX1_reckon_53 ?_
  refine V_istore_n (i := 1) (L' := (fun x2 => [some (.ref (wad w 1 0)), some (.int x2), none])) G rfl eX1_reckon_54 (by decide) rfl (fun _ => rfl) h (fun x2 h => ?_)
  obtain ⟨μ3, h1, h⟩ := bdS h
  refine Copies_reckon_l3_ok G h1 ?_
  exact V_rvM G hr eX1_reckon_85 h
theorem Copies_reckon_ok {l : Launch} {w : Wld} {μ : Mem} {μ' : Mem} (h : Copies_reckon μ = some μ') : CtV l w yX1_reckon cX1_reckon 3 4 [.ref (wad w 1 0)] μ μ' :=
  Ct_of (own := "PotBook$Copies") [some (.ref (wad w 1 0)), none, none] (by decide +kernel) rfl rfl (Nat.le_of_ble_eq_true rfl) fun p e s m args below meth c G hr => Copies_reckon_run G hr h
set_option maxRecDepth 100000 in
set_option maxHeartbeats 4000000 in
theorem B_cost_run {p : Program} {l : Launch} {e : Env} {R : Room} {s : State} {m : MethodId} {args : Array Value} {below : List Frame} {meth : Method} {c : Code} {w : Wld} (G : Cxt p R s m args meth c w cX11_cost 2 "PotBook" 5 0 0) (hr : meth.sig.returnType = some .int) {a1 : Int32} {μ : Mem} {r : Int32} {μ' : Mem} (h : B_cost a1 μ = some (r, μ')) : Vj p l e R s m args below meth c w 2 0 0 (MQ below (QI w r μ') args s 0 0 w.2.2.2) 0 [some (.ref (wad w 11 0)), some (.int a1)] [] μ := by
  unfold B_cost at h
  refine V_iload_n (i := 1) G eX11_cost_0 rfl rfl ?_
  obtain ⟨x1, h1, h⟩ := bdS h
  refine V_callIS (As := [.int a1]) (st := []) G lkX11_237 (B_isWord_ok (μ := μ) h1) (by decide) rfl rfl (Nat.le_of_ble_eq_true rfl) eX11_cost_1 ?_
  refine V_if_ne G eX11_cost_4 h (fun h => ?_) (fun h => ?_)
  · refine V_aload_n (i := 0) G eX11_cost_9 rfl rfl ?_
    refine V_get (v := .ref (wad w 1 0)) G fgX11_78 rfl eX11_cost_10 ?_
    obtain ⟨μ2, h1, h⟩ := bdS h
    refine V_callV (As := []) (st := []) G lkX11_247 (Copies_reckon_ok h1) (by decide) rfl rfl (Nat.le_of_ble_eq_true rfl) eX11_cost_13 ?_
    refine V_aload_n (i := 0) G eX11_cost_16 rfl rfl ?_
    refine V_get (v := .ref (wad w 1 0)) G fgX11_78 rfl eX11_cost_17 ?_
    refine V_get (v := .ref (wad w 10203 0)) G fgX11_250 rfl eX11_cost_20 ?_
    refine V_iconst (n := 0) (v := (nI 0)) G eX11_cost_23 rfl ?_
    refine V_aaldI (id := 203) G al_10203 eX11_cost_24 h (fun r3 hr3 h => ?_)
    refine V_iload_n (i := 1) G eX11_cost_25 rfl rfl ?_
    refine V_iald G al_203 hr3 eX11_cost_26 h (fun x4 h => ?_)
    exact V_riM G hr eX11_cost_27 h
  · refine V_iconst (n := -1) (v := (-1)) G eX11_cost_7 rfl ?_
    exact V_riM G hr eX11_cost_8 h
theorem B_cost_ok {l : Launch} {w : Wld} {a1 : Int32} {μ : Mem} {r : Int32} {μ' : Mem} (h : B_cost a1 μ = some (r, μ')) : CtI l w yX11_cost cX11_cost 2 .int 5 [.ref (wad w 11 0), .int a1] μ r μ' :=
  Ct_of (own := "PotBook") [some (.ref (wad w 11 0)), some (.int a1)] (by decide +kernel) rfl rfl (Nat.le_of_ble_eq_true rfl) fun p e s m args below meth c G hr => B_cost_run G hr h
set_option maxRecDepth 100000 in
set_option maxHeartbeats 4000000 in
theorem B_ways_run {p : Program} {l : Launch} {e : Env} {R : Room} {s : State} {m : MethodId} {args : Array Value} {below : List Frame} {meth : Method} {c : Code} {w : Wld} (G : Cxt p R s m args meth c w cX11_ways 2 "PotBook" 5 0 0) (hr : meth.sig.returnType = some .long) {a1 : Int32} {μ : Mem} {r : Int64} {μ' : Mem} (h : B_ways a1 μ = some (r, μ')) : Vj p l e R s m args below meth c w 2 0 0 (MQ below (QL w r μ') args s 0 0 w.2.2.2) 0 [some (.ref (wad w 11 0)), some (.int a1)] [] μ := by
  unfold B_ways at h
  refine V_iload_n (i := 1) G eX11_ways_0 rfl rfl ?_
  obtain ⟨x1, h1, h⟩ := bdS h
  refine V_callIS (As := [.int a1]) (st := []) G lkX11_237 (B_isWord_ok (μ := μ) h1) (by decide) rfl rfl (Nat.le_of_ble_eq_true rfl) eX11_ways_1 ?_
  refine V_if_ne G eX11_ways_4 h (fun h => ?_) (fun h => ?_)
  · refine V_aload_n (i := 0) G eX11_ways_11 rfl rfl ?_
    refine V_get (v := .ref (wad w 1 0)) G fgX11_78 rfl eX11_ways_12 ?_
    obtain ⟨μ2, h1, h⟩ := bdS h
    refine V_callV (As := []) (st := []) G lkX11_247 (Copies_reckon_ok h1) (by decide) rfl rfl (Nat.le_of_ble_eq_true rfl) eX11_ways_15 ?_
    refine V_aload_n (i := 0) G eX11_ways_18 rfl rfl ?_
    refine V_get (v := .ref (wad w 1 0)) G fgX11_78 rfl eX11_ways_19 ?_
    refine V_get (v := .ref (wad w 10204 0)) G fgX11_255 rfl eX11_ways_22 ?_
    refine V_iconst (n := 0) (v := (nI 0)) G eX11_ways_25 rfl ?_
    refine V_aaldL (id := 204) G al_10204 eX11_ways_26 h (fun r3 hr3 h => ?_)
    refine V_iload_n (i := 1) G eX11_ways_27 rfl rfl ?_
    refine V_lald G al_204 hr3 eX11_ways_28 h (fun x4 h => ?_)
    exact V_rlM G hr eX11_ways_29 h
  · refine V_ldc2 (v := (-1)) G cnJ_X11_253 eX11_ways_7 ?_
    exact V_rlM G hr eX11_ways_10 h
theorem B_ways_ok {l : Launch} {w : Wld} {a1 : Int32} {μ : Mem} {r : Int64} {μ' : Mem} (h : B_ways a1 μ = some (r, μ')) : CtL l w yX11_ways cX11_ways 2 .long 5 [.ref (wad w 11 0), .int a1] μ r μ' :=
  Ct_of (own := "PotBook") [some (.ref (wad w 11 0)), some (.int a1)] (by decide +kernel) rfl rfl (Nat.le_of_ble_eq_true rfl) fun p e s m args below meth c G hr => B_ways_run G hr h
set_option maxRecDepth 100000 in
set_option maxHeartbeats 4000000 in
theorem Copies_cheapest_l1_ok {p : Program} {l : Launch} {e : Env} {R : Room} {s : State} {m : MethodId} {args : Array Value} {below : List Frame} {meth : Method} {c : Code} {w : Wld} {Q : State → Prop} (G : Cxt p R s m args meth c w cX1_cheapest 3 "PotBook$Copies" 1 0 0) {μ : Mem} {o1 : Int32} : ∀ {n : Nat} {v1 : Int32} {v2 : Int32}, Copies_cheapest_l1 μ n v1 v2 = some o1 → Vj p l e R s m args below meth c w 3 0 0 Q 37 [none, some (.int o1), none] [] μ → Vj p l e R s m args below meth c w 3 0 0 Q 4 [some (.ref (wad w 1 0)), some (.int v1), some (.int v2)] [] μ := by
  intro n
  induction n with
  | zero => intro v1 v2 h K; exact noS h
  | succ n ih =>
    intro v1 v2 h K
    replace h : Copies_cheapest_l1b μ (Copies_cheapest_l1 μ n) v1 v2 = some o1 := h
    unfold Copies_cheapest_l1b at h
    refine V_iload_n (i := 2) G eX1_cheapest_4 rfl rfl ?_
    refine V_bipush (n := 8) (v := (nI 8)) G eX1_cheapest_5 rfl ?_
    refine V_icmp_ge G eX1_cheapest_7 h (fun h => ?_) (fun h => ?_)
    · cases h; exact V_sub (lS_n (lS_s (lS_n lS_0))) K
    · refine V_aload_n (i := 0) G eX1_cheapest_10 rfl rfl ?_
      refine V_get (v := .ref (wad w 10203 0)) G fgX1_23 rfl eX1_cheapest_11 ?_
      refine V_iconst (n := 0) (v := (nI 0)) G eX1_cheapest_14 rfl ?_
      refine V_aaldI (id := 203) G al_10203 eX1_cheapest_15 h (fun r1 hr1 h => ?_)
      refine V_iload_n (i := 2) G eX1_cheapest_16 rfl rfl ?_
      refine V_iald G al_203 hr1 eX1_cheapest_17 h (fun x2 h => ?_)
      refine V_aload_n (i := 0) G eX1_cheapest_18 rfl rfl ?_
      refine V_get (v := .ref (wad w 10203 0)) G fgX1_23 rfl eX1_cheapest_19 ?_
      refine V_iconst (n := 0) (v := (nI 0)) G eX1_cheapest_22 rfl ?_
      refine V_aaldI (id := 203) G al_10203 eX1_cheapest_23 h (fun r3 hr3 h => ?_)
      refine V_iload_n (i := 1) G eX1_cheapest_24 rfl rfl ?_
      refine V_iald G al_203 hr3 eX1_cheapest_25 h (fun x4 h => ?_)
      obtain ⟨x5, hj, h⟩ := bdS h
      have J : Vj p l e R s m args below meth c w 3 0 0 Q 31 [some (.ref (wad w 1 0)), some (.int x5), some (.int v2)] [] μ := by
        clear hj
        refine V_iinc (z := (nI 1)) (L' := (fun x6 => [some (.ref (wad w 1 0)), some (.int x5), some (.int x6)])) G eX1_cheapest_31 rfl rfl (by decide) rfl (fun _ => rfl) h (fun x6 h => ?_)
        refine V_goto G eX1_cheapest_34 ?_
        exact (ih h K)
      replace h := hj
      clear hj
      refine V_icmp_ge G eX1_cheapest_26 h (fun h => ?_) (fun h => ?_)
      · cases h; exact J
      · refine V_iload_n (i := 2) G eX1_cheapest_29 rfl rfl ?_
        refine V_istoreA_n (i := 1) (L' := [some (.ref (wad w 1 0)), some (.int v2), some (.int v2)]) G rfl eX1_cheapest_30 (by decide) rfl rfl ?_
        cases h; exact J
set_option maxRecDepth 100000 in
set_option maxHeartbeats 4000000 in
theorem Copies_cheapest_run {p : Program} {l : Launch} {e : Env} {R : Room} {s : State} {m : MethodId} {args : Array Value} {below : List Frame} {meth : Method} {c : Code} {w : Wld} (G : Cxt p R s m args meth c w cX1_cheapest 3 "PotBook$Copies" 1 0 0) (hr : meth.sig.returnType = some .int) {μ : Mem} {r : Int32} (h : Copies_cheapest μ = some r) : Vj p l e R s m args below meth c w 3 0 0 (MQ below (QI w r μ) args s 0 0 w.2.2.2) 0 [some (.ref (wad w 1 0)), none, none] [] μ := by
  unfold Copies_cheapest at h
  refine V_iconst (n := 0) (v := (nI 0)) G eX1_cheapest_0 rfl ?_
  refine V_istoreA_n (i := 1) (L' := [some (.ref (wad w 1 0)), some (.int (nI 0)), none]) G rfl eX1_cheapest_1 (by decide) rfl rfl ?_
  refine V_iconst (n := 1) (v := (nI 1)) G eX1_cheapest_2 rfl ?_
  refine V_istoreA_n (i := 2) (L' := [some (.ref (wad w 1 0)), some (.int (nI 0)), some (.int (nI 1))]) G rfl eX1_cheapest_3 (by decide) rfl rfl ?_
  obtain ⟨x1, h1, h⟩ := bdS h
  refine Copies_cheapest_l1_ok G h1 ?_
  refine V_iload_n (i := 1) G eX1_cheapest_37 rfl rfl ?_
  exact V_ri G hr eX1_cheapest_38 h
theorem Copies_cheapest_ok {l : Launch} {w : Wld} {μ : Mem} {r : Int32} (h : Copies_cheapest μ = some r) : CtI l w yX1_cheapest cX1_cheapest 3 .int 1 [.ref (wad w 1 0)] μ r μ :=
  Ct_of (own := "PotBook$Copies") [some (.ref (wad w 1 0)), none, none] (by decide +kernel) rfl rfl (Nat.le_of_ble_eq_true rfl) fun p e s m args below meth c G hr => Copies_cheapest_run G hr h
set_option maxRecDepth 100000 in
set_option maxHeartbeats 4000000 in
theorem B_first_run {p : Program} {l : Launch} {e : Env} {R : Room} {s : State} {m : MethodId} {args : Array Value} {below : List Frame} {meth : Method} {c : Code} {w : Wld} (G : Cxt p R s m args meth c w cX11_first 1 "PotBook" 5 0 0) (hr : meth.sig.returnType = some .int) {μ : Mem} {r : Int32} {μ' : Mem} (h : B_first μ = some (r, μ')) : Vj p l e R s m args below meth c w 1 0 0 (MQ below (QI w r μ') args s 0 0 w.2.2.2) 0 [some (.ref (wad w 11 0))] [] μ := by
  unfold B_first at h
  refine V_aload_n (i := 0) G eX11_first_0 rfl rfl ?_
  refine V_get (v := .ref (wad w 1 0)) G fgX11_78 rfl eX11_first_1 ?_
  obtain ⟨μ1, h1, h⟩ := bdS h
  refine V_callV (As := []) (st := []) G lkX11_247 (Copies_reckon_ok h1) (by decide) rfl rfl (Nat.le_of_ble_eq_true rfl) eX11_first_4 ?_
  refine V_aload_n (i := 0) G eX11_first_7 rfl rfl ?_
  refine V_get (v := .ref (wad w 1 0)) G fgX11_78 rfl eX11_first_8 ?_
  obtain ⟨x2, h1, h⟩ := bdS h
  refine V_callI (As := []) (st := []) G lkX11_259 (Copies_cheapest_ok h1) (by decide) rfl rfl (Nat.le_of_ble_eq_true rfl) eX11_first_11 ?_
  exact V_riM G hr eX11_first_14 h
theorem B_first_ok {l : Launch} {w : Wld} {μ : Mem} {r : Int32} {μ' : Mem} (h : B_first μ = some (r, μ')) : CtI l w yX11_first cX11_first 1 .int 5 [.ref (wad w 11 0)] μ r μ' :=
  Ct_of (own := "PotBook") [some (.ref (wad w 11 0))] (by decide +kernel) rfl rfl (Nat.le_of_ble_eq_true rfl) fun p e s m args below meth c G hr => B_first_run G hr h
set_option maxRecDepth 100000 in
set_option maxHeartbeats 4000000 in
theorem Copies_wordsBelow_l2_ok {p : Program} {l : Launch} {e : Env} {R : Room} {s : State} {m : MethodId} {args : Array Value} {below : List Frame} {meth : Method} {c : Code} {w : Wld} {Q : State → Prop} (G : Cxt p R s m args meth c w cX1_wordsBelow 7 "PotBook$Copies" 3 0 0) {v1 : Int32} {v2 : Int32} {v4 : Int32} {v5 : Int32} {μ : Mem} {o1 : Int32} : ∀ {n : Nat} {v3 : Int32} {v6 : Int32}, Copies_wordsBelow_l2 v1 v2 v4 v5 μ n v3 v6 = some o1 → Vj p l e R s m args below meth c w 7 0 0 Q 90 [some (.ref (wad w 1 0)), some (.int v1), some (.int v2), some (.int o1), some (.int v4), none, none] [] μ → Vj p l e R s m args below meth c w 7 0 0 Q 24 [some (.ref (wad w 1 0)), some (.int v1), some (.int v2), some (.int v3), some (.int v4), some (.int v5), some (.int v6)] [] μ := by
  intro n
  induction n with
  | zero => intro v3 v6 h K; exact noS h
  | succ n ih =>
    intro v3 v6 h K
    replace h : Copies_wordsBelow_l2b v1 v2 v4 v5 μ (Copies_wordsBelow_l2 v1 v2 v4 v5 μ n) v3 v6 = some o1 := h
    unfold Copies_wordsBelow_l2b at h
    refine V_iload G eX1_wordsBelow_24 rfl ?_
    refine V_bipush (n := 8) (v := (nI 8)) G eX1_wordsBelow_26 rfl ?_
    refine V_icmp_ge G eX1_wordsBelow_28 h (fun h => ?_) (fun h => ?_)
    · cases h; exact V_sub (lS_s (lS_s (lS_s (lS_s (lS_s (lS_n (lS_n lS_0))))))) K
    · refine V_iload_n (i := 2) G eX1_wordsBelow_31 rfl rfl ?_
      refine V_iload G eX1_wordsBelow_32 rfl ?_
      obtain ⟨x1, h1, h⟩ := bdS h
      refine V_callIS (As := [.int v2, .int v4]) (st := []) G lkX1_65 (B_holdsBit_ok (μ := μ) h1) (by decide) rfl rfl (Nat.le_of_ble_eq_true rfl) eX1_wordsBelow_34 ?_
      refine V_if_eq G eX1_wordsBelow_37 h (fun h => ?_) (fun h => ?_)
      · cases h; exact V_sub (lS_s (lS_s (lS_s (lS_s (lS_s (lS_n (lS_n lS_0))))))) K
      · refine V_aload_n (i := 0) G eX1_wordsBelow_40 rfl rfl ?_
        refine V_iload_n (i := 1) G eX1_wordsBelow_41 rfl rfl ?_
        refine V_iload G eX1_wordsBelow_42 rfl ?_
        obtain ⟨x2, h1, h⟩ := bdS h
        refine V_callI (As := [.int v1, .int v6]) (st := []) G lkX1_46 (Copies_canRead_ok h1) (by decide) rfl rfl (Nat.le_of_ble_eq_true rfl) eX1_wordsBelow_44 ?_
        obtain ⟨x8, hj, h⟩ := bdS h
        have J : Vj p l e R s m args below meth c w 7 0 0 Q 84 [some (.ref (wad w 1 0)), some (.int v1), some (.int v2), some (.int x8), some (.int v4), some (.int v5), some (.int v6)] [] μ := by
          clear hj
          refine V_iinc (z := (nI 1)) (L' := (fun x9 => [some (.ref (wad w 1 0)), some (.int v1), some (.int v2), some (.int x8), some (.int v4), some (.int v5), some (.int x9)])) G eX1_wordsBelow_84 rfl rfl (by decide) rfl (fun _ => rfl) h (fun x9 h => ?_)
          refine V_goto G eX1_wordsBelow_87 ?_
          exact (ih h K)
        replace h := hj
        clear hj
        refine V_if_eq G eX1_wordsBelow_47 h (fun h => ?_) (fun h => ?_)
        · cases h; exact J
        · refine V_aload_n (i := 0) G eX1_wordsBelow_50 rfl rfl ?_
          refine V_get (v := .ref (wad w 10202 0)) G fgX1_20 rfl eX1_wordsBelow_51 ?_
          refine V_iload G eX1_wordsBelow_54 rfl ?_
          refine V_aaldI (id := 202) G al_10202 eX1_wordsBelow_56 h (fun r3 hr3 h => ?_)
          refine V_iload G eX1_wordsBelow_57 rfl ?_
          refine V_iald G al_202 hr3 eX1_wordsBelow_59 h (fun x4 h => ?_)
          refine V_aload_n (i := 0) G eX1_wordsBelow_60 rfl rfl ?_
          refine V_get (v := .ref (wad w 10203 0)) G fgX1_23 rfl eX1_wordsBelow_61 ?_
          refine V_iload_n (i := 1) G eX1_wordsBelow_64 rfl rfl ?_
          refine V_iconst (n := 1) (v := (nI 1)) G eX1_wordsBelow_65 rfl ?_
          refine V_iadd G eX1_wordsBelow_66 ?_
          refine V_aaldI (id := 203) G al_10203 eX1_wordsBelow_67 h (fun r5 hr5 h => ?_)
          refine V_iload G eX1_wordsBelow_68 rfl ?_
          refine V_iald G al_203 hr5 eX1_wordsBelow_70 h (fun x6 h => ?_)
          refine V_iadd G eX1_wordsBelow_71 ?_
          refine V_iload G eX1_wordsBelow_72 rfl ?_
          refine V_icmp_ne G eX1_wordsBelow_74 h (fun h => ?_) (fun h => ?_)
          · cases h; exact J
          · refine V_iload_n (i := 3) G eX1_wordsBelow_77 rfl rfl ?_
            refine V_iconst (n := 1) (v := (nI 1)) G eX1_wordsBelow_78 rfl ?_
            refine V_iload G eX1_wordsBelow_79 rfl ?_
            refine V_ishl G eX1_wordsBelow_81 ?_
            refine V_ior G eX1_wordsBelow_82 ?_
            refine V_istore_n (i := 3) (L' := (fun x7 => [some (.ref (wad w 1 0)), some (.int v1), some (.int v2), some (.int x7), some (.int v4), some (.int v5), some (.int v6)])) G rfl eX1_wordsBelow_83 (by decide) rfl (fun _ => rfl) h (fun x7 h => ?_)
            cases h; exact J
set_option maxRecDepth 100000 in
set_option maxHeartbeats 4000000 in
theorem Copies_wordsBelow_l1_ok {p : Program} {l : Launch} {e : Env} {R : Room} {s : State} {m : MethodId} {args : Array Value} {below : List Frame} {meth : Method} {c : Code} {w : Wld} {Q : State → Prop} (G : Cxt p R s m args meth c w cX1_wordsBelow 7 "PotBook$Copies" 3 0 0) {v1 : Int32} {v2 : Int32} {μ : Mem} {o1 : Int32} : ∀ {n : Nat} {v3 : Int32} {v4 : Int32}, Copies_wordsBelow_l1 v1 v2 μ n v3 v4 = some o1 → Vj p l e R s m args below meth c w 7 0 0 Q 96 [none, none, none, some (.int o1), none, none, none] [] μ → Vj p l e R s m args below meth c w 7 0 0 Q 5 [some (.ref (wad w 1 0)), some (.int v1), some (.int v2), some (.int v3), some (.int v4), none, none] [] μ := by
  intro n
  induction n with
  | zero => intro v3 v4 h K; exact noS h
  | succ n ih =>
    intro v3 v4 h K
    replace h : Copies_wordsBelow_l1b v1 v2 μ (Copies_wordsBelow_l1 v1 v2 μ n) v3 v4 = some o1 := h
    unfold Copies_wordsBelow_l1b at h
    refine V_iload G eX1_wordsBelow_5 rfl ?_
    refine V_bipush (n := 8) (v := (nI 8)) G eX1_wordsBelow_7 rfl ?_
    refine V_icmp_ge G eX1_wordsBelow_9 h (fun h => ?_) (fun h => ?_)
    · cases h; exact V_sub (lS_n (lS_n (lS_n (lS_s (lS_n (lS_n (lS_n lS_0))))))) K
    · refine V_aload_n (i := 0) G eX1_wordsBelow_12 rfl rfl ?_
      refine V_iload_n (i := 1) G eX1_wordsBelow_13 rfl rfl ?_
      refine V_iload G eX1_wordsBelow_14 rfl ?_
      obtain ⟨x1, h1, h⟩ := bdS h
      refine V_callI (As := [.int v1, .int v4]) (st := []) G lkX1_42 (Copies_leastBelow_ok h1) (by decide) rfl rfl (Nat.le_of_ble_eq_true rfl) eX1_wordsBelow_16 ?_
      refine V_istoreA (i := 5) (L' := [some (.ref (wad w 1 0)), some (.int v1), some (.int v2), some (.int v3), some (.int v4), some (.int x1), none]) G eX1_wordsBelow_19 (by decide) rfl rfl ?_
      refine V_iconst (n := 0) (v := (nI 0)) G eX1_wordsBelow_21 rfl ?_
      refine V_istoreA (i := 6) (L' := [some (.ref (wad w 1 0)), some (.int v1), some (.int v2), some (.int v3), some (.int v4), some (.int x1), some (.int (nI 0))]) G eX1_wordsBelow_22 (by decide) rfl rfl ?_
      obtain ⟨x2, h1, h⟩ := bdS h
      refine Copies_wordsBelow_l2_ok G h1 ?_
      refine V_iinc (z := (nI 1)) (L' := (fun x3 => [some (.ref (wad w 1 0)), some (.int v1), some (.int v2), some (.int x2), some (.int x3), none, none])) G eX1_wordsBelow_90 rfl rfl (by decide) rfl (fun _ => rfl) h (fun x3 h => ?_)
      refine V_goto G eX1_wordsBelow_93 ?_
      exact (ih h K)
set_option maxRecDepth 100000 in
set_option maxHeartbeats 4000000 in
theorem Copies_wordsBelow_run {p : Program} {l : Launch} {e : Env} {R : Room} {s : State} {m : MethodId} {args : Array Value} {below : List Frame} {meth : Method} {c : Code} {w : Wld} (G : Cxt p R s m args meth c w cX1_wordsBelow 7 "PotBook$Copies" 3 0 0) (hr : meth.sig.returnType = some .int) {a1 : Int32} {a2 : Int32} {μ : Mem} {r : Int32} (h : Copies_wordsBelow a1 a2 μ = some r) : Vj p l e R s m args below meth c w 7 0 0 (MQ below (QI w r μ) args s 0 0 w.2.2.2) 0 [some (.ref (wad w 1 0)), some (.int a1), some (.int a2), none, none, none, none] [] μ := by
  unfold Copies_wordsBelow at h
  refine V_iconst (n := 0) (v := (nI 0)) G eX1_wordsBelow_0 rfl ?_
  refine V_istoreA_n (i := 3) (L' := [some (.ref (wad w 1 0)), some (.int a1), some (.int a2), some (.int (nI 0)), none, none, none]) G rfl eX1_wordsBelow_1 (by decide) rfl rfl ?_
  refine V_iconst (n := 0) (v := (nI 0)) G eX1_wordsBelow_2 rfl ?_
  refine V_istoreA (i := 4) (L' := [some (.ref (wad w 1 0)), some (.int a1), some (.int a2), some (.int (nI 0)), some (.int (nI 0)), none, none]) G eX1_wordsBelow_3 (by decide) rfl rfl ?_
  obtain ⟨x1, h1, h⟩ := bdS h
  refine Copies_wordsBelow_l1_ok G h1 ?_
  refine V_iload_n (i := 3) G eX1_wordsBelow_96 rfl rfl ?_
  exact V_ri G hr eX1_wordsBelow_97 h
theorem Copies_wordsBelow_ok {l : Launch} {w : Wld} {a1 : Int32} {a2 : Int32} {μ : Mem} {r : Int32} (h : Copies_wordsBelow a1 a2 μ = some r) : CtI l w yX1_wordsBelow cX1_wordsBelow 7 .int 3 [.ref (wad w 1 0), .int a1, .int a2] μ r μ :=
  Ct_of (own := "PotBook$Copies") [some (.ref (wad w 1 0)), some (.int a1), some (.int a2), none, none, none, none] (by decide +kernel) rfl rfl (Nat.le_of_ble_eq_true rfl) fun p e s m args below meth c G hr => Copies_wordsBelow_run G hr h
set_option maxRecDepth 100000 in
set_option maxHeartbeats 4000000 in
theorem Copies_wordsOf_l1_ok {p : Program} {l : Launch} {e : Env} {R : Room} {s : State} {m : MethodId} {args : Array Value} {below : List Frame} {meth : Method} {c : Code} {w : Wld} {Q : State → Prop} (G : Cxt p R s m args meth c w cX1_wordsOf 4 "PotBook$Copies" 4 0 0) {v1 : Int32} {v2 : Int32} {μo : Mem} : ∀ {n : Nat} {v3 : Int32} {μ : Mem}, Copies_wordsOf_l1 v1 v2 n v3 μ = some μo → Vj p l e R s m args below meth c w 4 0 0 Q 57 [some (.ref (wad w 1 0)), some (.int v1), none, none] [] μo → Vj p l e R s m args below meth c w 4 0 0 Q 21 [some (.ref (wad w 1 0)), some (.int v1), some (.int v2), some (.int v3)] [] μ := by
  intro n
  induction n with
  | zero => intro v3 μ h K; exact noS h
  | succ n ih =>
    intro v3 μ h K
    replace h : Copies_wordsOf_l1b v1 v2 (Copies_wordsOf_l1 v1 v2 n) v3 μ = some μo := h
    unfold Copies_wordsOf_l1b at h
    refine V_iload_n (i := 3) G eX1_wordsOf_21 rfl rfl ?_
    refine V_bipush (n := 8) (v := (nI 8)) G eX1_wordsOf_22 rfl ?_
    refine V_icmp_ge G eX1_wordsOf_24 h (fun h => ?_) (fun h => ?_)
    · cases h; exact V_sub (lS_s (lS_s (lS_n (lS_n lS_0)))) K
    · refine V_aload_n (i := 0) G eX1_wordsOf_27 rfl rfl ?_
      refine V_get (v := .ref (wad w 10203 0)) G fgX1_23 rfl eX1_wordsOf_28 ?_
      refine V_iconst (n := 0) (v := (nI 0)) G eX1_wordsOf_31 rfl ?_
      refine V_aaldI (id := 203) G al_10203 eX1_wordsOf_32 h (fun r1 hr1 h => ?_)
      refine V_iload_n (i := 3) G eX1_wordsOf_33 rfl rfl ?_
      refine V_iald G al_203 hr1 eX1_wordsOf_34 h (fun x2 h => ?_)
      refine V_iload_n (i := 2) G eX1_wordsOf_35 rfl rfl ?_
      obtain ⟨μ5, hj, h⟩ := bdS h
      have J : Vj p l e R s m args below meth c w 4 0 0 Q 51 [some (.ref (wad w 1 0)), some (.int v1), some (.int v2), some (.int v3)] [] μ5 := by
        clear hj
        refine V_iinc (z := (nI 1)) (L' := (fun x6 => [some (.ref (wad w 1 0)), some (.int v1), some (.int v2), some (.int x6)])) G eX1_wordsOf_51 rfl rfl (by decide) rfl (fun _ => rfl) h (fun x6 h => ?_)
        refine V_goto G eX1_wordsOf_54 ?_
        exact (ih h K)
      replace h := hj
      clear hj
      refine V_icmp_ne G eX1_wordsOf_36 h (fun h => ?_) (fun h => ?_)
      · cases h; exact J
      · refine V_aload_n (i := 0) G eX1_wordsOf_39 rfl rfl ?_
        refine V_get (v := .ref (wad w 205 0)) G fgX1_31 rfl eX1_wordsOf_40 ?_
        refine V_iconst (n := 0) (v := (nI 0)) G eX1_wordsOf_43 rfl ?_
        refine V_dup2_11 G eX1_wordsOf_44 rfl rfl ?_
        refine V_iald G al_205 (by decide) eX1_wordsOf_45 h (fun x3 h => ?_)
        refine V_iconst (n := 1) (v := (nI 1)) G eX1_wordsOf_46 rfl ?_
        refine V_iload_n (i := 3) G eX1_wordsOf_47 rfl rfl ?_
        refine V_ishl G eX1_wordsOf_48 ?_
        refine V_ior G eX1_wordsOf_49 ?_
        refine V_iast G al_205 (by decide) eX1_wordsOf_50 h (fun μ4 h => ?_)
        cases h; exact J
set_option maxRecDepth 100000 in
set_option maxHeartbeats 4000000 in
theorem Copies_wordsOf_l2_ok {p : Program} {l : Launch} {e : Env} {R : Room} {s : State} {m : MethodId} {args : Array Value} {below : List Frame} {meth : Method} {c : Code} {w : Wld} {Q : State → Prop} (G : Cxt p R s m args meth c w cX1_wordsOf 4 "PotBook$Copies" 4 0 0) {v1 : Int32} {μo : Mem} : ∀ {n : Nat} {v3 : Int32} {μ : Mem}, Copies_wordsOf_l2 v1 n v3 μ = some μo → Vj p l e R s m args below meth c w 4 0 0 Q 96 [some (.ref (wad w 1 0)), some (.int v1), none, none] [] μo → Vj p l e R s m args below meth c w 4 0 0 Q 59 [some (.ref (wad w 1 0)), some (.int v1), none, some (.int v3)] [] μ := by
  intro n
  induction n with
  | zero => intro v3 μ h K; exact noS h
  | succ n ih =>
    intro v3 μ h K
    replace h : Copies_wordsOf_l2b v1 (Copies_wordsOf_l2 v1 n) v3 μ = some μo := h
    unfold Copies_wordsOf_l2b at h
    refine V_iload_n (i := 3) G eX1_wordsOf_59 rfl rfl ?_
    refine V_iload_n (i := 1) G eX1_wordsOf_60 rfl rfl ?_
    refine V_icmp_gt G eX1_wordsOf_61 h (fun h => ?_) (fun h => ?_)
    · cases h; exact V_sub (lS_s (lS_s (lS_n (lS_n lS_0)))) K
    · refine V_aload_n (i := 0) G eX1_wordsOf_64 rfl rfl ?_
      refine V_get (v := .ref (wad w 205 0)) G fgX1_31 rfl eX1_wordsOf_65 ?_
      refine V_iload_n (i := 3) G eX1_wordsOf_68 rfl rfl ?_
      refine V_iconst (n := 1) (v := (nI 1)) G eX1_wordsOf_69 rfl ?_
      refine V_iadd G eX1_wordsOf_70 ?_
      refine V_aload_n (i := 0) G eX1_wordsOf_71 rfl rfl ?_
      refine V_iload_n (i := 3) G eX1_wordsOf_72 rfl rfl ?_
      refine V_aload_n (i := 0) G eX1_wordsOf_73 rfl rfl ?_
      refine V_get (v := .ref (wad w 205 0)) G fgX1_31 rfl eX1_wordsOf_74 ?_
      refine V_aload_n (i := 0) G eX1_wordsOf_77 rfl rfl ?_
      refine V_get (v := .ref (wad w 200 0)) G fgX1_9 rfl eX1_wordsOf_78 ?_
      refine V_iload_n (i := 3) G eX1_wordsOf_81 rfl rfl ?_
      refine V_iald G al_200 (by decide) eX1_wordsOf_82 h (fun x1 h => ?_)
      refine V_iconst (n := 1) (v := (nI 1)) G eX1_wordsOf_83 rfl ?_
      refine V_iadd G eX1_wordsOf_84 ?_
      refine V_iald G al_205 (by decide) eX1_wordsOf_85 h (fun x2 h => ?_)
      obtain ⟨x3, h1, h⟩ := bdS h
      refine V_callI (As := [.int v3, .int x2]) (st := [.int (v3 + (nI 1)), .ref (wad w 205 0)]) G lkX1_62 (Copies_wordsBelow_ok h1) (by decide) rfl rfl (Nat.le_of_ble_eq_true rfl) eX1_wordsOf_86 ?_
      refine V_iast G al_205 (by decide) eX1_wordsOf_89 h (fun μ4 h => ?_)
      refine V_iinc (z := (nI 1)) (L' := (fun x5 => [some (.ref (wad w 1 0)), some (.int v1), none, some (.int x5)])) G eX1_wordsOf_90 rfl rfl (by decide) rfl (fun _ => rfl) h (fun x5 h => ?_)
      refine V_goto G eX1_wordsOf_93 ?_
      exact (ih h K)
set_option maxRecDepth 100000 in
set_option maxHeartbeats 4000000 in
theorem Copies_wordsOf_run {p : Program} {l : Launch} {e : Env} {R : Room} {s : State} {m : MethodId} {args : Array Value} {below : List Frame} {meth : Method} {c : Code} {w : Wld} (G : Cxt p R s m args meth c w cX1_wordsOf 4 "PotBook$Copies" 4 0 0) (hr : meth.sig.returnType = some .int) {a1 : Int32} {μ : Mem} {r : Int32} {μ' : Mem} (h : Copies_wordsOf a1 μ = some (r, μ')) : Vj p l e R s m args below meth c w 4 0 0 (MQ below (QI w r μ') args s 0 0 w.2.2.2) 0 [some (.ref (wad w 1 0)), some (.int a1), none, none] [] μ := by
  unfold Copies_wordsOf at h
  refine V_aload_n (i := 0) G eX1_wordsOf_0 rfl rfl ?_
  refine V_get (v := .ref (wad w 10203 0)) G fgX1_23 rfl eX1_wordsOf_1 ?_
  refine V_iconst (n := 0) (v := (nI 0)) G eX1_wordsOf_4 rfl ?_
  refine V_aaldI (id := 203) G al_10203 eX1_wordsOf_5 h (fun r1 hr1 h => ?_)
  refine V_aload_n (i := 0) G eX1_wordsOf_6 rfl rfl ?_
  obtain ⟨x2, h1, h⟩ := bdS h
  refine V_callI (As := []) (st := [.ref (wad w 203 r1)]) G lkX1_58 (Copies_cheapest_ok h1) (by decide) rfl rfl (Nat.le_of_ble_eq_true rfl) eX1_wordsOf_7 ?_
  refine V_iald G al_203 hr1 eX1_wordsOf_10 h (fun x3 h => ?_)
  refine V_istoreA_n (i := 2) (L' := [some (.ref (wad w 1 0)), some (.int a1), some (.int x3), none]) G rfl eX1_wordsOf_11 (by decide) rfl rfl ?_
  refine V_aload_n (i := 0) G eX1_wordsOf_12 rfl rfl ?_
  refine V_get (v := .ref (wad w 205 0)) G fgX1_31 rfl eX1_wordsOf_13 ?_
  refine V_iconst (n := 0) (v := (nI 0)) G eX1_wordsOf_16 rfl ?_
  refine V_iconst (n := 0) (v := (nI 0)) G eX1_wordsOf_17 rfl ?_
  refine V_iast G al_205 (by decide) eX1_wordsOf_18 h (fun μ4 h => ?_)
  refine V_iconst (n := 0) (v := (nI 0)) G eX1_wordsOf_19 rfl ?_
  refine V_istoreA_n (i := 3) (L' := [some (.ref (wad w 1 0)), some (.int a1), some (.int x3), some (.int (nI 0))]) G rfl eX1_wordsOf_20 (by decide) rfl rfl ?_
  obtain ⟨μ5, h1, h⟩ := bdS h
  refine Copies_wordsOf_l1_ok G h1 ?_
  refine V_iconst (n := 0) (v := (nI 0)) G eX1_wordsOf_57 rfl ?_
  refine V_istoreA_n (i := 3) (L' := [some (.ref (wad w 1 0)), some (.int a1), none, some (.int (nI 0))]) G rfl eX1_wordsOf_58 (by decide) rfl rfl ?_
  obtain ⟨μ6, h1, h⟩ := bdS h
  refine Copies_wordsOf_l2_ok G h1 ?_
  refine V_aload_n (i := 0) G eX1_wordsOf_96 rfl rfl ?_
  refine V_get (v := .ref (wad w 205 0)) G fgX1_31 rfl eX1_wordsOf_97 ?_
  refine V_iload_n (i := 1) G eX1_wordsOf_100 rfl rfl ?_
  refine V_iconst (n := 1) (v := (nI 1)) G eX1_wordsOf_101 rfl ?_
  refine V_iadd G eX1_wordsOf_102 ?_
  refine V_iald G al_205 (by decide) eX1_wordsOf_103 h (fun x7 h => ?_)
  exact V_riM G hr eX1_wordsOf_104 h
theorem Copies_wordsOf_ok {l : Launch} {w : Wld} {a1 : Int32} {μ : Mem} {r : Int32} {μ' : Mem} (h : Copies_wordsOf a1 μ = some (r, μ')) : CtI l w yX1_wordsOf cX1_wordsOf 4 .int 4 [.ref (wad w 1 0), .int a1] μ r μ' :=
  Ct_of (own := "PotBook$Copies") [some (.ref (wad w 1 0)), some (.int a1), none, none] (by decide +kernel) rfl rfl (Nat.le_of_ble_eq_true rfl) fun p e s m args below meth c G hr => Copies_wordsOf_run G hr h
set_option maxRecDepth 100000 in
set_option maxHeartbeats 4000000 in
theorem B_could_run {p : Program} {l : Launch} {e : Env} {R : Room} {s : State} {m : MethodId} {args : Array Value} {below : List Frame} {meth : Method} {c : Code} {w : Wld} (G : Cxt p R s m args meth c w cX11_could 2 "PotBook" 5 0 0) (hr : meth.sig.returnType = some .int) {a1 : Int32} {μ : Mem} {r : Int32} {μ' : Mem} (h : B_could a1 μ = some (r, μ')) : Vj p l e R s m args below meth c w 2 0 0 (MQ below (QI w r μ') args s 0 0 w.2.2.2) 0 [some (.ref (wad w 11 0)), some (.int a1)] [] μ := by
  unfold B_could at h
  refine V_aload_n (i := 0) G eX11_could_0 rfl rfl ?_
  refine V_get (v := .ref (wad w 1 0)) G fgX11_78 rfl eX11_could_1 ?_
  refine V_iload_n (i := 1) G eX11_could_4 rfl rfl ?_
  obtain ⟨x1, h1, h⟩ := bdS h
  refine V_callI (As := [.int a1]) (st := []) G lkX11_233 (Copies_has_ok h1) (by decide) rfl rfl (Nat.le_of_ble_eq_true rfl) eX11_could_5 ?_
  refine V_if_ne G eX11_could_8 h (fun h => ?_) (fun h => ?_)
  · refine V_aload_n (i := 0) G eX11_could_13 rfl rfl ?_
    refine V_get (v := .ref (wad w 1 0)) G fgX11_78 rfl eX11_could_14 ?_
    obtain ⟨μ2, h1, h⟩ := bdS h
    refine V_callV (As := []) (st := []) G lkX11_247 (Copies_reckon_ok h1) (by decide) rfl rfl (Nat.le_of_ble_eq_true rfl) eX11_could_17 ?_
    refine V_aload_n (i := 0) G eX11_could_20 rfl rfl ?_
    refine V_get (v := .ref (wad w 1 0)) G fgX11_78 rfl eX11_could_21 ?_
    refine V_iload_n (i := 1) G eX11_could_24 rfl rfl ?_
    obtain ⟨⟨x3, μ4⟩, h1, h⟩ := bdS h
    refine V_callI (As := [.int a1]) (st := []) G lkX11_263 (Copies_wordsOf_ok h1) (by decide) rfl rfl (Nat.le_of_ble_eq_true rfl) eX11_could_25 ?_
    exact V_riM G hr eX11_could_28 h
  · refine V_iconst (n := -1) (v := (-1)) G eX11_could_11 rfl ?_
    exact V_riM G hr eX11_could_12 h
theorem B_could_ok {l : Launch} {w : Wld} {a1 : Int32} {μ : Mem} {r : Int32} {μ' : Mem} (h : B_could a1 μ = some (r, μ')) : CtI l w yX11_could cX11_could 2 .int 5 [.ref (wad w 11 0), .int a1] μ r μ' :=
  Ct_of (own := "PotBook") [some (.ref (wad w 11 0)), some (.int a1)] (by decide +kernel) rfl rfl (Nat.le_of_ble_eq_true rfl) fun p e s m args below meth c G hr => B_could_run G hr h
set_option maxRecDepth 100000 in
set_option maxHeartbeats 4000000 in
theorem Account_put_run {p : Program} {l : Launch} {e : Env} {R : Room} {s : State} {m : MethodId} {args : Array Value} {below : List Frame} {meth : Method} {c : Code} {w : Wld} (G : Cxt p R s m args meth c w cX0_put 3 "PotBook$Account" 1 0 0) (hr : meth.sig.returnType = some .int) {a1 : Int32} {a2 : Int32} {μ : Mem} {r : Int32} {μ' : Mem} (h : Account_put a1 a2 μ = some (r, μ')) : Vj p l e R s m args below meth c w 3 0 0 (MQ below (QI w r μ') args s 0 0 w.2.2.2) 0 [some (.ref (wad w 0 0)), some (.int a1), some (.int a2)] [] μ := by
  unfold Account_put at h
  refine V_aload_n (i := 0) G eX0_put_0 rfl rfl ?_
  refine V_get (v := .ref (wad w 103 0)) G fgX0_9 rfl eX0_put_1 ?_
  refine V_aload_n (i := 0) G eX0_put_4 rfl rfl ?_
  refine V_get (v := .int (mI μ 106 0 0)) G fgX0_36 rfl eX0_put_5 ?_
  refine V_iload_n (i := 1) G eX0_put_8 rfl rfl ?_
  refine V_iast G al_103 (by decide) eX0_put_9 h (fun μ1 h => ?_)
  refine V_aload_n (i := 0) G eX0_put_10 rfl rfl ?_
  refine V_get (v := .ref (wad w 104 0)) G fgX0_15 rfl eX0_put_11 ?_
  refine V_aload_n (i := 0) G eX0_put_14 rfl rfl ?_
  refine V_get (v := .int (mI μ1 106 0 0)) G fgX0_36 rfl eX0_put_15 ?_
  refine V_iload_n (i := 2) G eX0_put_18 rfl rfl ?_
  refine V_zast G al_104 (by decide) eX0_put_19 h (fun μ2 h => ?_)
  refine V_aload_n (i := 0) G eX0_put_20 rfl rfl ?_
  refine V_dup G eX0_put_21 rfl ?_
  refine V_get (v := .int (mI μ2 106 0 0)) G fgX0_36 rfl eX0_put_22 ?_
  refine V_iconst (n := 1) (v := (nI 1)) G eX0_put_25 rfl ?_
  refine V_iadd G eX0_put_26 ?_
  refine V_put G fgX0_36 fp_0_6 eX0_put_27 h (fun μ3 h => ?_)
  refine V_aload_n (i := 0) G eX0_put_30 rfl rfl ?_
  refine V_get (v := .int (mI μ3 106 0 0)) G fgX0_36 rfl eX0_put_31 ?_
  refine V_iconst (n := 1) (v := (nI 1)) G eX0_put_34 rfl ?_
  refine V_isub G eX0_put_35 ?_
  exact V_riM G hr eX0_put_36 h
theorem Account_put_ok {l : Launch} {w : Wld} {a1 : Int32} {a2 : Int32} {μ : Mem} {r : Int32} {μ' : Mem} (h : Account_put a1 a2 μ = some (r, μ')) : CtI l w yX0_put cX0_put 3 .int 1 [.ref (wad w 0 0), .int a1, .int a2] μ r μ' :=
  Ct_of (own := "PotBook$Account") [some (.ref (wad w 0 0)), some (.int a1), some (.int a2)] (by decide +kernel) rfl rfl (Nat.le_of_ble_eq_true rfl) fun p e s m args below meth c G hr => Account_put_run G hr h
set_option maxRecDepth 100000 in
set_option maxHeartbeats 4000000 in
theorem B_day_run {p : Program} {l : Launch} {e : Env} {R : Room} {s : State} {m : MethodId} {args : Array Value} {below : List Frame} {meth : Method} {c : Code} {w : Wld} (G : Cxt p R s m args meth c w cX11_day 3 "PotBook" 2 0 0) (hr : meth.sig.returnType = some .int) {a1 : Int32} {a2 : Int32} {μ : Mem} {r : Int32} {μ' : Mem} (h : B_day a1 a2 μ = some (r, μ')) : Vj p l e R s m args below meth c w 3 0 0 (MQ below (QI w r μ') args s 0 0 w.2.2.2) 0 [some (.ref (wad w 11 0)), some (.int a1), some (.int a2)] [] μ := by
  unfold B_day at h
  refine V_iload_n (i := 1) G eX11_day_0 rfl rfl ?_
  refine V_iconst (n := 1) (v := (nI 1)) G eX11_day_1 rfl ?_
  refine V_bipush (n := 12) (v := (nI 12)) G eX11_day_2 rfl ?_
  obtain ⟨x1, h1, h⟩ := bdS h
  refine V_callIS (As := [.int a1, .int (nI 1), .int (nI 12)]) (st := []) G lkX11_127 (B_isWithin_ok (μ := μ) h1) (by decide) rfl rfl (Nat.le_of_ble_eq_true rfl) eX11_day_4 ?_
  refine V_if_eq G eX11_day_7 h (fun h => ?_) (fun h => ?_)
  · refine V_iconst (n := -1) (v := (-1)) G eX11_day_34 rfl ?_
    exact V_riM G hr eX11_day_35 h
  · refine V_aload_n (i := 0) G eX11_day_10 rfl rfl ?_
    refine V_get (v := .ref (wad w 0 0)) G fgX11_87 rfl eX11_day_11 ?_
    refine V_get (v := .int (mI μ 106 0 0)) G fgX11_266 rfl eX11_day_14 ?_
    refine V_bipush (n := 10) (v := (nI 10)) G eX11_day_17 rfl ?_
    refine V_icmp_ge G eX11_day_19 h (fun h => ?_) (fun h => ?_)
    · refine V_iconst (n := -1) (v := (-1)) G eX11_day_34 rfl ?_
      exact V_riM G hr eX11_day_35 h
    · refine V_aload_n (i := 0) G eX11_day_22 rfl rfl ?_
      refine V_get (v := .ref (wad w 0 0)) G fgX11_87 rfl eX11_day_23 ?_
      refine V_iload_n (i := 1) G eX11_day_26 rfl rfl ?_
      refine V_iload_n (i := 2) G eX11_day_27 rfl rfl ?_
      obtain ⟨⟨x2, μ3⟩, h1, h⟩ := bdS h
      refine V_callI (As := [.int a1, .int a2]) (st := []) G lkX11_267 (Account_put_ok h1) (by decide) rfl rfl (Nat.le_of_ble_eq_true rfl) eX11_day_28 ?_
      refine V_goto G eX11_day_31 ?_
      exact V_riM G hr eX11_day_35 h
theorem B_day_ok {l : Launch} {w : Wld} {a1 : Int32} {a2 : Int32} {μ : Mem} {r : Int32} {μ' : Mem} (h : B_day a1 a2 μ = some (r, μ')) : CtI l w yX11_day cX11_day 3 .int 2 [.ref (wad w 11 0), .int a1, .int a2] μ r μ' :=
  Ct_of (own := "PotBook") [some (.ref (wad w 11 0)), some (.int a1), some (.int a2)] (by decide +kernel) rfl rfl (Nat.le_of_ble_eq_true rfl) fun p e s m args below meth c G hr => B_day_run G hr h
set_option maxRecDepth 100000 in
set_option maxHeartbeats 4000000 in
theorem Account_has_run {p : Program} {l : Launch} {e : Env} {R : Room} {s : State} {m : MethodId} {args : Array Value} {below : List Frame} {meth : Method} {c : Code} {w : Wld} (G : Cxt p R s m args meth c w cX0_has 2 "PotBook$Account" 1 0 0) (hr : meth.sig.returnType = some .boolean) {a1 : Int32} {μ : Mem} {r : Int32} (h : Account_has a1 μ = some r) : Vj p l e R s m args below meth c w 2 0 0 (MQ below (QI w r μ) args s 0 0 w.2.2.2) 0 [some (.ref (wad w 0 0)), some (.int a1)] [] μ := by
  unfold Account_has at h
  refine V_iload_n (i := 1) G eX0_has_0 rfl rfl ?_
  refine V_if_lt G eX0_has_1 h (fun h => ?_) (fun h => ?_)
  · refine V_iconst (n := 0) (v := (nI 0)) G eX0_has_16 rfl ?_
    exact V_rz G hr eX0_has_17 h
  · refine V_iload_n (i := 1) G eX0_has_4 rfl rfl ?_
    refine V_aload_n (i := 0) G eX0_has_5 rfl rfl ?_
    refine V_get (v := .int (mI μ 106 0 0)) G fgX0_36 rfl eX0_has_6 ?_
    refine V_icmp_ge G eX0_has_9 h (fun h => ?_) (fun h => ?_)
    · refine V_iconst (n := 0) (v := (nI 0)) G eX0_has_16 rfl ?_
      exact V_rz G hr eX0_has_17 h
    · refine V_iconst (n := 1) (v := (nI 1)) G eX0_has_12 rfl ?_
      refine V_goto G eX0_has_13 ?_
      exact V_rz G hr eX0_has_17 h
theorem Account_has_ok {l : Launch} {w : Wld} {a1 : Int32} {μ : Mem} {r : Int32} (h : Account_has a1 μ = some r) : CtI l w yX0_has cX0_has 2 .boolean 1 [.ref (wad w 0 0), .int a1] μ r μ :=
  Ct_of (own := "PotBook$Account") [some (.ref (wad w 0 0)), some (.int a1)] (by decide +kernel) rfl rfl (Nat.le_of_ble_eq_true rfl) fun p e s m args below meth c G hr => Account_has_run G hr h
set_option maxRecDepth 100000 in
set_option maxHeartbeats 4000000 in
theorem B_bought_run {p : Program} {l : Launch} {e : Env} {R : Room} {s : State} {m : MethodId} {args : Array Value} {below : List Frame} {meth : Method} {c : Code} {w : Wld} (G : Cxt p R s m args meth c w cX11_bought 4 "PotBook" 2 0 0) (hr : meth.sig.returnType = some .boolean) {a1 : Int32} {a2 : Int32} {a3 : Int32} {μ : Mem} {r : Int32} {μ' : Mem} (h : B_bought a1 a2 a3 μ = some (r, μ')) : Vj p l e R s m args below meth c w 4 0 0 (MQ below (QI w r μ') args s 0 0 w.2.2.2) 0 [some (.ref (wad w 11 0)), some (.int a1), some (.int a2), some (.int a3)] [] μ := by
  unfold B_bought at h
  refine V_aload_n (i := 0) G eX11_bought_0 rfl rfl ?_
  refine V_get (v := .ref (wad w 0 0)) G fgX11_87 rfl eX11_bought_1 ?_
  refine V_iload_n (i := 1) G eX11_bought_4 rfl rfl ?_
  obtain ⟨x1, h1, h⟩ := bdS h
  refine V_callI (As := [.int a1]) (st := []) G lkX11_270 (Account_has_ok h1) (by decide) rfl rfl (Nat.le_of_ble_eq_true rfl) eX11_bought_5 ?_
  refine V_if_eq G eX11_bought_8 h (fun h => ?_) (fun h => ?_)
  · refine V_iconst (n := 0) (v := (nI 0)) G eX11_bought_33 rfl ?_
    exact V_rzM G hr eX11_bought_34 h
  · refine V_aload_n (i := 0) G eX11_bought_11 rfl rfl ?_
    refine V_get (v := .ref (wad w 7 0)) G fgX11_19 rfl eX11_bought_12 ?_
    refine V_iload_n (i := 2) G eX11_bought_15 rfl rfl ?_
    obtain ⟨x2, h1, h⟩ := bdS h
    refine V_callI (As := [.int a2]) (st := []) G lkX11_142 (Pantry_has_ok h1) (by decide) rfl rfl (Nat.le_of_ble_eq_true rfl) eX11_bought_16 ?_
    refine V_if_eq G eX11_bought_19 h (fun h => ?_) (fun h => ?_)
    · refine V_iconst (n := 0) (v := (nI 0)) G eX11_bought_33 rfl ?_
      exact V_rzM G hr eX11_bought_34 h
    · refine V_iload_n (i := 3) G eX11_bought_22 rfl rfl ?_
      refine V_iconst (n := 0) (v := (nI 0)) G eX11_bought_23 rfl ?_
      refine V_sipush (n := 999) (v := (nI 999)) G eX11_bought_24 rfl ?_
      obtain ⟨x3, h1, h⟩ := bdS h
      refine V_callIS (As := [.int a3, .int (nI 0), .int (nI 999)]) (st := []) G lkX11_127 (B_isWithin_ok (μ := μ) h1) (by decide) rfl rfl (Nat.le_of_ble_eq_true rfl) eX11_bought_27 ?_
      refine V_if_ne G eX11_bought_30 h (fun h => ?_) (fun h => ?_)
      · refine V_aload_n (i := 0) G eX11_bought_35 rfl rfl ?_
        refine V_get (v := .ref (wad w 0 0)) G fgX11_87 rfl eX11_bought_36 ?_
        refine V_get (v := .ref (wad w 10105 0)) G fgX11_271 rfl eX11_bought_39 ?_
        refine V_iload_n (i := 1) G eX11_bought_42 rfl rfl ?_
        refine V_aaldI (id := 105) G al_10105 eX11_bought_43 h (fun r4 hr4 h => ?_)
        refine V_iload_n (i := 2) G eX11_bought_44 rfl rfl ?_
        refine V_iload_n (i := 3) G eX11_bought_45 rfl rfl ?_
        refine V_iast G al_105 hr4 eX11_bought_46 h (fun μ5 h => ?_)
        refine V_iconst (n := 1) (v := (nI 1)) G eX11_bought_47 rfl ?_
        exact V_rzM G hr eX11_bought_48 h
      · refine V_iconst (n := 0) (v := (nI 0)) G eX11_bought_33 rfl ?_
        exact V_rzM G hr eX11_bought_34 h
theorem B_bought_ok {l : Launch} {w : Wld} {a1 : Int32} {a2 : Int32} {a3 : Int32} {μ : Mem} {r : Int32} {μ' : Mem} (h : B_bought a1 a2 a3 μ = some (r, μ')) : CtI l w yX11_bought cX11_bought 4 .boolean 2 [.ref (wad w 11 0), .int a1, .int a2, .int a3] μ r μ' :=
  Ct_of (own := "PotBook") [some (.ref (wad w 11 0)), some (.int a1), some (.int a2), some (.int a3)] (by decide +kernel) rfl rfl (Nat.le_of_ble_eq_true rfl) fun p e s m args below meth c G hr => B_bought_run G hr h
set_option maxRecDepth 100000 in
set_option maxHeartbeats 4000000 in
theorem Pages_monthsOf_l1_ok {p : Program} {l : Launch} {e : Env} {R : Room} {s : State} {m : MethodId} {args : Array Value} {below : List Frame} {meth : Method} {c : Code} {w : Wld} {Q : State → Prop} (G : Cxt p R s m args meth c w cX6_monthsOf 4 "PotBook$Pages" 1 0 0) {v1 : Int32} {μ : Mem} {o1 : Int32} : ∀ {n : Nat} {v2 : Int32} {v3 : Int32}, Pages_monthsOf_l1 v1 μ n v2 v3 = some o1 → Vj p l e R s m args below meth c w 4 0 0 Q 41 [none, none, some (.int o1), none] [] μ → Vj p l e R s m args below meth c w 4 0 0 Q 6 [some (.ref (wad w 6 0)), some (.int v1), some (.int v2), some (.int v3)] [] μ := by
  intro n
  induction n with
  | zero => intro v2 v3 h K; exact noS h
  | succ n ih =>
    intro v2 v3 h K
    replace h : Pages_monthsOf_l1b v1 μ (Pages_monthsOf_l1 v1 μ n) v2 v3 = some o1 := h
    unfold Pages_monthsOf_l1b at h
    refine V_iload_n (i := 3) G eX6_monthsOf_6 rfl rfl ?_
    refine V_aload_n (i := 0) G eX6_monthsOf_7 rfl rfl ?_
    refine V_get (v := .ref (wad w 702 0)) G fgX6_9 rfl eX6_monthsOf_8 ?_
    refine V_iload_n (i := 1) G eX6_monthsOf_11 rfl rfl ?_
    refine V_iald G al_702 (by decide) eX6_monthsOf_12 h (fun x1 h => ?_)
    refine V_icmp_ge G eX6_monthsOf_13 h (fun h => ?_) (fun h => ?_)
    · cases h; exact V_sub (lS_n (lS_n (lS_s (lS_n lS_0)))) K
    · refine V_iload_n (i := 2) G eX6_monthsOf_16 rfl rfl ?_
      refine V_aload_n (i := 0) G eX6_monthsOf_17 rfl rfl ?_
      refine V_get (v := .ref (wad w 7 0)) G fgX6_48 rfl eX6_monthsOf_18 ?_
      refine V_get (v := .ref (wad w 803 0)) G fgX6_121 rfl eX6_monthsOf_21 ?_
      refine V_aload_n (i := 0) G eX6_monthsOf_24 rfl rfl ?_
      refine V_get (v := .ref (wad w 10703 0)) G fgX6_17 rfl eX6_monthsOf_25 ?_
      refine V_iload_n (i := 1) G eX6_monthsOf_28 rfl rfl ?_
      refine V_aaldI (id := 703) G al_10703 eX6_monthsOf_29 h (fun r2 hr2 h => ?_)
      refine V_iload_n (i := 3) G eX6_monthsOf_30 rfl rfl ?_
      refine V_iald G al_703 hr2 eX6_monthsOf_31 h (fun x3 h => ?_)
      refine V_iald G al_803 (by decide) eX6_monthsOf_32 h (fun x4 h => ?_)
      refine V_iand G eX6_monthsOf_33 ?_
      refine V_istore_n (i := 2) (L' := (fun x5 => [some (.ref (wad w 6 0)), some (.int v1), some (.int x5), some (.int v3)])) G rfl eX6_monthsOf_34 (by decide) rfl (fun _ => rfl) h (fun x5 h => ?_)
      refine V_iinc (z := (nI 1)) (L' := (fun x6 => [some (.ref (wad w 6 0)), some (.int v1), some (.int x5), some (.int x6)])) G eX6_monthsOf_35 rfl rfl (by decide) rfl (fun _ => rfl) h (fun x6 h => ?_)
      refine V_goto G eX6_monthsOf_38 ?_
      exact (ih h K)
set_option maxRecDepth 100000 in
set_option maxHeartbeats 4000000 in
theorem Pages_monthsOf_run {p : Program} {l : Launch} {e : Env} {R : Room} {s : State} {m : MethodId} {args : Array Value} {below : List Frame} {meth : Method} {c : Code} {w : Wld} (G : Cxt p R s m args meth c w cX6_monthsOf 4 "PotBook$Pages" 1 0 0) (hr : meth.sig.returnType = some .int) {a1 : Int32} {μ : Mem} {r : Int32} (h : Pages_monthsOf a1 μ = some r) : Vj p l e R s m args below meth c w 4 0 0 (MQ below (QI w r μ) args s 0 0 w.2.2.2) 0 [some (.ref (wad w 6 0)), some (.int a1), none, none] [] μ := by
  unfold Pages_monthsOf at h
  refine V_sipush (n := 4095) (v := (nI 4095)) G eX6_monthsOf_0 rfl ?_
  refine V_istoreA_n (i := 2) (L' := [some (.ref (wad w 6 0)), some (.int a1), some (.int (nI 4095)), none]) G rfl eX6_monthsOf_3 (by decide) rfl rfl ?_
  refine V_iconst (n := 0) (v := (nI 0)) G eX6_monthsOf_4 rfl ?_
  refine V_istoreA_n (i := 3) (L' := [some (.ref (wad w 6 0)), some (.int a1), some (.int (nI 4095)), some (.int (nI 0))]) G rfl eX6_monthsOf_5 (by decide) rfl rfl ?_
  obtain ⟨x1, h1, h⟩ := bdS h
  refine Pages_monthsOf_l1_ok G h1 ?_
  refine V_iload_n (i := 2) G eX6_monthsOf_41 rfl rfl ?_
  exact V_ri G hr eX6_monthsOf_42 h
theorem Pages_monthsOf_ok {l : Launch} {w : Wld} {a1 : Int32} {μ : Mem} {r : Int32} (h : Pages_monthsOf a1 μ = some r) : CtI l w yX6_monthsOf cX6_monthsOf 4 .int 1 [.ref (wad w 6 0), .int a1] μ r μ :=
  Ct_of (own := "PotBook$Pages") [some (.ref (wad w 6 0)), some (.int a1), none, none] (by decide +kernel) rfl rfl (Nat.le_of_ble_eq_true rfl) fun p e s m args below meth c G hr => Pages_monthsOf_run G hr h
set_option maxRecDepth 100000 in
set_option maxHeartbeats 4000000 in
theorem Pot_isCounted_run {p : Program} {l : Launch} {e : Env} {R : Room} {s : State} {m : MethodId} {args : Array Value} {below : List Frame} {meth : Method} {c : Code} {w : Wld} (G : Cxt p R s m args meth c w cX8_isCounted 2 "PotBook$Pot" 1 0 0) (hr : meth.sig.returnType = some .boolean) {a1 : Int32} {μ : Mem} {r : Int32} (h : Pot_isCounted a1 μ = some r) : Vj p l e R s m args below meth c w 2 0 0 (MQ below (QI w r μ) args s 0 0 w.2.2.2) 0 [some (.ref (wad w 8 0)), some (.int a1)] [] μ := by
  unfold Pot_isCounted at h
  refine V_aload_n (i := 0) G eX8_isCounted_0 rfl rfl ?_
  refine V_get (v := .ref (wad w 909 0)) G fgX8_27 rfl eX8_isCounted_1 ?_
  refine V_iload_n (i := 1) G eX8_isCounted_4 rfl rfl ?_
  refine V_iald G al_909 (by decide) eX8_isCounted_5 h (fun x1 h => ?_)
  refine V_aload_n (i := 0) G eX8_isCounted_6 rfl rfl ?_
  refine V_get (v := .int (mI μ 908 0 0)) G fgX8_69 rfl eX8_isCounted_7 ?_
  refine V_icmp_ne G eX8_isCounted_10 h (fun h => ?_) (fun h => ?_)
  · refine V_iconst (n := 0) (v := (nI 0)) G eX8_isCounted_17 rfl ?_
    exact V_rz G hr eX8_isCounted_18 h
  · refine V_iconst (n := 1) (v := (nI 1)) G eX8_isCounted_13 rfl ?_
    refine V_goto G eX8_isCounted_14 ?_
    exact V_rz G hr eX8_isCounted_18 h
theorem Pot_isCounted_ok {l : Launch} {w : Wld} {a1 : Int32} {μ : Mem} {r : Int32} (h : Pot_isCounted a1 μ = some r) : CtI l w yX8_isCounted cX8_isCounted 2 .boolean 1 [.ref (wad w 8 0), .int a1] μ r μ :=
  Ct_of (own := "PotBook$Pot") [some (.ref (wad w 8 0)), some (.int a1)] (by decide +kernel) rfl rfl (Nat.le_of_ble_eq_true rfl) fun p e s m args below meth c G hr => Pot_isCounted_run G hr h
set_option maxRecDepth 100000 in
set_option maxHeartbeats 4000000 in
theorem Account_isServed_run {p : Program} {l : Launch} {e : Env} {R : Room} {s : State} {m : MethodId} {args : Array Value} {below : List Frame} {meth : Method} {c : Code} {w : Wld} (G : Cxt p R s m args meth c w cX0_isServed 4 "PotBook$Account" 5 0 0) (hr : meth.sig.returnType = some .boolean) {a1 : Int32} {a2 : Int32} {μ : Mem} {r : Int32} {μ' : Mem} (h : Account_isServed a1 a2 μ = some (r, μ')) : Vj p l e R s m args below meth c w 4 0 0 (MQ below (QI w r μ') args s 0 0 w.2.2.2) 0 [some (.ref (wad w 0 0)), some (.int a1), some (.int a2), none] [] μ := by
  unfold Account_isServed at h
  refine V_aload_n (i := 0) G eX0_isServed_0 rfl rfl ?_
  refine V_get (v := .ref (wad w 104 0)) G fgX0_15 rfl eX0_isServed_1 ?_
  refine V_iload_n (i := 1) G eX0_isServed_4 rfl rfl ?_
  refine V_zald G al_104 (by decide) eX0_isServed_5 h (fun x1 h => ?_)
  obtain ⟨k3, hkk3, h⟩ := kE h
  have Jk3 :  k3 () = some (r, μ') → Vj p l e R s m args below meth c w 4 0 0 (MQ below (QI w r μ') args s 0 0 w.2.2.2) 31 [some (.ref (wad w 0 0)), some (.int a1), some (.int a2), none] [] μ := by
    clear h
    intro h
    rw [hkk3] at h
    clear hkk3
    refine V_aload_n (i := 0) G eX0_isServed_31 rfl rfl ?_
    refine V_get (v := .ref (wad w 6 0)) G fgX0_24 rfl eX0_isServed_32 ?_
    refine V_iload_n (i := 2) G eX0_isServed_35 rfl rfl ?_
    obtain ⟨x4, h1, h⟩ := bdS h
    refine V_callI (As := [.int a2]) (st := []) G lkX0_50 (Pages_monthsOf_ok h1) (by decide) rfl rfl (Nat.le_of_ble_eq_true rfl) eX0_isServed_36 ?_
    refine V_aload_n (i := 0) G eX0_isServed_39 rfl rfl ?_
    refine V_get (v := .ref (wad w 103 0)) G fgX0_9 rfl eX0_isServed_40 ?_
    refine V_iload_n (i := 1) G eX0_isServed_43 rfl rfl ?_
    refine V_iald G al_103 (by decide) eX0_isServed_44 h (fun x5 h => ?_)
    refine V_iconst (n := 1) (v := (nI 1)) G eX0_isServed_45 rfl ?_
    refine V_isub G eX0_isServed_46 ?_
    obtain ⟨x6, h1, h⟩ := bdS h
    refine V_callIS (As := [.int x4, .int (x5 - (nI 1))]) (st := []) G lkX0_54 (B_holdsBit_ok (μ := μ) h1) (by decide) rfl rfl (Nat.le_of_ble_eq_true rfl) eX0_isServed_47 ?_
    refine V_if_ne G eX0_isServed_50 h (fun h => ?_) (fun h => ?_)
    · refine V_aload_n (i := 0) G eX0_isServed_55 rfl rfl ?_
      refine V_get (v := .ref (wad w 8 0)) G fgX0_32 rfl eX0_isServed_56 ?_
      refine V_iload_n (i := 2) G eX0_isServed_59 rfl rfl ?_
      obtain ⟨x7, h1, h⟩ := bdS h
      refine V_callI (As := [.int a2]) (st := []) G lkX0_58 (Pot_isCounted_ok h1) (by decide) rfl rfl (Nat.le_of_ble_eq_true rfl) eX0_isServed_60 ?_
      obtain ⟨⟨x11, μ12⟩, hj, h⟩ := bdS h
      have J : Vj p l e R s m args below meth c w 4 0 0 (MQ below (QI w r μ') args s 0 0 w.2.2.2) 86 [none, none, none, none] [.int x11] μ12 := by
        clear hj
        refine V_istoreA_n (i := 3) (L' := [none, none, none, some (.int x11)]) G rfl eX0_isServed_86 (by decide) rfl rfl ?_
        refine V_iload_n (i := 3) G eX0_isServed_87 rfl rfl ?_
        refine V_iconst (n := 1) (v := (nI 1)) G eX0_isServed_88 rfl ?_
        refine V_icmp_ne G eX0_isServed_89 h (fun h => ?_) (fun h => ?_)
        · refine V_iconst (n := 0) (v := (nI 0)) G eX0_isServed_96 rfl ?_
          exact V_rzM G hr eX0_isServed_97 h
        · refine V_iconst (n := 1) (v := (nI 1)) G eX0_isServed_92 rfl ?_
          refine V_goto G eX0_isServed_93 ?_
          exact V_rzM G hr eX0_isServed_97 h
      replace h := hj
      clear hj
      refine V_if_eq G eX0_isServed_63 h (fun h => ?_) (fun h => ?_)
      · refine V_aload_n (i := 0) G eX0_isServed_78 rfl rfl ?_
        refine V_get (v := .ref (wad w 8 0)) G fgX0_32 rfl eX0_isServed_79 ?_
        refine V_iload_n (i := 2) G eX0_isServed_82 rfl rfl ?_
        obtain ⟨⟨x8, μ9⟩, h1, h⟩ := bdS h
        refine V_callI (As := [.int a2]) (st := []) G lkX0_67 (Pot_lay_ok h1) (by decide) rfl rfl (Nat.le_of_ble_eq_true rfl) eX0_isServed_83 ?_
        cases h; exact V_sub (lS_n (lS_n (lS_n (lS_n lS_0)))) J
      · refine V_aload_n (i := 0) G eX0_isServed_66 rfl rfl ?_
        refine V_get (v := .ref (wad w 8 0)) G fgX0_32 rfl eX0_isServed_67 ?_
        refine V_get (v := .ref (wad w 910 0)) G fgX0_64 rfl eX0_isServed_70 ?_
        refine V_iload_n (i := 2) G eX0_isServed_73 rfl rfl ?_
        refine V_iald G al_910 (by decide) eX0_isServed_74 h (fun x10 h => ?_)
        refine V_goto G eX0_isServed_75 ?_
        cases h; exact V_sub (lS_n (lS_n (lS_n (lS_n lS_0)))) J
    · refine V_iconst (n := 0) (v := (nI 0)) G eX0_isServed_53 rfl ?_
      exact V_rzM G hr eX0_isServed_54 h
  refine V_if_eq G eX0_isServed_6 h (fun h => ?_) (fun h => ?_)
  · exact (Jk3 h)
  · refine V_aload_n (i := 0) G eX0_isServed_9 rfl rfl ?_
    refine V_get (v := .ref (wad w 6 0)) G fgX0_24 rfl eX0_isServed_10 ?_
    refine V_get (v := .ref (wad w 706 0)) G fgX0_40 rfl eX0_isServed_13 ?_
    refine V_iload_n (i := 2) G eX0_isServed_16 rfl rfl ?_
    refine V_iald G al_706 (by decide) eX0_isServed_17 h (fun x2 h => ?_)
    refine V_aload_n (i := 0) G eX0_isServed_18 rfl rfl ?_
    refine V_get (v := .ref (wad w 7 0)) G fgX0_28 rfl eX0_isServed_19 ?_
    refine V_get (v := .int (mI μ 807 0 0)) G fgX0_45 rfl eX0_isServed_22 ?_
    refine V_iand G eX0_isServed_25 ?_
    refine V_if_eq G eX0_isServed_26 h (fun h => ?_) (fun h => ?_)
    · exact (Jk3 h)
    · refine V_iconst (n := 0) (v := (nI 0)) G eX0_isServed_29 rfl ?_
      exact V_rzM G hr eX0_isServed_30 h
theorem Account_isServed_ok {l : Launch} {w : Wld} {a1 : Int32} {a2 : Int32} {μ : Mem} {r : Int32} {μ' : Mem} (h : Account_isServed a1 a2 μ = some (r, μ')) : CtI l w yX0_isServed cX0_isServed 4 .boolean 5 [.ref (wad w 0 0), .int a1, .int a2] μ r μ' :=
  Ct_of (own := "PotBook$Account") [some (.ref (wad w 0 0)), some (.int a1), some (.int a2), none] (by decide +kernel) rfl rfl (Nat.le_of_ble_eq_true rfl) fun p e s m args below meth c G hr => Account_isServed_run G hr h
set_option maxRecDepth 100000 in
set_option maxHeartbeats 4000000 in
theorem B_may_run {p : Program} {l : Launch} {e : Env} {R : Room} {s : State} {m : MethodId} {args : Array Value} {below : List Frame} {meth : Method} {c : Code} {w : Wld} (G : Cxt p R s m args meth c w cX11_may 3 "PotBook" 6 0 0) (hr : meth.sig.returnType = some .int) {a1 : Int32} {a2 : Int32} {μ : Mem} {r : Int32} {μ' : Mem} (h : B_may a1 a2 μ = some (r, μ')) : Vj p l e R s m args below meth c w 3 0 0 (MQ below (QI w r μ') args s 0 0 w.2.2.2) 0 [some (.ref (wad w 11 0)), some (.int a1), some (.int a2)] [] μ := by
  unfold B_may at h
  refine V_aload_n (i := 0) G eX11_may_0 rfl rfl ?_
  refine V_get (v := .ref (wad w 0 0)) G fgX11_87 rfl eX11_may_1 ?_
  refine V_iload_n (i := 1) G eX11_may_4 rfl rfl ?_
  obtain ⟨x1, h1, h⟩ := bdS h
  refine V_callI (As := [.int a1]) (st := []) G lkX11_270 (Account_has_ok h1) (by decide) rfl rfl (Nat.le_of_ble_eq_true rfl) eX11_may_5 ?_
  refine V_if_eq G eX11_may_8 h (fun h => ?_) (fun h => ?_)
  · refine V_iconst (n := -1) (v := (-1)) G eX11_may_22 rfl ?_
    exact V_riM G hr eX11_may_23 h
  · refine V_aload_n (i := 0) G eX11_may_11 rfl rfl ?_
    refine V_get (v := .ref (wad w 6 0)) G fgX11_28 rfl eX11_may_12 ?_
    refine V_iload_n (i := 2) G eX11_may_15 rfl rfl ?_
    obtain ⟨x2, h1, h⟩ := bdS h
    refine V_callI (As := [.int a2]) (st := []) G lkX11_156 (Pages_has_ok h1) (by decide) rfl rfl (Nat.le_of_ble_eq_true rfl) eX11_may_16 ?_
    refine V_if_ne G eX11_may_19 h (fun h => ?_) (fun h => ?_)
    · refine V_aload_n (i := 0) G eX11_may_24 rfl rfl ?_
      refine V_get (v := .ref (wad w 0 0)) G fgX11_87 rfl eX11_may_25 ?_
      refine V_iload_n (i := 1) G eX11_may_28 rfl rfl ?_
      refine V_iload_n (i := 2) G eX11_may_29 rfl rfl ?_
      obtain ⟨⟨x3, μ4⟩, h1, h⟩ := bdS h
      refine V_callI (As := [.int a1, .int a2]) (st := []) G lkX11_274 (Account_isServed_ok h1) (by decide) rfl rfl (Nat.le_of_ble_eq_true rfl) eX11_may_30 ?_
      refine V_if_eq G eX11_may_33 h (fun h => ?_) (fun h => ?_)
      · refine V_iconst (n := 0) (v := (nI 0)) G eX11_may_40 rfl ?_
        exact V_riM G hr eX11_may_41 h
      · refine V_iconst (n := 1) (v := (nI 1)) G eX11_may_36 rfl ?_
        refine V_goto G eX11_may_37 ?_
        exact V_riM G hr eX11_may_41 h
    · refine V_iconst (n := -1) (v := (-1)) G eX11_may_22 rfl ?_
      exact V_riM G hr eX11_may_23 h
theorem B_may_ok {l : Launch} {w : Wld} {a1 : Int32} {a2 : Int32} {μ : Mem} {r : Int32} {μ' : Mem} (h : B_may a1 a2 μ = some (r, μ')) : CtI l w yX11_may cX11_may 3 .int 6 [.ref (wad w 11 0), .int a1, .int a2] μ r μ' :=
  Ct_of (own := "PotBook") [some (.ref (wad w 11 0)), some (.int a1), some (.int a2)] (by decide +kernel) rfl rfl (Nat.le_of_ble_eq_true rfl) fun p e s m args below meth c G hr => B_may_run G hr h
set_option maxRecDepth 100000 in
set_option maxHeartbeats 4000000 in
theorem B_isAsked_run {p : Program} {l : Launch} {e : Env} {R : Room} {s : State} {m : MethodId} {args : Array Value} {below : List Frame} {meth : Method} {c : Code} {w : Wld} (G : Cxt p R s m args meth c w cX11_isAsked 4 "PotBook" 2 0 0) (hr : meth.sig.returnType = some .boolean) {a1 : Int32} {a2 : Int32} {a3 : Int32} {μ : Mem} {r : Int32} (h : B_isAsked a1 a2 a3 μ = some r) : Vj p l e R s m args below meth c w 4 0 0 (MQ below (QI w r μ) args s 0 0 w.2.2.2) 0 [some (.ref (wad w 11 0)), some (.int a1), some (.int a2), some (.int a3)] [] μ := by
  unfold B_isAsked at h
  refine V_aload_n (i := 0) G eX11_isAsked_0 rfl rfl ?_
  refine V_get (v := .ref (wad w 0 0)) G fgX11_87 rfl eX11_isAsked_1 ?_
  refine V_iload_n (i := 1) G eX11_isAsked_4 rfl rfl ?_
  obtain ⟨x1, h1, h⟩ := bdS h
  refine V_callI (As := [.int a1]) (st := []) G lkX11_270 (Account_has_ok h1) (by decide) rfl rfl (Nat.le_of_ble_eq_true rfl) eX11_isAsked_5 ?_
  refine V_if_eq G eX11_isAsked_8 h (fun h => ?_) (fun h => ?_)
  · refine V_iconst (n := 0) (v := (nI 0)) G eX11_isAsked_21 rfl ?_
    exact V_rz G hr eX11_isAsked_22 h
  · refine V_iload_n (i := 3) G eX11_isAsked_11 rfl rfl ?_
    refine V_iconst (n := 0) (v := (nI 0)) G eX11_isAsked_12 rfl ?_
    refine V_bipush (n := 99) (v := (nI 99)) G eX11_isAsked_13 rfl ?_
    obtain ⟨x2, h1, h⟩ := bdS h
    refine V_callIS (As := [.int a3, .int (nI 0), .int (nI 99)]) (st := []) G lkX11_127 (B_isWithin_ok (μ := μ) h1) (by decide) rfl rfl (Nat.le_of_ble_eq_true rfl) eX11_isAsked_15 ?_
    refine V_if_ne G eX11_isAsked_18 h (fun h => ?_) (fun h => ?_)
    · refine V_iload_n (i := 2) G eX11_isAsked_23 rfl rfl ?_
      refine V_if_le G eX11_isAsked_24 h (fun h => ?_) (fun h => ?_)
      · refine V_iconst (n := 0) (v := (nI 0)) G eX11_isAsked_52 rfl ?_
        exact V_rz G hr eX11_isAsked_53 h
      · refine V_iload_n (i := 2) G eX11_isAsked_27 rfl rfl ?_
        refine V_iconst (n := 1) (v := (nI 1)) G eX11_isAsked_28 rfl ?_
        refine V_aload_n (i := 0) G eX11_isAsked_29 rfl rfl ?_
        refine V_get (v := .ref (wad w 6 0)) G fgX11_28 rfl eX11_isAsked_30 ?_
        refine V_get (v := .int (mI μ 712 0 0)) G fgX11_120 rfl eX11_isAsked_33 ?_
        refine V_ishl G eX11_isAsked_36 ?_
        refine V_icmp_ge G eX11_isAsked_37 h (fun h => ?_) (fun h => ?_)
        · refine V_iconst (n := 0) (v := (nI 0)) G eX11_isAsked_52 rfl ?_
          exact V_rz G hr eX11_isAsked_53 h
        · refine V_iload_n (i := 2) G eX11_isAsked_40 rfl rfl ?_
          obtain ⟨x3, h1, h⟩ := bdS h
          refine V_callIS (As := [.int a2]) (st := []) G lkX11_362 (J_bitCount_ok (μ := μ) h1) (by decide) rfl rfl (Nat.le_of_ble_eq_true rfl) eX11_isAsked_41 ?_
          refine V_iconst (n := 5) (v := (nI 5)) G eX11_isAsked_44 rfl ?_
          refine V_icmp_gt G eX11_isAsked_45 h (fun h => ?_) (fun h => ?_)
          · refine V_iconst (n := 0) (v := (nI 0)) G eX11_isAsked_52 rfl ?_
            exact V_rz G hr eX11_isAsked_53 h
          · refine V_iconst (n := 1) (v := (nI 1)) G eX11_isAsked_48 rfl ?_
            refine V_goto G eX11_isAsked_49 ?_
            exact V_rz G hr eX11_isAsked_53 h
    · refine V_iconst (n := 0) (v := (nI 0)) G eX11_isAsked_21 rfl ?_
      exact V_rz G hr eX11_isAsked_22 h
theorem B_isAsked_ok {l : Launch} {w : Wld} {a1 : Int32} {a2 : Int32} {a3 : Int32} {μ : Mem} {r : Int32} (h : B_isAsked a1 a2 a3 μ = some r) : CtI l w yX11_isAsked cX11_isAsked 4 .boolean 2 [.ref (wad w 11 0), .int a1, .int a2, .int a3] μ r μ :=
  Ct_of (own := "PotBook") [some (.ref (wad w 11 0)), some (.int a1), some (.int a2), some (.int a3)] (by decide +kernel) rfl rfl (Nat.le_of_ble_eq_true rfl) fun p e s m args below meth c G hr => B_isAsked_run G hr h
set_option maxRecDepth 100000 in
set_option maxHeartbeats 4000000 in
theorem Menus_setPlace_l1_ok {p : Program} {l : Launch} {e : Env} {R : Room} {s : State} {m : MethodId} {args : Array Value} {below : List Frame} {meth : Method} {c : Code} {w : Wld} {Q : State → Prop} (G : Cxt p R s m args meth c w cX5_setPlace 4 "PotBook$Menus" 1 0 0) {v1 : Int32} {v2 : Int32} {μo : Mem} : ∀ {n : Nat} {v3 : Int32} {μ : Mem}, Menus_setPlace_l1 v1 v2 n v3 μ = some μo → Vj p l e R s m args below meth c w 4 0 0 Q 55 [some (.ref (wad w 5 0)), some (.int v1), some (.int v2), none] [] μo → Vj p l e R s m args below meth c w 4 0 0 Q 31 [some (.ref (wad w 5 0)), some (.int v1), some (.int v2), some (.int v3)] [] μ := by
  intro n
  induction n with
  | zero => intro v3 μ h K; exact noS h
  | succ n ih =>
    intro v3 μ h K
    replace h : Menus_setPlace_l1b v1 v2 (Menus_setPlace_l1 v1 v2 n) v3 μ = some μo := h
    unfold Menus_setPlace_l1b at h
    refine V_iload_n (i := 3) G eX5_setPlace_31 rfl rfl ?_
    refine V_bipush (n := 12) (v := (nI 12)) G eX5_setPlace_32 rfl ?_
    refine V_icmp_ge G eX5_setPlace_34 h (fun h => ?_) (fun h => ?_)
    · cases h; exact V_sub (lS_s (lS_s (lS_s (lS_n lS_0)))) K
    · refine V_aload_n (i := 0) G eX5_setPlace_37 rfl rfl ?_
      refine V_get (v := .ref (wad w 10605 0)) G fgX5_20 rfl eX5_setPlace_38 ?_
      refine V_aload_n (i := 0) G eX5_setPlace_41 rfl rfl ?_
      refine V_get (v := .int (mI μ 610 0 0)) G fgX5_47 rfl eX5_setPlace_42 ?_
      refine V_aaldI (id := 605) G al_10605 eX5_setPlace_45 h (fun r1 hr1 h => ?_)
      refine V_iload_n (i := 3) G eX5_setPlace_46 rfl rfl ?_
      refine V_iconst (n := 0) (v := (nI 0)) G eX5_setPlace_47 rfl ?_
      refine V_iast G al_605 hr1 eX5_setPlace_48 h (fun μ2 h => ?_)
      refine V_iinc (z := (nI 1)) (L' := (fun x3 => [some (.ref (wad w 5 0)), some (.int v1), some (.int v2), some (.int x3)])) G eX5_setPlace_49 rfl rfl (by decide) rfl (fun _ => rfl) h (fun x3 h => ?_)
      refine V_goto G eX5_setPlace_52 ?_
      exact (ih h K)
set_option maxRecDepth 100000 in
set_option maxHeartbeats 4000000 in
theorem Menus_setPlace_l2_ok {p : Program} {l : Launch} {e : Env} {R : Room} {s : State} {m : MethodId} {args : Array Value} {below : List Frame} {meth : Method} {c : Code} {w : Wld} {Q : State → Prop} (G : Cxt p R s m args meth c w cX5_setPlace 4 "PotBook$Menus" 1 0 0) {v1 : Int32} {v2 : Int32} {μo : Mem} : ∀ {n : Nat} {v3 : Int32} {μ : Mem}, Menus_setPlace_l2 v1 v2 n v3 μ = some μo → Vj p l e R s m args below meth c w 4 0 0 Q 112 [some (.ref (wad w 5 0)), some (.int v1), none, none] [] μo → Vj p l e R s m args below meth c w 4 0 0 Q 57 [some (.ref (wad w 5 0)), some (.int v1), some (.int v2), some (.int v3)] [] μ := by
  intro n
  induction n with
  | zero => intro v3 μ h K; exact noS h
  | succ n ih =>
    intro v3 μ h K
    replace h : Menus_setPlace_l2b v1 v2 (Menus_setPlace_l2 v1 v2 n) v3 μ = some μo := h
    unfold Menus_setPlace_l2b at h
    refine V_iload_n (i := 3) G eX5_setPlace_57 rfl rfl ?_
    refine V_aload_n (i := 0) G eX5_setPlace_58 rfl rfl ?_
    refine V_get (v := .ref (wad w 6 0)) G fgX5_35 rfl eX5_setPlace_59 ?_
    refine V_get (v := .ref (wad w 702 0)) G fgX5_88 rfl eX5_setPlace_62 ?_
    refine V_iload_n (i := 1) G eX5_setPlace_65 rfl rfl ?_
    refine V_iald G al_702 (by decide) eX5_setPlace_66 h (fun x1 h => ?_)
    refine V_icmp_ge G eX5_setPlace_67 h (fun h => ?_) (fun h => ?_)
    · cases h; exact V_sub (lS_s (lS_s (lS_n (lS_n lS_0)))) K
    · refine V_iload_n (i := 2) G eX5_setPlace_70 rfl rfl ?_
      refine V_if_eq G eX5_setPlace_71 h (fun h => ?_) (fun h => ?_)
      · cases h; exact V_sub (lS_s (lS_s (lS_n (lS_n lS_0)))) K
      · refine V_aload_n (i := 0) G eX5_setPlace_74 rfl rfl ?_
        refine V_get (v := .ref (wad w 10605 0)) G fgX5_20 rfl eX5_setPlace_75 ?_
        refine V_aload_n (i := 0) G eX5_setPlace_78 rfl rfl ?_
        refine V_get (v := .int (mI μ 610 0 0)) G fgX5_47 rfl eX5_setPlace_79 ?_
        refine V_aaldI (id := 605) G al_10605 eX5_setPlace_82 h (fun r2 hr2 h => ?_)
        refine V_aload_n (i := 0) G eX5_setPlace_83 rfl rfl ?_
        refine V_get (v := .ref (wad w 6 0)) G fgX5_35 rfl eX5_setPlace_84 ?_
        refine V_get (v := .ref (wad w 10703 0)) G fgX5_91 rfl eX5_setPlace_87 ?_
        refine V_iload_n (i := 1) G eX5_setPlace_90 rfl rfl ?_
        refine V_aaldI (id := 703) G al_10703 eX5_setPlace_91 h (fun r3 hr3 h => ?_)
        refine V_iload_n (i := 3) G eX5_setPlace_92 rfl rfl ?_
        refine V_iald G al_703 hr3 eX5_setPlace_93 h (fun x4 h => ?_)
        refine V_aload_n (i := 0) G eX5_setPlace_94 rfl rfl ?_
        refine V_get (v := .ref (wad w 8 0)) G fgX5_39 rfl eX5_setPlace_95 ?_
        refine V_get (v := .ref (wad w 10911 0)) G fgX5_94 rfl eX5_setPlace_98 ?_
        refine V_iload_n (i := 1) G eX5_setPlace_101 rfl rfl ?_
        refine V_aaldI (id := 911) G al_10911 eX5_setPlace_102 h (fun r5 hr5 h => ?_)
        refine V_iload_n (i := 3) G eX5_setPlace_103 rfl rfl ?_
        refine V_iald G al_911 hr5 eX5_setPlace_104 h (fun x6 h => ?_)
        refine V_iast G al_605 hr2 eX5_setPlace_105 h (fun μ7 h => ?_)
        refine V_iinc (z := (nI 1)) (L' := (fun x8 => [some (.ref (wad w 5 0)), some (.int v1), some (.int v2), some (.int x8)])) G eX5_setPlace_106 rfl rfl (by decide) rfl (fun _ => rfl) h (fun x8 h => ?_)
        refine V_goto G eX5_setPlace_109 ?_
        exact (ih h K)
set_option maxRecDepth 100000 in
set_option maxHeartbeats 4000000 in
theorem Menus_setPlace_run {p : Program} {l : Launch} {e : Env} {R : Room} {s : State} {m : MethodId} {args : Array Value} {below : List Frame} {meth : Method} {c : Code} {w : Wld} (G : Cxt p R s m args meth c w cX5_setPlace 4 "PotBook$Menus" 1 0 0) (hr : meth.sig.returnType = none) {a1 : Int32} {a2 : Int32} {μ : Mem} {μ' : Mem} (h : Menus_setPlace a1 a2 μ = some μ') : Vj p l e R s m args below meth c w 4 0 0 (MQ below (QV w μ') args s 0 0 w.2.2.2) 0 [some (.ref (wad w 5 0)), some (.int a1), some (.int a2), none] [] μ := by
  unfold Menus_setPlace at h
  refine V_aload_n (i := 0) G eX5_setPlace_0 rfl rfl ?_
  refine V_get (v := .ref (wad w 603 0)) G fgX5_9 rfl eX5_setPlace_1 ?_
  refine V_aload_n (i := 0) G eX5_setPlace_4 rfl rfl ?_
  refine V_get (v := .int (mI μ 610 0 0)) G fgX5_47 rfl eX5_setPlace_5 ?_
  refine V_iload_n (i := 1) G eX5_setPlace_8 rfl rfl ?_
  refine V_iast G al_603 (by decide) eX5_setPlace_9 h (fun μ1 h => ?_)
  refine V_aload_n (i := 0) G eX5_setPlace_10 rfl rfl ?_
  refine V_get (v := .ref (wad w 604 0)) G fgX5_15 rfl eX5_setPlace_11 ?_
  refine V_aload_n (i := 0) G eX5_setPlace_14 rfl rfl ?_
  refine V_get (v := .int (mI μ1 610 0 0)) G fgX5_47 rfl eX5_setPlace_15 ?_
  refine V_iload_n (i := 2) G eX5_setPlace_18 rfl rfl ?_
  obtain ⟨x2, hj, h⟩ := bdS h
  have J : Vj p l e R s m args below meth c w 4 0 0 (MQ below (QV w μ') args s 0 0 w.2.2.2) 28 [some (.ref (wad w 5 0)), some (.int a1), some (.int a2), none] [.int x2, .int (mI μ1 610 0 0), .ref (wad w 604 0)] μ1 := by
    clear hj
    refine V_iast G al_604 (by decide) eX5_setPlace_28 h (fun μ3 h => ?_)
    refine V_iconst (n := 0) (v := (nI 0)) G eX5_setPlace_29 rfl ?_
    refine V_istoreA_n (i := 3) (L' := [some (.ref (wad w 5 0)), some (.int a1), some (.int a2), some (.int (nI 0))]) G rfl eX5_setPlace_30 (by decide) rfl rfl ?_
    obtain ⟨μ4, h1, h⟩ := bdS h
    refine Menus_setPlace_l1_ok G h1 ?_
    refine V_iconst (n := 0) (v := (nI 0)) G eX5_setPlace_55 rfl ?_
    refine V_istoreA_n (i := 3) (L' := [some (.ref (wad w 5 0)), some (.int a1), some (.int a2), some (.int (nI 0))]) G rfl eX5_setPlace_56 (by decide) rfl rfl ?_
    obtain ⟨μ5, h1, h⟩ := bdS h
    refine Menus_setPlace_l2_ok G h1 ?_
    refine V_aload_n (i := 0) G eX5_setPlace_112 rfl rfl ?_
    refine V_dup G eX5_setPlace_113 rfl ?_
    refine V_get (v := .int (mI μ5 611 0 0)) G fgX5_51 rfl eX5_setPlace_114 ?_
    refine V_aload_n (i := 0) G eX5_setPlace_117 rfl rfl ?_
    refine V_get (v := .ref (wad w 6 0)) G fgX5_35 rfl eX5_setPlace_118 ?_
    refine V_get (v := .ref (wad w 706 0)) G fgX5_99 rfl eX5_setPlace_121 ?_
    refine V_iload_n (i := 1) G eX5_setPlace_124 rfl rfl ?_
    refine V_iald G al_706 (by decide) eX5_setPlace_125 h (fun x6 h => ?_)
    refine V_ior G eX5_setPlace_126 ?_
    refine V_put G fgX5_51 fp_5_11 eX5_setPlace_127 h (fun μ7 h => ?_)
    refine V_aload_n (i := 0) G eX5_setPlace_130 rfl rfl ?_
    refine V_get (v := .ref (wad w 607 0)) G fgX5_26 rfl eX5_setPlace_131 ?_
    refine V_aload_n (i := 0) G eX5_setPlace_134 rfl rfl ?_
    refine V_get (v := .int (mI μ7 610 0 0)) G fgX5_47 rfl eX5_setPlace_135 ?_
    refine V_iconst (n := 0) (v := (nI 0)) G eX5_setPlace_138 rfl ?_
    refine V_iast G al_607 (by decide) eX5_setPlace_139 h (fun μ8 h => ?_)
    refine V_aload_n (i := 0) G eX5_setPlace_140 rfl rfl ?_
    refine V_dup G eX5_setPlace_141 rfl ?_
    refine V_get (v := .int (mI μ8 610 0 0)) G fgX5_47 rfl eX5_setPlace_142 ?_
    refine V_iconst (n := 1) (v := (nI 1)) G eX5_setPlace_145 rfl ?_
    refine V_iadd G eX5_setPlace_146 ?_
    refine V_put G fgX5_47 fp_5_10 eX5_setPlace_147 h (fun μ9 h => ?_)
    exact V_rvM G hr eX5_setPlace_150 h
  replace h := hj
  clear hj
  refine V_if_eq G eX5_setPlace_19 h (fun h => ?_) (fun h => ?_)
  · refine V_iconst (n := 0) (v := (nI 0)) G eX5_setPlace_27 rfl ?_
    cases h; exact J
  · refine V_bipush (n := 9) (v := (nI 9)) G eX5_setPlace_22 rfl ?_
    refine V_goto G eX5_setPlace_24 ?_
    cases h; exact J
theorem Menus_setPlace_ok {l : Launch} {w : Wld} {a1 : Int32} {a2 : Int32} {μ : Mem} {μ' : Mem} (h : Menus_setPlace a1 a2 μ = some μ') : CtV l w yX5_setPlace cX5_setPlace 4 1 [.ref (wad w 5 0), .int a1, .int a2] μ μ' :=
  Ct_of (own := "PotBook$Menus") [some (.ref (wad w 5 0)), some (.int a1), some (.int a2), none] (by decide +kernel) rfl rfl (Nat.le_of_ble_eq_true rfl) fun p e s m args below meth c G hr => Menus_setPlace_run G hr h
set_option maxRecDepth 100000 in
set_option maxHeartbeats 4000000 in
theorem Menus_clearFound_run {p : Program} {l : Launch} {e : Env} {R : Room} {s : State} {m : MethodId} {args : Array Value} {below : List Frame} {meth : Method} {c : Code} {w : Wld} (G : Cxt p R s m args meth c w cX5_clearFound 1 "PotBook$Menus" 1 0 0) (hr : meth.sig.returnType = none) {μ : Mem} {μ' : Mem} (h : Menus_clearFound μ = some μ') : Vj p l e R s m args below meth c w 1 0 0 (MQ below (QV w μ') args s 0 0 w.2.2.2) 0 [some (.ref (wad w 5 0))] [] μ := by
  unfold Menus_clearFound at h
  refine V_aload_n (i := 0) G eX5_clearFound_0 rfl rfl ?_
  refine V_get (v := .ref (wad w 609 0)) G fgX5_32 rfl eX5_clearFound_1 ?_
  refine V_iconst (n := 0) (v := (nI 0)) G eX5_clearFound_4 rfl ?_
  refine V_iconst (n := 0) (v := (nI 0)) G eX5_clearFound_5 rfl ?_
  refine V_iast G al_609 (by decide) eX5_clearFound_6 h (fun μ1 h => ?_)
  refine V_aload_n (i := 0) G eX5_clearFound_7 rfl rfl ?_
  refine V_get (v := .ref (wad w 609 0)) G fgX5_32 rfl eX5_clearFound_8 ?_
  refine V_iconst (n := 1) (v := (nI 1)) G eX5_clearFound_11 rfl ?_
  refine V_iconst (n := 0) (v := (nI 0)) G eX5_clearFound_12 rfl ?_
  refine V_iast G al_609 (by decide) eX5_clearFound_13 h (fun μ2 h => ?_)
  refine V_aload_n (i := 0) G eX5_clearFound_14 rfl rfl ?_
  refine V_get (v := .ref (wad w 609 0)) G fgX5_32 rfl eX5_clearFound_15 ?_
  refine V_iconst (n := 2) (v := (nI 2)) G eX5_clearFound_18 rfl ?_
  refine V_iconst (n := 0) (v := (nI 0)) G eX5_clearFound_19 rfl ?_
  refine V_iast G al_609 (by decide) eX5_clearFound_20 h (fun μ3 h => ?_)
  refine V_aload_n (i := 0) G eX5_clearFound_21 rfl rfl ?_
  refine V_get (v := .ref (wad w 609 0)) G fgX5_32 rfl eX5_clearFound_22 ?_
  refine V_iconst (n := 3) (v := (nI 3)) G eX5_clearFound_25 rfl ?_
  refine V_iconst (n := -1) (v := (-1)) G eX5_clearFound_26 rfl ?_
  refine V_iast G al_609 (by decide) eX5_clearFound_27 h (fun μ4 h => ?_)
  refine V_aload_n (i := 0) G eX5_clearFound_28 rfl rfl ?_
  refine V_get (v := .ref (wad w 609 0)) G fgX5_32 rfl eX5_clearFound_29 ?_
  refine V_iconst (n := 4) (v := (nI 4)) G eX5_clearFound_32 rfl ?_
  refine V_iconst (n := -1) (v := (-1)) G eX5_clearFound_33 rfl ?_
  refine V_iast G al_609 (by decide) eX5_clearFound_34 h (fun μ5 h => ?_)
  refine V_aload_n (i := 0) G eX5_clearFound_35 rfl rfl ?_
  refine V_get (v := .ref (wad w 609 0)) G fgX5_32 rfl eX5_clearFound_36 ?_
  refine V_iconst (n := 5) (v := (nI 5)) G eX5_clearFound_39 rfl ?_
  refine V_iconst (n := 0) (v := (nI 0)) G eX5_clearFound_40 rfl ?_
  refine V_iast G al_609 (by decide) eX5_clearFound_41 h (fun μ6 h => ?_)
  refine V_aload_n (i := 0) G eX5_clearFound_42 rfl rfl ?_
  refine V_get (v := .ref (wad w 609 0)) G fgX5_32 rfl eX5_clearFound_43 ?_
  refine V_bipush (n := 6) (v := (nI 6)) G eX5_clearFound_46 rfl ?_
  refine V_iconst (n := -1) (v := (-1)) G eX5_clearFound_48 rfl ?_
  refine V_iast G al_609 (by decide) eX5_clearFound_49 h (fun μ7 h => ?_)
  refine V_aload_n (i := 0) G eX5_clearFound_50 rfl rfl ?_
  refine V_get (v := .ref (wad w 609 0)) G fgX5_32 rfl eX5_clearFound_51 ?_
  refine V_bipush (n := 7) (v := (nI 7)) G eX5_clearFound_54 rfl ?_
  refine V_iconst (n := -1) (v := (-1)) G eX5_clearFound_56 rfl ?_
  refine V_iast G al_609 (by decide) eX5_clearFound_57 h (fun μ8 h => ?_)
  exact V_rvM G hr eX5_clearFound_58 h
theorem Menus_clearFound_ok {l : Launch} {w : Wld} {μ : Mem} {μ' : Mem} (h : Menus_clearFound μ = some μ') : CtV l w yX5_clearFound cX5_clearFound 1 1 [.ref (wad w 5 0)] μ μ' :=
  Ct_of (own := "PotBook$Menus") [some (.ref (wad w 5 0))] (by decide +kernel) rfl rfl (Nat.le_of_ble_eq_true rfl) fun p e s m args below meth c G hr => Menus_clearFound_run G hr h
set_option maxRecDepth 100000 in
set_option maxHeartbeats 4000000 in
theorem Menus_room_l1_ok {p : Program} {l : Launch} {e : Env} {R : Room} {s : State} {m : MethodId} {args : Array Value} {below : List Frame} {meth : Method} {c : Code} {w : Wld} {Q : State → Prop} (G : Cxt p R s m args meth c w cX5_room 4 "PotBook$Menus" 2 0 0) {v1 : Int32} {μ : Mem} {o1 : Int32} : ∀ {n : Nat} {v2 : Int32} {v3 : Int32}, Menus_room_l1 v1 μ n v2 v3 = some o1 → Vj p l e R s m args below meth c w 4 0 0 Q 52 [none, none, some (.int o1), none] [] μ → Vj p l e R s m args below meth c w 4 0 0 Q 9 [some (.ref (wad w 5 0)), some (.int v1), some (.int v2), some (.int v3)] [] μ := by
  intro n
  induction n with
  | zero => intro v2 v3 h K; exact noS h
  | succ n ih =>
    intro v2 v3 h K
    replace h : Menus_room_l1b v1 μ (Menus_room_l1 v1 μ n) v2 v3 = some o1 := h
    unfold Menus_room_l1b at h
    refine V_iload_n (i := 3) G eX5_room_9 rfl rfl ?_
    refine V_bipush (n := 12) (v := (nI 12)) G eX5_room_10 rfl ?_
    refine V_icmp_ge G eX5_room_12 h (fun h => ?_) (fun h => ?_)
    · cases h; exact V_sub (lS_n (lS_n (lS_s (lS_n lS_0)))) K
    · refine V_aload_n (i := 0) G eX5_room_15 rfl rfl ?_
      refine V_get (v := .ref (wad w 10605 0)) G fgX5_20 rfl eX5_room_16 ?_
      refine V_iload_n (i := 1) G eX5_room_19 rfl rfl ?_
      refine V_aaldI (id := 605) G al_10605 eX5_room_20 h (fun r1 hr1 h => ?_)
      refine V_iload_n (i := 3) G eX5_room_21 rfl rfl ?_
      refine V_iald G al_605 hr1 eX5_room_22 h (fun x2 h => ?_)
      obtain ⟨x8, hj, h⟩ := bdS h
      have J : Vj p l e R s m args below meth c w 4 0 0 Q 46 [some (.ref (wad w 5 0)), some (.int v1), some (.int x8), some (.int v3)] [] μ := by
        clear hj
        refine V_iinc (z := (nI 1)) (L' := (fun x9 => [some (.ref (wad w 5 0)), some (.int v1), some (.int x8), some (.int x9)])) G eX5_room_46 rfl rfl (by decide) rfl (fun _ => rfl) h (fun x9 h => ?_)
        refine V_goto G eX5_room_49 ?_
        exact (ih h K)
      replace h := hj
      clear hj
      refine V_if_le G eX5_room_23 h (fun h => ?_) (fun h => ?_)
      · cases h; exact J
      · refine V_iload_n (i := 2) G eX5_room_26 rfl rfl ?_
        refine V_aload_n (i := 0) G eX5_room_27 rfl rfl ?_
        refine V_get (v := .ref (wad w 606 0)) G fgX5_23 rfl eX5_room_28 ?_
        refine V_iload_n (i := 3) G eX5_room_31 rfl rfl ?_
        refine V_iald G al_606 (by decide) eX5_room_32 h (fun x3 h => ?_)
        refine V_aload_n (i := 0) G eX5_room_33 rfl rfl ?_
        refine V_get (v := .ref (wad w 10605 0)) G fgX5_20 rfl eX5_room_34 ?_
        refine V_iload_n (i := 1) G eX5_room_37 rfl rfl ?_
        refine V_aaldI (id := 605) G al_10605 eX5_room_38 h (fun r4 hr4 h => ?_)
        refine V_iload_n (i := 3) G eX5_room_39 rfl rfl ?_
        refine V_iald G al_605 hr4 eX5_room_40 h (fun x5 h => ?_)
        refine V_idiv G eX5_room_41 h (fun x6 h => ?_)
        refine V_jMin G mkX5_117 (by decide) (Nat.le_of_ble_eq_true rfl) eX5_room_42 ?_
        refine V_istore_n (i := 2) (L' := (fun x7 => [some (.ref (wad w 5 0)), some (.int v1), some (.int x7), some (.int v3)])) G rfl eX5_room_45 (by decide) rfl (fun _ => rfl) h (fun x7 h => ?_)
        cases h; exact J
set_option maxRecDepth 100000 in
set_option maxHeartbeats 4000000 in
theorem Menus_room_run {p : Program} {l : Launch} {e : Env} {R : Room} {s : State} {m : MethodId} {args : Array Value} {below : List Frame} {meth : Method} {c : Code} {w : Wld} (G : Cxt p R s m args meth c w cX5_room 4 "PotBook$Menus" 2 0 0) (hr : meth.sig.returnType = some .int) {a1 : Int32} {μ : Mem} {r : Int32} (h : Menus_room a1 μ = some r) : Vj p l e R s m args below meth c w 4 0 0 (MQ below (QI w r μ) args s 0 0 w.2.2.2) 0 [some (.ref (wad w 5 0)), some (.int a1), none, none] [] μ := by
  unfold Menus_room at h
  refine V_aload_n (i := 0) G eX5_room_0 rfl rfl ?_
  refine V_get (v := .ref (wad w 604 0)) G fgX5_15 rfl eX5_room_1 ?_
  refine V_iload_n (i := 1) G eX5_room_4 rfl rfl ?_
  refine V_iald G al_604 (by decide) eX5_room_5 h (fun x1 h => ?_)
  refine V_istoreA_n (i := 2) (L' := [some (.ref (wad w 5 0)), some (.int a1), some (.int x1), none]) G rfl eX5_room_6 (by decide) rfl rfl ?_
  refine V_iconst (n := 0) (v := (nI 0)) G eX5_room_7 rfl ?_
  refine V_istoreA_n (i := 3) (L' := [some (.ref (wad w 5 0)), some (.int a1), some (.int x1), some (.int (nI 0))]) G rfl eX5_room_8 (by decide) rfl rfl ?_
  obtain ⟨x2, h1, h⟩ := bdS h
  refine Menus_room_l1_ok G h1 ?_
  refine V_iload_n (i := 2) G eX5_room_52 rfl rfl ?_
  exact V_ri G hr eX5_room_53 h
theorem Menus_room_ok {l : Launch} {w : Wld} {a1 : Int32} {μ : Mem} {r : Int32} (h : Menus_room a1 μ = some r) : CtI l w yX5_room cX5_room 4 .int 2 [.ref (wad w 5 0), .int a1] μ r μ :=
  Ct_of (own := "PotBook$Menus") [some (.ref (wad w 5 0)), some (.int a1), none, none] (by decide +kernel) rfl rfl (Nat.le_of_ble_eq_true rfl) fun p e s m args below meth c G hr => Menus_room_run G hr h
set_option maxRecDepth 100000 in
set_option maxHeartbeats 4000000 in
theorem Menus_need_l1_ok {p : Program} {l : Launch} {e : Env} {R : Room} {s : State} {m : MethodId} {args : Array Value} {below : List Frame} {meth : Method} {c : Code} {w : Wld} {Q : State → Prop} (G : Cxt p R s m args meth c w cX5_need 6 "PotBook$Menus" 2 0 0) {v1 : Int32} {μ : Mem} {o1 : Int32} : ∀ {n : Nat} {v2 : Int32} {v3 : Int32}, Menus_need_l1 v1 μ n v2 v3 = some o1 → Vj p l e R s m args below meth c w 6 0 0 Q 80 [none, none, some (.int o1), none, none, none] [] μ → Vj p l e R s m args below meth c w 6 0 0 Q 4 [some (.ref (wad w 5 0)), some (.int v1), some (.int v2), some (.int v3), none, none] [] μ := by
  intro n
  induction n with
  | zero => intro v2 v3 h K; exact noS h
  | succ n ih =>
    intro v2 v3 h K
    replace h : Menus_need_l1b v1 μ (Menus_need_l1 v1 μ n) v2 v3 = some o1 := h
    unfold Menus_need_l1b at h
    refine V_iload_n (i := 3) G eX5_need_4 rfl rfl ?_
    refine V_bipush (n := 12) (v := (nI 12)) G eX5_need_5 rfl ?_
    refine V_icmp_ge G eX5_need_7 h (fun h => ?_) (fun h => ?_)
    · cases h; exact V_sub (lS_n (lS_n (lS_s (lS_n (lS_n (lS_n lS_0)))))) K
    · refine V_aload_n (i := 0) G eX5_need_10 rfl rfl ?_
      refine V_get (v := .ref (wad w 606 0)) G fgX5_23 rfl eX5_need_11 ?_
      refine V_iload_n (i := 3) G eX5_need_14 rfl rfl ?_
      refine V_iald G al_606 (by decide) eX5_need_15 h (fun x1 h => ?_)
      refine V_aload_n (i := 0) G eX5_need_16 rfl rfl ?_
      refine V_get (v := .int (mI μ 612 0 0)) G fgX5_54 rfl eX5_need_17 ?_
      refine V_isub G eX5_need_20 ?_
      refine V_istore (i := 4) (L' := (fun x2 => [some (.ref (wad w 5 0)), some (.int v1), some (.int v2), some (.int v3), some (.int x2), none])) G eX5_need_21 (by decide) rfl (fun _ => rfl) h (fun x2 h => ?_)
      refine V_aload_n (i := 0) G eX5_need_23 rfl rfl ?_
      refine V_get (v := .int (mI μ 611 0 0)) G fgX5_51 rfl eX5_need_24 ?_
      refine V_iload_n (i := 3) G eX5_need_27 rfl rfl ?_
      obtain ⟨x3, h1, h⟩ := bdS h
      refine V_callIS (As := [.int (mI μ 611 0 0), .int v3]) (st := []) G lkX5_65 (B_holdsBit_ok (μ := μ) h1) (by decide) rfl rfl (Nat.le_of_ble_eq_true rfl) eX5_need_28 ?_
      obtain ⟨x9, hj, h⟩ := bdS h
      have J : Vj p l e R s m args below meth c w 6 0 0 Q 74 [some (.ref (wad w 5 0)), some (.int v1), some (.int x9), some (.int v3), none, none] [] μ := by
        clear hj
        refine V_iinc (z := (nI 1)) (L' := (fun x10 => [some (.ref (wad w 5 0)), some (.int v1), some (.int x9), some (.int x10), none, none])) G eX5_need_74 rfl rfl (by decide) rfl (fun _ => rfl) h (fun x10 h => ?_)
        refine V_goto G eX5_need_77 ?_
        exact (ih h K)
      replace h := hj
      clear hj
      refine V_if_eq G eX5_need_31 h (fun h => ?_) (fun h => ?_)
      · cases h; exact V_sub (lS_s (lS_s (lS_s (lS_s (lS_n (lS_n lS_0)))))) J
      · refine V_iload G eX5_need_34 rfl ?_
        refine V_if_le G eX5_need_36 h (fun h => ?_) (fun h => ?_)
        · cases h; exact V_sub (lS_s (lS_s (lS_s (lS_s (lS_n (lS_n lS_0)))))) J
        · refine V_aload_n (i := 0) G eX5_need_39 rfl rfl ?_
          refine V_get (v := .ref (wad w 10605 0)) G fgX5_20 rfl eX5_need_40 ?_
          refine V_iload_n (i := 1) G eX5_need_43 rfl rfl ?_
          refine V_aaldI (id := 605) G al_10605 eX5_need_44 h (fun r4 hr4 h => ?_)
          refine V_iload_n (i := 3) G eX5_need_45 rfl rfl ?_
          refine V_iald G al_605 hr4 eX5_need_46 h (fun x5 h => ?_)
          refine V_istoreA (i := 5) (L' := [some (.ref (wad w 5 0)), some (.int v1), some (.int v2), some (.int v3), some (.int x2), some (.int x5)]) G eX5_need_47 (by decide) rfl rfl ?_
          refine V_iload_n (i := 2) G eX5_need_49 rfl rfl ?_
          refine V_iload G eX5_need_50 rfl ?_
          obtain ⟨x7, hj, h⟩ := bdS h
          have J : Vj p l e R s m args below meth c w 6 0 0 Q 70 [some (.ref (wad w 5 0)), some (.int v1), none, some (.int v3), none, none] [.int x7, .int v2] μ := by
            clear hj
            refine V_jMax G mkX5_123 (by decide) (Nat.le_of_ble_eq_true rfl) eX5_need_70 ?_
            refine V_istore_n (i := 2) (L' := (fun x8 => [some (.ref (wad w 5 0)), some (.int v1), some (.int x8), some (.int v3), none, none])) G rfl eX5_need_73 (by decide) rfl (fun _ => rfl) h (fun x8 h => ?_)
            cases h; exact J
          replace h := hj
          clear hj
          refine V_if_le G eX5_need_52 h (fun h => ?_) (fun h => ?_)
          · refine V_bipush (n := 10) (v := (nI 10)) G eX5_need_68 rfl ?_
            cases h; exact V_sub (lS_s (lS_s (lS_n (lS_s (lS_n (lS_n lS_0)))))) J
          · refine V_iload G eX5_need_55 rfl ?_
            refine V_iload G eX5_need_57 rfl ?_
            refine V_iadd G eX5_need_59 ?_
            refine V_iconst (n := 1) (v := (nI 1)) G eX5_need_60 rfl ?_
            refine V_isub G eX5_need_61 ?_
            refine V_iload G eX5_need_62 rfl ?_
            refine V_idiv G eX5_need_64 h (fun x6 h => ?_)
            refine V_goto G eX5_need_65 ?_
            cases h; exact V_sub (lS_s (lS_s (lS_n (lS_s (lS_n (lS_n lS_0)))))) J
set_option maxRecDepth 100000 in
set_option maxHeartbeats 4000000 in
theorem Menus_need_run {p : Program} {l : Launch} {e : Env} {R : Room} {s : State} {m : MethodId} {args : Array Value} {below : List Frame} {meth : Method} {c : Code} {w : Wld} (G : Cxt p R s m args meth c w cX5_need 6 "PotBook$Menus" 2 0 0) (hr : meth.sig.returnType = some .int) {a1 : Int32} {μ : Mem} {r : Int32} (h : Menus_need a1 μ = some r) : Vj p l e R s m args below meth c w 6 0 0 (MQ below (QI w r μ) args s 0 0 w.2.2.2) 0 [some (.ref (wad w 5 0)), some (.int a1), none, none, none, none] [] μ := by
  unfold Menus_need at h
  refine V_iconst (n := 0) (v := (nI 0)) G eX5_need_0 rfl ?_
  refine V_istoreA_n (i := 2) (L' := [some (.ref (wad w 5 0)), some (.int a1), some (.int (nI 0)), none, none, none]) G rfl eX5_need_1 (by decide) rfl rfl ?_
  refine V_iconst (n := 0) (v := (nI 0)) G eX5_need_2 rfl ?_
  refine V_istoreA_n (i := 3) (L' := [some (.ref (wad w 5 0)), some (.int a1), some (.int (nI 0)), some (.int (nI 0)), none, none]) G rfl eX5_need_3 (by decide) rfl rfl ?_
  obtain ⟨x1, h1, h⟩ := bdS h
  refine Menus_need_l1_ok G h1 ?_
  refine V_iload_n (i := 2) G eX5_need_80 rfl rfl ?_
  exact V_ri G hr eX5_need_81 h
theorem Menus_need_ok {l : Launch} {w : Wld} {a1 : Int32} {μ : Mem} {r : Int32} (h : Menus_need a1 μ = some r) : CtI l w yX5_need cX5_need 6 .int 2 [.ref (wad w 5 0), .int a1] μ r μ :=
  Ct_of (own := "PotBook$Menus") [some (.ref (wad w 5 0)), some (.int a1), none, none, none, none] (by decide +kernel) rfl rfl (Nat.le_of_ble_eq_true rfl) fun p e s m args below meth c G hr => Menus_need_run G hr h
set_option maxRecDepth 100000 in
set_option maxHeartbeats 4000000 in
theorem Menus_noteLean_run {p : Program} {l : Launch} {e : Env} {R : Room} {s : State} {m : MethodId} {args : Array Value} {below : List Frame} {meth : Method} {c : Code} {w : Wld} (G : Cxt p R s m args meth c w cX5_noteLean 3 "PotBook$Menus" 1 0 0) (hr : meth.sig.returnType = none) {a1 : Int32} {a2 : Int32} {μ : Mem} {μ' : Mem} (h : Menus_noteLean a1 a2 μ = some μ') : Vj p l e R s m args below meth c w 3 0 0 (MQ below (QV w μ') args s 0 0 w.2.2.2) 0 [some (.ref (wad w 5 0)), some (.int a1), some (.int a2)] [] μ := by
  unfold Menus_noteLean at h
  refine V_aload_n (i := 0) G eX5_noteLean_0 rfl rfl ?_
  refine V_get (v := .ref (wad w 609 0)) G fgX5_32 rfl eX5_noteLean_1 ?_
  refine V_iconst (n := 5) (v := (nI 5)) G eX5_noteLean_4 rfl ?_
  refine V_iald G al_609 (by decide) eX5_noteLean_5 h (fun x1 h => ?_)
  obtain ⟨μ9, hj, h⟩ := bdS h
  have J : Vj p l e R s m args below meth c w 3 0 0 (MQ below (QV w μ') args s 0 0 w.2.2.2) 43 [some (.ref (wad w 5 0)), none, some (.int a2)] [] μ9 := by
    clear hj
    refine V_iload_n (i := 2) G eX5_noteLean_43 rfl rfl ?_
    refine V_aload_n (i := 0) G eX5_noteLean_44 rfl rfl ?_
    refine V_get (v := .ref (wad w 609 0)) G fgX5_32 rfl eX5_noteLean_45 ?_
    refine V_bipush (n := 7) (v := (nI 7)) G eX5_noteLean_48 rfl ?_
    refine V_iald G al_609 (by decide) eX5_noteLean_50 h (fun x10 h => ?_)
    refine V_icmp_ne G eX5_noteLean_51 h (fun h => ?_) (fun h => ?_)
    · exact V_rvM G hr eX5_noteLean_64 h
    · refine V_aload_n (i := 0) G eX5_noteLean_54 rfl rfl ?_
      refine V_get (v := .ref (wad w 609 0)) G fgX5_32 rfl eX5_noteLean_55 ?_
      refine V_iconst (n := 5) (v := (nI 5)) G eX5_noteLean_58 rfl ?_
      refine V_dup2_11 G eX5_noteLean_59 rfl rfl ?_
      refine V_iald G al_609 (by decide) eX5_noteLean_60 h (fun x11 h => ?_)
      refine V_iconst (n := 1) (v := (nI 1)) G eX5_noteLean_61 rfl ?_
      refine V_iadd G eX5_noteLean_62 ?_
      refine V_iast G al_609 (by decide) eX5_noteLean_63 h (fun μ12 h => ?_)
      exact V_rvM G hr eX5_noteLean_64 h
  replace h := hj
  clear hj
  refine V_if_eq G eX5_noteLean_6 h (fun h => ?_) (fun h => ?_)
  · refine V_aload_n (i := 0) G eX5_noteLean_20 rfl rfl ?_
    refine V_get (v := .ref (wad w 609 0)) G fgX5_32 rfl eX5_noteLean_21 ?_
    refine V_iconst (n := 5) (v := (nI 5)) G eX5_noteLean_24 rfl ?_
    refine V_iconst (n := 0) (v := (nI 0)) G eX5_noteLean_25 rfl ?_
    refine V_iast G al_609 (by decide) eX5_noteLean_26 h (fun μ2 h => ?_)
    refine V_aload_n (i := 0) G eX5_noteLean_27 rfl rfl ?_
    refine V_get (v := .ref (wad w 609 0)) G fgX5_32 rfl eX5_noteLean_28 ?_
    refine V_bipush (n := 6) (v := (nI 6)) G eX5_noteLean_31 rfl ?_
    refine V_iload_n (i := 1) G eX5_noteLean_33 rfl rfl ?_
    refine V_iast G al_609 (by decide) eX5_noteLean_34 h (fun μ3 h => ?_)
    refine V_aload_n (i := 0) G eX5_noteLean_35 rfl rfl ?_
    refine V_get (v := .ref (wad w 609 0)) G fgX5_32 rfl eX5_noteLean_36 ?_
    refine V_bipush (n := 7) (v := (nI 7)) G eX5_noteLean_39 rfl ?_
    refine V_iload_n (i := 2) G eX5_noteLean_41 rfl rfl ?_
    refine V_iast G al_609 (by decide) eX5_noteLean_42 h (fun μ4 h => ?_)
    cases h; exact V_sub (lS_s (lS_n (lS_s lS_0))) J
  · refine V_iload_n (i := 2) G eX5_noteLean_9 rfl rfl ?_
    refine V_aload_n (i := 0) G eX5_noteLean_10 rfl rfl ?_
    refine V_get (v := .ref (wad w 609 0)) G fgX5_32 rfl eX5_noteLean_11 ?_
    refine V_bipush (n := 7) (v := (nI 7)) G eX5_noteLean_14 rfl ?_
    refine V_iald G al_609 (by decide) eX5_noteLean_16 h (fun x5 h => ?_)
    refine V_icmp_ge G eX5_noteLean_17 h (fun h => ?_) (fun h => ?_)
    · cases h; exact V_sub (lS_s (lS_n (lS_s lS_0))) J
    · refine V_aload_n (i := 0) G eX5_noteLean_20 rfl rfl ?_
      refine V_get (v := .ref (wad w 609 0)) G fgX5_32 rfl eX5_noteLean_21 ?_
      refine V_iconst (n := 5) (v := (nI 5)) G eX5_noteLean_24 rfl ?_
      refine V_iconst (n := 0) (v := (nI 0)) G eX5_noteLean_25 rfl ?_
      refine V_iast G al_609 (by decide) eX5_noteLean_26 h (fun μ6 h => ?_)
      refine V_aload_n (i := 0) G eX5_noteLean_27 rfl rfl ?_
      refine V_get (v := .ref (wad w 609 0)) G fgX5_32 rfl eX5_noteLean_28 ?_
      refine V_bipush (n := 6) (v := (nI 6)) G eX5_noteLean_31 rfl ?_
      refine V_iload_n (i := 1) G eX5_noteLean_33 rfl rfl ?_
      refine V_iast G al_609 (by decide) eX5_noteLean_34 h (fun μ7 h => ?_)
      refine V_aload_n (i := 0) G eX5_noteLean_35 rfl rfl ?_
      refine V_get (v := .ref (wad w 609 0)) G fgX5_32 rfl eX5_noteLean_36 ?_
      refine V_bipush (n := 7) (v := (nI 7)) G eX5_noteLean_39 rfl ?_
      refine V_iload_n (i := 2) G eX5_noteLean_41 rfl rfl ?_
      refine V_iast G al_609 (by decide) eX5_noteLean_42 h (fun μ8 h => ?_)
      cases h; exact V_sub (lS_s (lS_n (lS_s lS_0))) J
theorem Menus_noteLean_ok {l : Launch} {w : Wld} {a1 : Int32} {a2 : Int32} {μ : Mem} {μ' : Mem} (h : Menus_noteLean a1 a2 μ = some μ') : CtV l w yX5_noteLean cX5_noteLean 3 1 [.ref (wad w 5 0), .int a1, .int a2] μ μ' :=
  Ct_of (own := "PotBook$Menus") [some (.ref (wad w 5 0)), some (.int a1), some (.int a2)] (by decide +kernel) rfl rfl (Nat.le_of_ble_eq_true rfl) fun p e s m args below meth c G hr => Menus_noteLean_run G hr h
set_option maxRecDepth 100000 in
set_option maxHeartbeats 4000000 in
theorem Menus_noteWaste_l1_ok {p : Program} {l : Launch} {e : Env} {R : Room} {s : State} {m : MethodId} {args : Array Value} {below : List Frame} {meth : Method} {c : Code} {w : Wld} {Q : State → Prop} (G : Cxt p R s m args meth c w cX5_noteWaste 8 "PotBook$Menus" 2 0 0) {v1 : Int32} {v2 : Int32} {v3 : Int32} {v4 : Int32} {μ : Mem} {o1 : Int32} {o2 : Int32} : ∀ {n : Nat} {v5 : Int32} {v6 : Int32} {v7 : Int32}, Menus_noteWaste_l1 v1 v2 v3 v4 μ n v5 v6 v7 = some (o1, o2) → Vj p l e R s m args below meth c w 8 0 0 Q 68 [some (.ref (wad w 5 0)), some (.int v1), some (.int v2), some (.int v3), some (.int v4), some (.int o1), some (.int o2), none] [] μ → Vj p l e R s m args below meth c w 8 0 0 Q 17 [some (.ref (wad w 5 0)), some (.int v1), some (.int v2), some (.int v3), some (.int v4), some (.int v5), some (.int v6), some (.int v7)] [] μ := by
  intro n
  induction n with
  | zero => intro v5 v6 v7 h K; exact noS h
  | succ n ih =>
    intro v5 v6 v7 h K
    replace h : Menus_noteWaste_l1b v1 v2 v3 v4 μ (Menus_noteWaste_l1 v1 v2 v3 v4 μ n) v5 v6 v7 = some (o1, o2) := h
    unfold Menus_noteWaste_l1b at h
    refine V_iload G eX5_noteWaste_17 rfl ?_
    refine V_bipush (n := 12) (v := (nI 12)) G eX5_noteWaste_19 rfl ?_
    refine V_icmp_ge G eX5_noteWaste_21 h (fun h => ?_) (fun h => ?_)
    · cases h; exact V_sub (lS_s (lS_s (lS_s (lS_s (lS_s (lS_s (lS_s (lS_n lS_0)))))))) K
    · refine V_aload_n (i := 0) G eX5_noteWaste_24 rfl rfl ?_
      refine V_get (v := .int (mI μ 611 0 0)) G fgX5_51 rfl eX5_noteWaste_25 ?_
      refine V_iload G eX5_noteWaste_28 rfl ?_
      obtain ⟨x1, h1, h⟩ := bdS h
      refine V_callIS (As := [.int (mI μ 611 0 0), .int v7]) (st := []) G lkX5_65 (B_holdsBit_ok (μ := μ) h1) (by decide) rfl rfl (Nat.le_of_ble_eq_true rfl) eX5_noteWaste_30 ?_
      obtain ⟨⟨x7, x8⟩, hj, h⟩ := bdS h
      have J : Vj p l e R s m args below meth c w 8 0 0 Q 62 [some (.ref (wad w 5 0)), some (.int v1), some (.int v2), some (.int v3), some (.int v4), some (.int x7), some (.int x8), some (.int v7)] [] μ := by
        clear hj
        refine V_iinc (z := (nI 1)) (L' := (fun x9 => [some (.ref (wad w 5 0)), some (.int v1), some (.int v2), some (.int v3), some (.int v4), some (.int x7), some (.int x8), some (.int x9)])) G eX5_noteWaste_62 rfl rfl (by decide) rfl (fun _ => rfl) h (fun x9 h => ?_)
        refine V_goto G eX5_noteWaste_65 ?_
        exact (ih h K)
      replace h := hj
      clear hj
      refine V_if_eq G eX5_noteWaste_33 h (fun h => ?_) (fun h => ?_)
      · cases h; exact J
      · refine V_iload G eX5_noteWaste_36 rfl ?_
        refine V_aload_n (i := 0) G eX5_noteWaste_38 rfl rfl ?_
        refine V_get (v := .ref (wad w 10605 0)) G fgX5_20 rfl eX5_noteWaste_39 ?_
        refine V_iload_n (i := 1) G eX5_noteWaste_42 rfl rfl ?_
        refine V_aaldI (id := 605) G al_10605 eX5_noteWaste_43 h (fun r2 hr2 h => ?_)
        refine V_iload G eX5_noteWaste_44 rfl ?_
        refine V_iald G al_605 hr2 eX5_noteWaste_46 h (fun x3 h => ?_)
        refine V_iadd G eX5_noteWaste_47 ?_
        refine V_istore (i := 5) (L' := (fun x4 => [some (.ref (wad w 5 0)), some (.int v1), some (.int v2), some (.int v3), some (.int v4), some (.int x4), some (.int v6), some (.int v7)])) G eX5_noteWaste_48 (by decide) rfl (fun _ => rfl) h (fun x4 h => ?_)
        refine V_iload G eX5_noteWaste_50 rfl ?_
        refine V_aload_n (i := 0) G eX5_noteWaste_52 rfl rfl ?_
        refine V_get (v := .ref (wad w 606 0)) G fgX5_23 rfl eX5_noteWaste_53 ?_
        refine V_iload G eX5_noteWaste_56 rfl ?_
        refine V_iald G al_606 (by decide) eX5_noteWaste_58 h (fun x5 h => ?_)
        refine V_iadd G eX5_noteWaste_59 ?_
        refine V_istore (i := 6) (L' := (fun x6 => [some (.ref (wad w 5 0)), some (.int v1), some (.int v2), some (.int v3), some (.int v4), some (.int x4), some (.int x6), some (.int v7)])) G eX5_noteWaste_60 (by decide) rfl (fun _ => rfl) h (fun x6 h => ?_)
        cases h; exact J
set_option maxRecDepth 100000 in
set_option maxHeartbeats 4000000 in
theorem Menus_noteWaste_run {p : Program} {l : Launch} {e : Env} {R : Room} {s : State} {m : MethodId} {args : Array Value} {below : List Frame} {meth : Method} {c : Code} {w : Wld} (G : Cxt p R s m args meth c w cX5_noteWaste 8 "PotBook$Menus" 2 0 0) (hr : meth.sig.returnType = none) {a1 : Int32} {a2 : Int32} {a3 : Int32} {μ : Mem} {μ' : Mem} (h : Menus_noteWaste a1 a2 a3 μ = some μ') : Vj p l e R s m args below meth c w 8 0 0 (MQ below (QV w μ') args s 0 0 w.2.2.2) 0 [some (.ref (wad w 5 0)), some (.int a1), some (.int a2), some (.int a3), none, none, none, none] [] μ := by
  unfold Menus_noteWaste at h
  refine V_aload_n (i := 0) G eX5_noteWaste_0 rfl rfl ?_
  refine V_get (v := .ref (wad w 609 0)) G fgX5_32 rfl eX5_noteWaste_1 ?_
  refine V_iconst (n := 0) (v := (nI 0)) G eX5_noteWaste_4 rfl ?_
  refine V_iald G al_609 (by decide) eX5_noteWaste_5 h (fun x1 h => ?_)
  refine V_istoreA (i := 4) (L' := [some (.ref (wad w 5 0)), some (.int a1), some (.int a2), some (.int a3), some (.int x1), none, none, none]) G eX5_noteWaste_6 (by decide) rfl rfl ?_
  refine V_iconst (n := 0) (v := (nI 0)) G eX5_noteWaste_8 rfl ?_
  refine V_istoreA (i := 5) (L' := [some (.ref (wad w 5 0)), some (.int a1), some (.int a2), some (.int a3), some (.int x1), some (.int (nI 0)), none, none]) G eX5_noteWaste_9 (by decide) rfl rfl ?_
  refine V_iconst (n := 0) (v := (nI 0)) G eX5_noteWaste_11 rfl ?_
  refine V_istoreA (i := 6) (L' := [some (.ref (wad w 5 0)), some (.int a1), some (.int a2), some (.int a3), some (.int x1), some (.int (nI 0)), some (.int (nI 0)), none]) G eX5_noteWaste_12 (by decide) rfl rfl ?_
  refine V_iconst (n := 0) (v := (nI 0)) G eX5_noteWaste_14 rfl ?_
  refine V_istoreA (i := 7) (L' := [some (.ref (wad w 5 0)), some (.int a1), some (.int a2), some (.int a3), some (.int x1), some (.int (nI 0)), some (.int (nI 0)), some (.int (nI 0))]) G eX5_noteWaste_15 (by decide) rfl rfl ?_
  obtain ⟨⟨x2, x3⟩, h1, h⟩ := bdS h
  refine Menus_noteWaste_l1_ok G h1 ?_
  refine V_aload_n (i := 0) G eX5_noteWaste_68 rfl rfl ?_
  refine V_iload G eX5_noteWaste_69 rfl ?_
  refine V_iload_n (i := 3) G eX5_noteWaste_71 rfl rfl ?_
  refine V_iadd G eX5_noteWaste_72 ?_
  refine V_iload_n (i := 2) G eX5_noteWaste_73 rfl rfl ?_
  refine V_isub G eX5_noteWaste_74 ?_
  refine V_iload G eX5_noteWaste_75 rfl ?_
  refine V_iload_n (i := 3) G eX5_noteWaste_77 rfl rfl ?_
  refine V_iload G eX5_noteWaste_78 rfl ?_
  refine V_imul G eX5_noteWaste_80 ?_
  refine V_isub G eX5_noteWaste_81 ?_
  obtain ⟨μ4, h1, h⟩ := bdS h
  refine V_callV (As := [.int ((x1 + a3) - a2), .int (x3 - (a3 * x2))]) (st := []) G lkX5_129 (Menus_noteLean_ok h1) (by decide) rfl rfl (Nat.le_of_ble_eq_true rfl) eX5_noteWaste_82 ?_
  refine V_aload_n (i := 0) G eX5_noteWaste_85 rfl rfl ?_
  refine V_get (v := .int (mI μ4 613 0 0)) G fgX5_57 rfl eX5_noteWaste_86 ?_
  refine V_iload G eX5_noteWaste_89 rfl ?_
  refine V_icmp_lt G eX5_noteWaste_91 h (fun h => ?_) (fun h => ?_)
  · exact V_rvM G hr eX5_noteWaste_152 h
  · refine V_aload_n (i := 0) G eX5_noteWaste_94 rfl rfl ?_
    refine V_get (v := .int (mI μ4 613 0 0)) G fgX5_57 rfl eX5_noteWaste_95 ?_
    refine V_iload G eX5_noteWaste_98 rfl ?_
    refine V_iload_n (i := 3) G eX5_noteWaste_100 rfl rfl ?_
    refine V_iadd G eX5_noteWaste_101 ?_
    refine V_iload_n (i := 2) G eX5_noteWaste_102 rfl rfl ?_
    refine V_isub G eX5_noteWaste_103 ?_
    refine V_icmp_gt G eX5_noteWaste_104 h (fun h => ?_) (fun h => ?_)
    · exact V_rvM G hr eX5_noteWaste_152 h
    · refine V_aload_n (i := 0) G eX5_noteWaste_107 rfl rfl ?_
      refine V_get (v := .ref (wad w 607 0)) G fgX5_26 rfl eX5_noteWaste_108 ?_
      refine V_iconst (n := 0) (v := (nI 0)) G eX5_noteWaste_111 rfl ?_
      refine V_aload_n (i := 0) G eX5_noteWaste_112 rfl rfl ?_
      refine V_get (v := .ref (wad w 608 0)) G fgX5_29 rfl eX5_noteWaste_113 ?_
      refine V_iconst (n := 0) (v := (nI 0)) G eX5_noteWaste_116 rfl ?_
      refine V_iconst (n := 5) (v := (nI 5)) G eX5_noteWaste_117 rfl ?_
      refine V_copy (v := 607) (r := 0) (v' := 608) (r' := 0) G al_607 (by decide) al_608 (by decide) cpyX5_132 (by decide) (by decide) (by decide) (by decide) (by decide) eX5_noteWaste_118 h (fun μ5 h => ?_)
      refine V_aload_n (i := 0) G eX5_noteWaste_121 rfl rfl ?_
      refine V_get (v := .ref (wad w 608 0)) G fgX5_29 rfl eX5_noteWaste_122 ?_
      refine V_iload_n (i := 1) G eX5_noteWaste_125 rfl rfl ?_
      refine V_iload_n (i := 2) G eX5_noteWaste_126 rfl rfl ?_
      refine V_aload_n (i := 0) G eX5_noteWaste_127 rfl rfl ?_
      refine V_get (v := .int (mI μ5 613 0 0)) G fgX5_57 rfl eX5_noteWaste_128 ?_
      refine V_iadd G eX5_noteWaste_131 ?_
      refine V_iload G eX5_noteWaste_132 rfl ?_
      refine V_isub G eX5_noteWaste_134 ?_
      refine V_iast G al_608 (by decide) eX5_noteWaste_135 h (fun μ6 h => ?_)
      refine V_aload_n (i := 0) G eX5_noteWaste_136 rfl rfl ?_
      refine V_iload G eX5_noteWaste_137 rfl ?_
      refine V_aload_n (i := 0) G eX5_noteWaste_139 rfl rfl ?_
      refine V_get (v := .ref (wad w 608 0)) G fgX5_29 rfl eX5_noteWaste_140 ?_
      refine V_iload_n (i := 1) G eX5_noteWaste_143 rfl rfl ?_
      refine V_iald G al_608 (by decide) eX5_noteWaste_144 h (fun x7 h => ?_)
      refine V_iload G eX5_noteWaste_145 rfl ?_
      refine V_imul G eX5_noteWaste_147 ?_
      refine V_isub G eX5_noteWaste_148 ?_
      refine V_put G fgX5_138 fp_5_14 eX5_noteWaste_149 h (fun μ8 h => ?_)
      exact V_rvM G hr eX5_noteWaste_152 h
theorem Menus_noteWaste_ok {l : Launch} {w : Wld} {a1 : Int32} {a2 : Int32} {a3 : Int32} {μ : Mem} {μ' : Mem} (h : Menus_noteWaste a1 a2 a3 μ = some μ') : CtV l w yX5_noteWaste cX5_noteWaste 8 2 [.ref (wad w 5 0), .int a1, .int a2, .int a3] μ μ' :=
  Ct_of (own := "PotBook$Menus") [some (.ref (wad w 5 0)), some (.int a1), some (.int a2), some (.int a3), none, none, none, none] (by decide +kernel) rfl rfl (Nat.le_of_ble_eq_true rfl) fun p e s m args below meth c G hr => Menus_noteWaste_run G hr h
set_option maxRecDepth 100000 in
set_option maxHeartbeats 4000000 in
theorem Menus_noteMenus_l1_ok {p : Program} {l : Launch} {e : Env} {R : Room} {s : State} {m : MethodId} {args : Array Value} {below : List Frame} {meth : Method} {c : Code} {w : Wld} {Q : State → Prop} (G : Cxt p R s m args meth c w cX5_noteMenus 9 "PotBook$Menus" 3 0 0) {v1 : Int32} {v2 : Int32} {v3 : Int32} {μ : Mem} {o1 : Int32} {o2 : Int32} : ∀ {n : Nat} {v4 : Int32} {v5 : Int32} {v6 : Int32}, Menus_noteMenus_l1 v1 v2 v3 μ n v4 v5 v6 = some (o1, o2) → Vj p l e R s m args below meth c w 9 0 0 Q 63 [some (.ref (wad w 5 0)), some (.int v1), some (.int v2), some (.int v3), some (.int o1), some (.int o2), none, none, none] [] μ → Vj p l e R s m args below meth c w 9 0 0 Q 15 [some (.ref (wad w 5 0)), some (.int v1), some (.int v2), some (.int v3), some (.int v4), some (.int v5), some (.int v6), none, none] [] μ := by
  intro n
  induction n with
  | zero => intro v4 v5 v6 h K; exact noS h
  | succ n ih =>
    intro v4 v5 v6 h K
    replace h : Menus_noteMenus_l1b v1 v2 v3 μ (Menus_noteMenus_l1 v1 v2 v3 μ n) v4 v5 v6 = some (o1, o2) := h
    unfold Menus_noteMenus_l1b at h
    refine V_iload G eX5_noteMenus_15 rfl ?_
    refine V_iload_n (i := 1) G eX5_noteMenus_17 rfl rfl ?_
    refine V_icmp_ge G eX5_noteMenus_18 h (fun h => ?_) (fun h => ?_)
    · cases h; exact V_sub (lS_s (lS_s (lS_s (lS_s (lS_s (lS_s (lS_n (lS_n (lS_n lS_0))))))))) K
    · refine V_iload G eX5_noteMenus_21 rfl ?_
      refine V_aload_n (i := 0) G eX5_noteMenus_23 rfl rfl ?_
      refine V_get (v := .ref (wad w 607 0)) G fgX5_26 rfl eX5_noteMenus_24 ?_
      refine V_iload G eX5_noteMenus_27 rfl ?_
      refine V_iald G al_607 (by decide) eX5_noteMenus_29 h (fun x1 h => ?_)
      refine V_iadd G eX5_noteMenus_30 ?_
      refine V_istore (i := 5) (L' := (fun x2 => [some (.ref (wad w 5 0)), some (.int v1), some (.int v2), some (.int v3), some (.int v4), some (.int x2), some (.int v6), none, none])) G eX5_noteMenus_31 (by decide) rfl (fun _ => rfl) h (fun x2 h => ?_)
      refine V_aload_n (i := 0) G eX5_noteMenus_33 rfl rfl ?_
      refine V_get (v := .ref (wad w 607 0)) G fgX5_26 rfl eX5_noteMenus_34 ?_
      refine V_iload G eX5_noteMenus_37 rfl ?_
      refine V_iald G al_607 (by decide) eX5_noteMenus_39 h (fun x3 h => ?_)
      obtain ⟨x6, hj, h⟩ := bdS h
      have J : Vj p l e R s m args below meth c w 9 0 0 Q 57 [some (.ref (wad w 5 0)), some (.int v1), some (.int v2), some (.int v3), some (.int x6), some (.int x2), some (.int v6), none, none] [] μ := by
        clear hj
        refine V_iinc (z := (nI 1)) (L' := (fun x7 => [some (.ref (wad w 5 0)), some (.int v1), some (.int v2), some (.int v3), some (.int x6), some (.int x2), some (.int x7), none, none])) G eX5_noteMenus_57 rfl rfl (by decide) rfl (fun _ => rfl) h (fun x7 h => ?_)
        refine V_goto G eX5_noteMenus_60 ?_
        exact (ih h K)
      replace h := hj
      clear hj
      refine V_if_le G eX5_noteMenus_40 h (fun h => ?_) (fun h => ?_)
      · cases h; exact J
      · refine V_iload G eX5_noteMenus_43 rfl ?_
        refine V_iconst (n := 1) (v := (nI 1)) G eX5_noteMenus_45 rfl ?_
        refine V_aload_n (i := 0) G eX5_noteMenus_46 rfl rfl ?_
        refine V_get (v := .ref (wad w 603 0)) G fgX5_9 rfl eX5_noteMenus_47 ?_
        refine V_iload G eX5_noteMenus_50 rfl ?_
        refine V_iald G al_603 (by decide) eX5_noteMenus_52 h (fun x4 h => ?_)
        refine V_ishl G eX5_noteMenus_53 ?_
        refine V_ior G eX5_noteMenus_54 ?_
        refine V_istore (i := 4) (L' := (fun x5 => [some (.ref (wad w 5 0)), some (.int v1), some (.int v2), some (.int v3), some (.int x5), some (.int x2), some (.int v6), none, none])) G eX5_noteMenus_55 (by decide) rfl (fun _ => rfl) h (fun x5 h => ?_)
        cases h; exact J
set_option maxRecDepth 100000 in
set_option maxHeartbeats 4000000 in
theorem Menus_noteMenus_run {p : Program} {l : Launch} {e : Env} {R : Room} {s : State} {m : MethodId} {args : Array Value} {below : List Frame} {meth : Method} {c : Code} {w : Wld} (G : Cxt p R s m args meth c w cX5_noteMenus 9 "PotBook$Menus" 3 0 0) (hr : meth.sig.returnType = none) {a1 : Int32} {a2 : Int32} {a3 : Int32} {μ : Mem} {μ' : Mem} (h : Menus_noteMenus a1 a2 a3 μ = some μ') : Vj p l e R s m args below meth c w 9 0 0 (MQ below (QV w μ') args s 0 0 w.2.2.2) 0 [some (.ref (wad w 5 0)), some (.int a1), some (.int a2), some (.int a3), none, none, none, none, none] [] μ := by
  unfold Menus_noteMenus at h
  refine V_iload_n (i := 2) G eX5_noteMenus_0 rfl rfl ?_
  refine V_iload_n (i := 3) G eX5_noteMenus_1 rfl rfl ?_
  refine V_icmp_le G eX5_noteMenus_2 h (fun h => ?_) (fun h => ?_)
  · refine V_iconst (n := 0) (v := (nI 0)) G eX5_noteMenus_6 rfl ?_
    refine V_istoreA (i := 4) (L' := [some (.ref (wad w 5 0)), some (.int a1), some (.int a2), some (.int a3), some (.int (nI 0)), none, none, none, none]) G eX5_noteMenus_7 (by decide) rfl rfl ?_
    refine V_iconst (n := 0) (v := (nI 0)) G eX5_noteMenus_9 rfl ?_
    refine V_istoreA (i := 5) (L' := [some (.ref (wad w 5 0)), some (.int a1), some (.int a2), some (.int a3), some (.int (nI 0)), some (.int (nI 0)), none, none, none]) G eX5_noteMenus_10 (by decide) rfl rfl ?_
    refine V_iconst (n := 0) (v := (nI 0)) G eX5_noteMenus_12 rfl ?_
    refine V_istoreA (i := 6) (L' := [some (.ref (wad w 5 0)), some (.int a1), some (.int a2), some (.int a3), some (.int (nI 0)), some (.int (nI 0)), some (.int (nI 0)), none, none]) G eX5_noteMenus_13 (by decide) rfl rfl ?_
    obtain ⟨⟨x1, x2⟩, h1, h⟩ := bdS h
    refine Menus_noteMenus_l1_ok G h1 ?_
    refine V_iconst (n := 1) (v := (nI 1)) G eX5_noteMenus_63 rfl ?_
    refine V_aload_n (i := 0) G eX5_noteMenus_64 rfl rfl ?_
    refine V_get (v := .ref (wad w 603 0)) G fgX5_9 rfl eX5_noteMenus_65 ?_
    refine V_iload_n (i := 1) G eX5_noteMenus_68 rfl rfl ?_
    refine V_iald G al_603 (by decide) eX5_noteMenus_69 h (fun x3 h => ?_)
    refine V_ishl G eX5_noteMenus_70 ?_
    refine V_istore (i := 6) (L' := (fun x4 => [some (.ref (wad w 5 0)), some (.int a1), some (.int a2), some (.int a3), some (.int x1), some (.int x2), some (.int x4), none, none])) G eX5_noteMenus_71 (by decide) rfl (fun _ => rfl) h (fun x4 h => ?_)
    refine V_iload_n (i := 2) G eX5_noteMenus_73 rfl rfl ?_
    obtain ⟨x5, hj, h⟩ := bdS h
    have J : Vj p l e R s m args below meth c w 9 0 0 (MQ below (QV w μ') args s 0 0 w.2.2.2) 87 [some (.ref (wad w 5 0)), some (.int a1), some (.int a2), some (.int a3), some (.int x1), some (.int x2), some (.int x4), none, none] [.int x5] μ := by
      clear hj
      refine V_istoreA (i := 7) (L' := [some (.ref (wad w 5 0)), some (.int a1), some (.int a2), some (.int a3), some (.int x1), some (.int x2), some (.int x4), some (.int x5), none]) G eX5_noteMenus_87 (by decide) rfl rfl ?_
      refine V_aload_n (i := 0) G eX5_noteMenus_89 rfl rfl ?_
      refine V_get (v := .ref (wad w 609 0)) G fgX5_32 rfl eX5_noteMenus_90 ?_
      refine V_iconst (n := 0) (v := (nI 0)) G eX5_noteMenus_93 rfl ?_
      refine V_iald G al_609 (by decide) eX5_noteMenus_94 h (fun x6 h => ?_)
      refine V_istoreA (i := 8) (L' := [some (.ref (wad w 5 0)), some (.int a1), some (.int a2), some (.int a3), some (.int x1), some (.int x2), some (.int x4), some (.int x5), some (.int x6)]) G eX5_noteMenus_95 (by decide) rfl rfl ?_
      refine V_aload_n (i := 0) G eX5_noteMenus_97 rfl rfl ?_
      refine V_get (v := .ref (wad w 609 0)) G fgX5_32 rfl eX5_noteMenus_98 ?_
      refine V_iconst (n := 1) (v := (nI 1)) G eX5_noteMenus_101 rfl ?_
      refine V_iload G eX5_noteMenus_102 rfl ?_
      obtain ⟨x8, hj, h⟩ := bdS h
      have J : Vj p l e R s m args below meth c w 9 0 0 (MQ below (QV w μ') args s 0 0 w.2.2.2) 121 [some (.ref (wad w 5 0)), some (.int a1), some (.int a2), some (.int a3), some (.int x1), some (.int x2), some (.int x4), none, some (.int x6)] [.int x8, .int (nI 1), .ref (wad w 609 0)] μ := by
        clear hj
        refine V_iast G al_609 (by decide) eX5_noteMenus_121 h (fun μ9 h => ?_)
        refine V_aload_n (i := 0) G eX5_noteMenus_122 rfl rfl ?_
        refine V_get (v := .ref (wad w 609 0)) G fgX5_32 rfl eX5_noteMenus_123 ?_
        refine V_iconst (n := 2) (v := (nI 2)) G eX5_noteMenus_126 rfl ?_
        refine V_dup2_11 G eX5_noteMenus_127 rfl rfl ?_
        refine V_iald G al_609 (by decide) eX5_noteMenus_128 h (fun x10 h => ?_)
        refine V_iload_n (i := 3) G eX5_noteMenus_129 rfl rfl ?_
        obtain ⟨x11, hj, h⟩ := bdS h
        have J : Vj p l e R s m args below meth c w 9 0 0 (MQ below (QV w μ') args s 0 0 w.2.2.2) 143 [some (.ref (wad w 5 0)), some (.int a1), some (.int a2), some (.int a3), none, some (.int x2), none, none, some (.int x6)] [.int x11, .int x10, .int (nI 2), .ref (wad w 609 0)] μ9 := by
          clear hj
          refine V_ior G eX5_noteMenus_143 ?_
          refine V_iast G al_609 (by decide) eX5_noteMenus_144 h (fun μ12 h => ?_)
          refine V_aload_n (i := 0) G eX5_noteMenus_145 rfl rfl ?_
          refine V_get (v := .ref (wad w 609 0)) G fgX5_32 rfl eX5_noteMenus_146 ?_
          refine V_iconst (n := 3) (v := (nI 3)) G eX5_noteMenus_149 rfl ?_
          refine V_iload G eX5_noteMenus_150 rfl ?_
          obtain ⟨x14, hj, h⟩ := bdS h
          have J : Vj p l e R s m args below meth c w 9 0 0 (MQ below (QV w μ') args s 0 0 w.2.2.2) 175 [some (.ref (wad w 5 0)), some (.int a1), some (.int a2), some (.int a3), none, some (.int x2), none, none, some (.int x6)] [.int x14, .int (nI 3), .ref (wad w 609 0)] μ12 := by
            clear hj
            refine V_iast G al_609 (by decide) eX5_noteMenus_175 h (fun μ15 h => ?_)
            refine V_aload_n (i := 0) G eX5_noteMenus_176 rfl rfl ?_
            refine V_get (v := .ref (wad w 609 0)) G fgX5_32 rfl eX5_noteMenus_177 ?_
            refine V_iconst (n := 4) (v := (nI 4)) G eX5_noteMenus_180 rfl ?_
            refine V_aload_n (i := 0) G eX5_noteMenus_181 rfl rfl ?_
            refine V_get (v := .ref (wad w 609 0)) G fgX5_32 rfl eX5_noteMenus_182 ?_
            refine V_iconst (n := 4) (v := (nI 4)) G eX5_noteMenus_185 rfl ?_
            refine V_iald G al_609 (by decide) eX5_noteMenus_186 h (fun x16 h => ?_)
            refine V_iload G eX5_noteMenus_187 rfl ?_
            refine V_iload_n (i := 3) G eX5_noteMenus_189 rfl rfl ?_
            refine V_iadd G eX5_noteMenus_190 ?_
            refine V_jMax G mkX5_123 (by decide) (Nat.le_of_ble_eq_true rfl) eX5_noteMenus_191 ?_
            refine V_iast G al_609 (by decide) eX5_noteMenus_194 h (fun μ17 h => ?_)
            refine V_aload_n (i := 0) G eX5_noteMenus_195 rfl rfl ?_
            refine V_iload_n (i := 1) G eX5_noteMenus_196 rfl rfl ?_
            refine V_iload_n (i := 2) G eX5_noteMenus_197 rfl rfl ?_
            refine V_iload_n (i := 3) G eX5_noteMenus_198 rfl rfl ?_
            obtain ⟨μ18, h1, h⟩ := bdS h
            refine V_callV (As := [.int a1, .int a2, .int a3]) (st := []) G lkX5_126 (Menus_noteWaste_ok h1) (by decide) rfl rfl (Nat.le_of_ble_eq_true rfl) eX5_noteMenus_199 ?_
            refine V_aload_n (i := 0) G eX5_noteMenus_202 rfl rfl ?_
            refine V_get (v := .ref (wad w 609 0)) G fgX5_32 rfl eX5_noteMenus_203 ?_
            refine V_iconst (n := 0) (v := (nI 0)) G eX5_noteMenus_206 rfl ?_
            refine V_iload G eX5_noteMenus_207 rfl ?_
            refine V_iload_n (i := 3) G eX5_noteMenus_209 rfl rfl ?_
            refine V_iadd G eX5_noteMenus_210 ?_
            refine V_iload_n (i := 2) G eX5_noteMenus_211 rfl rfl ?_
            refine V_isub G eX5_noteMenus_212 ?_
            refine V_iconst (n := 1) (v := (nI 1)) G eX5_noteMenus_213 rfl ?_
            refine V_iadd G eX5_noteMenus_214 ?_
            refine V_iast G al_609 (by decide) eX5_noteMenus_215 h (fun μ19 h => ?_)
            exact V_rvM G hr eX5_noteMenus_216 h
          replace h := hj
          clear hj
          refine V_if_ne G eX5_noteMenus_152 h (fun h => ?_) (fun h => ?_)
          · refine V_aload_n (i := 0) G eX5_noteMenus_162 rfl rfl ?_
            refine V_get (v := .ref (wad w 609 0)) G fgX5_32 rfl eX5_noteMenus_163 ?_
            refine V_iconst (n := 3) (v := (nI 3)) G eX5_noteMenus_166 rfl ?_
            refine V_iald G al_609 (by decide) eX5_noteMenus_167 h (fun x13 h => ?_)
            refine V_iload G eX5_noteMenus_168 rfl ?_
            refine V_iload_n (i := 2) G eX5_noteMenus_170 rfl rfl ?_
            refine V_iadd G eX5_noteMenus_171 ?_
            refine V_jMin G mkX5_117 (by decide) (Nat.le_of_ble_eq_true rfl) eX5_noteMenus_172 ?_
            cases h; exact J
          · refine V_iload G eX5_noteMenus_155 rfl ?_
            refine V_iload_n (i := 2) G eX5_noteMenus_157 rfl rfl ?_
            refine V_iadd G eX5_noteMenus_158 ?_
            refine V_goto G eX5_noteMenus_159 ?_
            cases h; exact J
        replace h := hj
        clear hj
        refine V_if_le G eX5_noteMenus_130 h (fun h => ?_) (fun h => ?_)
        · refine V_iload G eX5_noteMenus_141 rfl ?_
          cases h; exact V_sub (lS_s (lS_s (lS_s (lS_s (lS_n (lS_s (lS_n (lS_n (lS_s lS_0))))))))) J
        · refine V_iload G eX5_noteMenus_133 rfl ?_
          refine V_iload G eX5_noteMenus_135 rfl ?_
          refine V_ior G eX5_noteMenus_137 ?_
          refine V_goto G eX5_noteMenus_138 ?_
          cases h; exact V_sub (lS_s (lS_s (lS_s (lS_s (lS_n (lS_s (lS_n (lS_n (lS_s lS_0))))))))) J
      replace h := hj
      clear hj
      refine V_if_ne G eX5_noteMenus_104 h (fun h => ?_) (fun h => ?_)
      · refine V_aload_n (i := 0) G eX5_noteMenus_112 rfl rfl ?_
        refine V_get (v := .ref (wad w 609 0)) G fgX5_32 rfl eX5_noteMenus_113 ?_
        refine V_iconst (n := 1) (v := (nI 1)) G eX5_noteMenus_116 rfl ?_
        refine V_iald G al_609 (by decide) eX5_noteMenus_117 h (fun x7 h => ?_)
        refine V_iload G eX5_noteMenus_118 rfl ?_
        refine V_iand G eX5_noteMenus_120 ?_
        cases h; exact V_sub (lS_s (lS_s (lS_s (lS_s (lS_s (lS_s (lS_s (lS_n (lS_s lS_0))))))))) J
      · refine V_iload G eX5_noteMenus_107 rfl ?_
        refine V_goto G eX5_noteMenus_109 ?_
        cases h; exact V_sub (lS_s (lS_s (lS_s (lS_s (lS_s (lS_s (lS_s (lS_n (lS_s lS_0))))))))) J
    replace h := hj
    clear hj
    refine V_if_le G eX5_noteMenus_74 h (fun h => ?_) (fun h => ?_)
    · refine V_iload G eX5_noteMenus_85 rfl ?_
      cases h; exact J
    · refine V_iload G eX5_noteMenus_77 rfl ?_
      refine V_iload G eX5_noteMenus_79 rfl ?_
      refine V_ior G eX5_noteMenus_81 ?_
      refine V_goto G eX5_noteMenus_82 ?_
      cases h; exact J
  · exact V_rvM G hr eX5_noteMenus_5 h
theorem Menus_noteMenus_ok {l : Launch} {w : Wld} {a1 : Int32} {a2 : Int32} {a3 : Int32} {μ : Mem} {μ' : Mem} (h : Menus_noteMenus a1 a2 a3 μ = some μ') : CtV l w yX5_noteMenus cX5_noteMenus 9 3 [.ref (wad w 5 0), .int a1, .int a2, .int a3] μ μ' :=
  Ct_of (own := "PotBook$Menus") [some (.ref (wad w 5 0)), some (.int a1), some (.int a2), some (.int a3), none, none, none, none, none] (by decide +kernel) rfl rfl (Nat.le_of_ble_eq_true rfl) fun p e s m args below meth c G hr => Menus_noteMenus_run G hr h
set_option maxRecDepth 100000 in
set_option maxHeartbeats 4000000 in
theorem Menus_use_l1_ok {p : Program} {l : Launch} {e : Env} {R : Room} {s : State} {m : MethodId} {args : Array Value} {below : List Frame} {meth : Method} {c : Code} {w : Wld} {Q : State → Prop} (G : Cxt p R s m args meth c w cX5_use 4 "PotBook$Menus" 1 0 0) {v1 : Int32} {v2 : Int32} {μo : Mem} : ∀ {n : Nat} {v3 : Int32} {μ : Mem}, Menus_use_l1 v1 v2 n v3 μ = some μo → Vj p l e R s m args below meth c w 4 0 0 Q 33 [none, none, none, none] [] μo → Vj p l e R s m args below meth c w 4 0 0 Q 2 [some (.ref (wad w 5 0)), some (.int v1), some (.int v2), some (.int v3)] [] μ := by
  intro n
  induction n with
  | zero => intro v3 μ h K; exact noS h
  | succ n ih =>
    intro v3 μ h K
    replace h : Menus_use_l1b v1 v2 (Menus_use_l1 v1 v2 n) v3 μ = some μo := h
    unfold Menus_use_l1b at h
    refine V_iload_n (i := 3) G eX5_use_2 rfl rfl ?_
    refine V_bipush (n := 12) (v := (nI 12)) G eX5_use_3 rfl ?_
    refine V_icmp_ge G eX5_use_5 h (fun h => ?_) (fun h => ?_)
    · cases h; exact V_sub (lS_n (lS_n (lS_n (lS_n lS_0)))) K
    · refine V_aload_n (i := 0) G eX5_use_8 rfl rfl ?_
      refine V_get (v := .ref (wad w 606 0)) G fgX5_23 rfl eX5_use_9 ?_
      refine V_iload_n (i := 3) G eX5_use_12 rfl rfl ?_
      refine V_dup2_11 G eX5_use_13 rfl rfl ?_
      refine V_iald G al_606 (by decide) eX5_use_14 h (fun x1 h => ?_)
      refine V_iload_n (i := 2) G eX5_use_15 rfl rfl ?_
      refine V_aload_n (i := 0) G eX5_use_16 rfl rfl ?_
      refine V_get (v := .ref (wad w 10605 0)) G fgX5_20 rfl eX5_use_17 ?_
      refine V_iload_n (i := 1) G eX5_use_20 rfl rfl ?_
      refine V_aaldI (id := 605) G al_10605 eX5_use_21 h (fun r2 hr2 h => ?_)
      refine V_iload_n (i := 3) G eX5_use_22 rfl rfl ?_
      refine V_iald G al_605 hr2 eX5_use_23 h (fun x3 h => ?_)
      refine V_imul G eX5_use_24 ?_
      refine V_isub G eX5_use_25 ?_
      refine V_iast G al_606 (by decide) eX5_use_26 h (fun μ4 h => ?_)
      refine V_iinc (z := (nI 1)) (L' := (fun x5 => [some (.ref (wad w 5 0)), some (.int v1), some (.int v2), some (.int x5)])) G eX5_use_27 rfl rfl (by decide) rfl (fun _ => rfl) h (fun x5 h => ?_)
      refine V_goto G eX5_use_30 ?_
      exact (ih h K)
set_option maxRecDepth 100000 in
set_option maxHeartbeats 4000000 in
theorem Menus_use_run {p : Program} {l : Launch} {e : Env} {R : Room} {s : State} {m : MethodId} {args : Array Value} {below : List Frame} {meth : Method} {c : Code} {w : Wld} (G : Cxt p R s m args meth c w cX5_use 4 "PotBook$Menus" 1 0 0) (hr : meth.sig.returnType = none) {a1 : Int32} {a2 : Int32} {μ : Mem} {μ' : Mem} (h : Menus_use a1 a2 μ = some μ') : Vj p l e R s m args below meth c w 4 0 0 (MQ below (QV w μ') args s 0 0 w.2.2.2) 0 [some (.ref (wad w 5 0)), some (.int a1), some (.int a2), none] [] μ := by
  unfold Menus_use at h
  refine V_iconst (n := 0) (v := (nI 0)) G eX5_use_0 rfl ?_
  refine V_istoreA_n (i := 3) (L' := [some (.ref (wad w 5 0)), some (.int a1), some (.int a2), some (.int (nI 0))]) G rfl eX5_use_1 (by decide) rfl rfl ?_
  obtain ⟨μ1, h1, h⟩ := bdS h
  refine Menus_use_l1_ok G h1 ?_
  exact V_rvM G hr eX5_use_33 h
theorem Menus_use_ok {l : Launch} {w : Wld} {a1 : Int32} {a2 : Int32} {μ : Mem} {μ' : Mem} (h : Menus_use a1 a2 μ = some μ') : CtV l w yX5_use cX5_use 4 1 [.ref (wad w 5 0), .int a1, .int a2] μ μ' :=
  Ct_of (own := "PotBook$Menus") [some (.ref (wad w 5 0)), some (.int a1), some (.int a2), none] (by decide +kernel) rfl rfl (Nat.le_of_ble_eq_true rfl) fun p e s m args below meth c G hr => Menus_use_run G hr h
set_option maxRecDepth 100000 in
set_option maxHeartbeats 4000000 in
theorem Menus_choose_l1_ok {p : Program} {l : Launch} {e : Env} {R : Room} {s : State} {m : MethodId} {args : Array Value} {below : List Frame} {meth : Method} {c : Code} {w : Wld} {Q : State → Prop} {lv : Nat} (hlv : 3 ≤ lv) (G : Cxt p R s m args meth c w cX5_choose 4 "PotBook$Menus" (lv + 1) 0 0) {r_Menus_choose : Int32 → Mem → Option Mem} (ih_Menus_choose : ∀ {a1 : Int32} {μ : Mem} {μ' : Mem}, r_Menus_choose a1 μ = some μ' → CtV l w yX5_choose cX5_choose 4 lv [.ref (wad w 5 0), .int a1] μ μ') {v1 : Int32} {v2 : Int32} {μo : Mem} : ∀ {n : Nat} {v3 : Int32} {μ : Mem}, Menus_choose_l1 r_Menus_choose v1 v2 n v3 μ = some μo → Vj p l e R s m args below meth c w 4 0 0 Q 75 [some (.ref (wad w 5 0)), some (.int v1), some (.int v2), none] [] μo → Vj p l e R s m args below meth c w 4 0 0 Q 44 [some (.ref (wad w 5 0)), some (.int v1), some (.int v2), some (.int v3)] [] μ := by
  intro n
  induction n with
  | zero => intro v3 μ h K; exact noS h
  | succ n ih =>
    intro v3 μ h K
    replace h : Menus_choose_l1b r_Menus_choose v1 v2 (Menus_choose_l1 r_Menus_choose v1 v2 n) v3 μ = some μo := h
    unfold Menus_choose_l1b at h
    refine V_iload_n (i := 3) G eX5_choose_44 rfl rfl ?_
    refine V_iload_n (i := 2) G eX5_choose_45 rfl rfl ?_
    refine V_icmp_gt G eX5_choose_46 h (fun h => ?_) (fun h => ?_)
    · cases h; exact V_sub (lS_s (lS_s (lS_s (lS_n lS_0)))) K
    · refine V_aload_n (i := 0) G eX5_choose_49 rfl rfl ?_
      refine V_get (v := .ref (wad w 607 0)) G fgX5_26 rfl eX5_choose_50 ?_
      refine V_iload_n (i := 1) G eX5_choose_53 rfl rfl ?_
      refine V_iload_n (i := 3) G eX5_choose_54 rfl rfl ?_
      refine V_iast G al_607 (by decide) eX5_choose_55 h (fun μ1 h => ?_)
      refine V_aload_n (i := 0) G eX5_choose_56 rfl rfl ?_
      refine V_iload_n (i := 1) G eX5_choose_57 rfl rfl ?_
      refine V_iconst (n := 1) (v := (nI 1)) G eX5_choose_58 rfl ?_
      refine V_iadd G eX5_choose_59 ?_
      obtain ⟨μ2, h1, h⟩ := bdS h
      refine V_callV (As := [.int (v1 + (nI 1))]) (st := []) G lkX5_84 (ih_Menus_choose h1) (by omega) rfl rfl (Nat.le_of_ble_eq_true rfl) eX5_choose_60 ?_
      refine V_aload_n (i := 0) G eX5_choose_63 rfl rfl ?_
      refine V_iload_n (i := 1) G eX5_choose_64 rfl rfl ?_
      refine V_iconst (n := 1) (v := (nI 1)) G eX5_choose_65 rfl ?_
      obtain ⟨μ3, h1, h⟩ := bdS h
      refine V_callV (As := [.int v1, .int (nI 1)]) (st := []) G lkX5_113 (Menus_use_ok h1) (by omega) rfl rfl (Nat.le_of_ble_eq_true rfl) eX5_choose_66 ?_
      refine V_iinc (z := (nI 1)) (L' := (fun x4 => [some (.ref (wad w 5 0)), some (.int v1), some (.int v2), some (.int x4)])) G eX5_choose_69 rfl rfl (by decide) rfl (fun _ => rfl) h (fun x4 h => ?_)
      refine V_goto G eX5_choose_72 ?_
      exact (ih h K)
set_option maxRecDepth 100000 in
set_option maxHeartbeats 4000000 in
theorem Menus_choose_B_run {p : Program} {l : Launch} {e : Env} {R : Room} {s : State} {m : MethodId} {args : Array Value} {below : List Frame} {meth : Method} {c : Code} {w : Wld} {lv : Nat} (hlv : 3 ≤ lv) (G : Cxt p R s m args meth c w cX5_choose 4 "PotBook$Menus" (lv + 1) 0 0) (hr : meth.sig.returnType = none) {r_Menus_choose : Int32 → Mem → Option Mem} (ih_Menus_choose : ∀ {a1 : Int32} {μ : Mem} {μ' : Mem}, r_Menus_choose a1 μ = some μ' → CtV l w yX5_choose cX5_choose 4 lv [.ref (wad w 5 0), .int a1] μ μ') {a1 : Int32} {μ : Mem} {μ' : Mem} (h : Menus_choose_B r_Menus_choose a1 μ = some μ') : Vj p l e R s m args below meth c w 4 0 0 (MQ below (QV w μ') args s 0 0 w.2.2.2) 0 [some (.ref (wad w 5 0)), some (.int a1), none, none] [] μ := by
  unfold Menus_choose_B at h
  refine V_iload_n (i := 1) G eX5_choose_0 rfl rfl ?_
  refine V_aload_n (i := 0) G eX5_choose_1 rfl rfl ?_
  refine V_get (v := .int (mI μ 610 0 0)) G fgX5_47 rfl eX5_choose_2 ?_
  refine V_icmp_ge G eX5_choose_5 h (fun h => ?_) (fun h => ?_)
  · exact V_rvM G hr eX5_choose_13 h
  · refine V_iload_n (i := 1) G eX5_choose_8 rfl rfl ?_
    refine V_iconst (n := 5) (v := (nI 5)) G eX5_choose_9 rfl ?_
    refine V_icmp_lt G eX5_choose_10 h (fun h => ?_) (fun h => ?_)
    · refine V_aload_n (i := 0) G eX5_choose_14 rfl rfl ?_
      refine V_iload_n (i := 1) G eX5_choose_15 rfl rfl ?_
      obtain ⟨x1, h1, h⟩ := bdS h
      refine V_callI (As := [.int a1]) (st := []) G lkX5_102 (Menus_room_ok h1) (by omega) rfl rfl (Nat.le_of_ble_eq_true rfl) eX5_choose_16 ?_
      refine V_istoreA_n (i := 2) (L' := [some (.ref (wad w 5 0)), some (.int a1), some (.int x1), none]) G rfl eX5_choose_19 (by decide) rfl rfl ?_
      refine V_iload_n (i := 1) G eX5_choose_20 rfl rfl ?_
      refine V_aload_n (i := 0) G eX5_choose_21 rfl rfl ?_
      refine V_get (v := .int (mI μ 610 0 0)) G fgX5_47 rfl eX5_choose_22 ?_
      refine V_iconst (n := 1) (v := (nI 1)) G eX5_choose_25 rfl ?_
      refine V_isub G eX5_choose_26 ?_
      refine V_icmp_ne G eX5_choose_27 h (fun h => ?_) (fun h => ?_)
      · refine V_iconst (n := 0) (v := (nI 0)) G eX5_choose_42 rfl ?_
        refine V_istoreA_n (i := 3) (L' := [some (.ref (wad w 5 0)), some (.int a1), some (.int x1), some (.int (nI 0))]) G rfl eX5_choose_43 (by decide) rfl rfl ?_
        obtain ⟨μ2, h1, h⟩ := bdS h
        refine Menus_choose_l1_ok hlv G ih_Menus_choose h1 ?_
        refine V_aload_n (i := 0) G eX5_choose_75 rfl rfl ?_
        refine V_iload_n (i := 1) G eX5_choose_76 rfl rfl ?_
        refine V_iload_n (i := 2) G eX5_choose_77 rfl rfl ?_
        refine V_ineg G eX5_choose_78 ?_
        refine V_iconst (n := 1) (v := (nI 1)) G eX5_choose_79 rfl ?_
        refine V_isub G eX5_choose_80 ?_
        obtain ⟨μ3, h1, h⟩ := bdS h
        refine V_callV (As := [.int a1, .int ((-x1) - (nI 1))]) (st := []) G lkX5_113 (Menus_use_ok h1) (by omega) rfl rfl (Nat.le_of_ble_eq_true rfl) eX5_choose_81 ?_
        exact V_rvM G hr eX5_choose_84 h
      · refine V_aload_n (i := 0) G eX5_choose_30 rfl rfl ?_
        refine V_iload_n (i := 1) G eX5_choose_31 rfl rfl ?_
        refine V_aload_n (i := 0) G eX5_choose_32 rfl rfl ?_
        refine V_iload_n (i := 1) G eX5_choose_33 rfl rfl ?_
        obtain ⟨x4, h1, h⟩ := bdS h
        refine V_callI (As := [.int a1]) (st := [.int a1, .ref (wad w 5 0)]) G lkX5_106 (Menus_need_ok h1) (by omega) rfl rfl (Nat.le_of_ble_eq_true rfl) eX5_choose_34 ?_
        refine V_iload_n (i := 2) G eX5_choose_37 rfl rfl ?_
        obtain ⟨μ5, h1, h⟩ := bdS h
        refine V_callV (As := [.int a1, .int x4, .int x1]) (st := []) G lkX5_109 (Menus_noteMenus_ok h1) (by omega) rfl rfl (Nat.le_of_ble_eq_true rfl) eX5_choose_38 ?_
        exact V_rvM G hr eX5_choose_41 h
    · exact V_rvM G hr eX5_choose_13 h
set_option maxRecDepth 100000 in
set_option maxHeartbeats 4000000 in
theorem G_Menus_choose_ok {l : Launch} {w : Wld} : ∀ n : Nat, (∀ {a1 : Int32} {μ : Mem} {μ' : Mem}, Menus_choose n a1 μ = some μ' → CtV l w yX5_choose cX5_choose 4 (3 + n) [.ref (wad w 5 0), .int a1] μ μ') := by
  intro n
  induction n with
  | zero => exact fun h => noS h
  | succ n ih =>
    have ih_Menus_choose := @ih
    · intro a1 μ μ' h
      rw [Menus_choose_s] at h
      exact Ct_of (own := "PotBook$Menus") [some (.ref (wad w 5 0)), some (.int a1), none, none] (by decide +kernel) rfl rfl (Nat.le_of_ble_eq_true rfl) fun p e s m args below meth c G hr => Menus_choose_B_run (lv := 3 + n) (by omega) G hr ih_Menus_choose h

theorem Menus_choose_ok {l : Launch} {w : Wld} {a1 : Int32} {μ : Mem} {μ' : Mem} (h : Menus_choose RF a1 μ = some μ') : CtV l w yX5_choose cX5_choose 4 (3 + RF) [.ref (wad w 5 0), .int a1] μ μ' := (G_Menus_choose_ok RF) h
set_option maxRecDepth 100000 in
set_option maxHeartbeats 4000000 in
theorem Menus_layOut_l1_ok {p : Program} {l : Launch} {e : Env} {R : Room} {s : State} {m : MethodId} {args : Array Value} {below : List Frame} {meth : Method} {c : Code} {w : Wld} {Q : State → Prop} (G : Cxt p R s m args meth c w cX5_layOut 6 "PotBook$Menus" 65 0 0) {v1 : Int32} {v2 : Int32} {μo : Mem} : ∀ {n : Nat} {v5 : Int32} {μ : Mem}, Menus_layOut_l1 v1 v2 n v5 μ = some μo → Vj p l e R s m args below meth c w 6 0 0 Q 75 [some (.ref (wad w 5 0)), some (.int v1), none, none, none, none] [] μo → Vj p l e R s m args below meth c w 6 0 0 Q 24 [some (.ref (wad w 5 0)), some (.int v1), some (.int v2), none, none, some (.int v5)] [] μ := by
  intro n
  induction n with
  | zero => intro v5 μ h K; exact noS h
  | succ n ih =>
    intro v5 μ h K
    replace h : Menus_layOut_l1b v1 v2 (Menus_layOut_l1 v1 v2 n) v5 μ = some μo := h
    unfold Menus_layOut_l1b at h
    refine V_iload G eX5_layOut_24 rfl ?_
    refine V_aload_n (i := 0) G eX5_layOut_26 rfl rfl ?_
    refine V_get (v := .ref (wad w 6 0)) G fgX5_35 rfl eX5_layOut_27 ?_
    refine V_get (v := .int (mI μ 712 0 0)) G fgX5_60 rfl eX5_layOut_30 ?_
    refine V_icmp_ge G eX5_layOut_33 h (fun h => ?_) (fun h => ?_)
    · cases h; exact V_sub (lS_s (lS_s (lS_n (lS_n (lS_n (lS_n lS_0)))))) K
    · refine V_iload_n (i := 2) G eX5_layOut_36 rfl rfl ?_
      refine V_iload G eX5_layOut_37 rfl ?_
      obtain ⟨x1, h1, h⟩ := bdS h
      refine V_callIS (As := [.int v2, .int v5]) (st := []) G lkX5_65 (B_holdsBit_ok (μ := μ) h1) (by decide) rfl rfl (Nat.le_of_ble_eq_true rfl) eX5_layOut_39 ?_
      obtain ⟨μ5, hj, h⟩ := bdS h
      have J : Vj p l e R s m args below meth c w 6 0 0 Q 69 [some (.ref (wad w 5 0)), some (.int v1), some (.int v2), none, none, some (.int v5)] [] μ5 := by
        clear hj
        refine V_iinc (z := (nI 1)) (L' := (fun x6 => [some (.ref (wad w 5 0)), some (.int v1), some (.int v2), none, none, some (.int x6)])) G eX5_layOut_69 rfl rfl (by decide) rfl (fun _ => rfl) h (fun x6 h => ?_)
        refine V_goto G eX5_layOut_72 ?_
        exact (ih h K)
      replace h := hj
      clear hj
      refine V_if_eq G eX5_layOut_42 h (fun h => ?_) (fun h => ?_)
      · cases h; exact J
      · refine V_aload_n (i := 0) G eX5_layOut_45 rfl rfl ?_
        refine V_get (v := .int (mI μ 610 0 0)) G fgX5_47 rfl eX5_layOut_46 ?_
        refine V_iconst (n := 5) (v := (nI 5)) G eX5_layOut_49 rfl ?_
        refine V_icmp_ge G eX5_layOut_50 h (fun h => ?_) (fun h => ?_)
        · cases h; exact J
        · refine V_aload_n (i := 0) G eX5_layOut_53 rfl rfl ?_
          refine V_iload G eX5_layOut_54 rfl ?_
          refine V_aload_n (i := 0) G eX5_layOut_56 rfl rfl ?_
          refine V_get (v := .ref (wad w 0 0)) G fgX5_43 rfl eX5_layOut_57 ?_
          refine V_iload_n (i := 1) G eX5_layOut_60 rfl rfl ?_
          refine V_iload G eX5_layOut_61 rfl ?_
          obtain ⟨⟨x2, μ3⟩, h1, h⟩ := bdS h
          refine V_callI (As := [.int v1, .int v5]) (st := [.int v5, .ref (wad w 5 0)]) G lkX5_69 (Account_isServed_ok h1) (by decide) rfl rfl (Nat.le_of_ble_eq_true rfl) eX5_layOut_63 ?_
          obtain ⟨μ4, h1, h⟩ := bdS h
          refine V_callV (As := [.int v5, .int x2]) (st := []) G lkX5_74 (Menus_setPlace_ok h1) (by decide) rfl rfl (Nat.le_of_ble_eq_true rfl) eX5_layOut_66 ?_
          cases h; exact J
set_option maxRecDepth 100000 in
set_option maxHeartbeats 4000000 in
theorem Menus_layOut_l2_ok {p : Program} {l : Launch} {e : Env} {R : Room} {s : State} {m : MethodId} {args : Array Value} {below : List Frame} {meth : Method} {c : Code} {w : Wld} {Q : State → Prop} (G : Cxt p R s m args meth c w cX5_layOut 6 "PotBook$Menus" 65 0 0) {v1 : Int32} {μo : Mem} : ∀ {n : Nat} {v5 : Int32} {μ : Mem}, Menus_layOut_l2 v1 n v5 μ = some μo → Vj p l e R s m args below meth c w 6 0 0 Q 110 [some (.ref (wad w 5 0)), none, none, none, none, none] [] μo → Vj p l e R s m args below meth c w 6 0 0 Q 78 [some (.ref (wad w 5 0)), some (.int v1), none, none, none, some (.int v5)] [] μ := by
  intro n
  induction n with
  | zero => intro v5 μ h K; exact noS h
  | succ n ih =>
    intro v5 μ h K
    replace h : Menus_layOut_l2b v1 (Menus_layOut_l2 v1 n) v5 μ = some μo := h
    unfold Menus_layOut_l2b at h
    refine V_iload G eX5_layOut_78 rfl ?_
    refine V_bipush (n := 12) (v := (nI 12)) G eX5_layOut_80 rfl ?_
    refine V_icmp_ge G eX5_layOut_82 h (fun h => ?_) (fun h => ?_)
    · cases h; exact V_sub (lS_s (lS_n (lS_n (lS_n (lS_n (lS_n lS_0)))))) K
    · refine V_aload_n (i := 0) G eX5_layOut_85 rfl rfl ?_
      refine V_get (v := .ref (wad w 606 0)) G fgX5_23 rfl eX5_layOut_86 ?_
      refine V_iload G eX5_layOut_89 rfl ?_
      refine V_aload_n (i := 0) G eX5_layOut_91 rfl rfl ?_
      refine V_get (v := .ref (wad w 0 0)) G fgX5_43 rfl eX5_layOut_92 ?_
      refine V_get (v := .ref (wad w 10105 0)) G fgX5_78 rfl eX5_layOut_95 ?_
      refine V_iload_n (i := 1) G eX5_layOut_98 rfl rfl ?_
      refine V_aaldI (id := 105) G al_10105 eX5_layOut_99 h (fun r1 hr1 h => ?_)
      refine V_iload G eX5_layOut_100 rfl ?_
      refine V_iald G al_105 hr1 eX5_layOut_102 h (fun x2 h => ?_)
      refine V_iast G al_606 (by decide) eX5_layOut_103 h (fun μ3 h => ?_)
      refine V_iinc (z := (nI 1)) (L' := (fun x4 => [some (.ref (wad w 5 0)), some (.int v1), none, none, none, some (.int x4)])) G eX5_layOut_104 rfl rfl (by decide) rfl (fun _ => rfl) h (fun x4 h => ?_)
      refine V_goto G eX5_layOut_107 ?_
      exact (ih h K)
set_option maxRecDepth 100000 in
set_option maxHeartbeats 4000000 in
theorem Menus_layOut_run {p : Program} {l : Launch} {e : Env} {R : Room} {s : State} {m : MethodId} {args : Array Value} {below : List Frame} {meth : Method} {c : Code} {w : Wld} (G : Cxt p R s m args meth c w cX5_layOut 6 "PotBook$Menus" 65 0 0) (hr : meth.sig.returnType = none) {a1 : Int32} {a2 : Int32} {a3 : Int32} {a4 : Int32} {μ : Mem} {μ' : Mem} (h : Menus_layOut a1 a2 a3 a4 μ = some μ') : Vj p l e R s m args below meth c w 6 0 0 (MQ below (QV w μ') args s 0 0 w.2.2.2) 0 [some (.ref (wad w 5 0)), some (.int a1), some (.int a2), some (.int a3), some (.int a4), none] [] μ := by
  unfold Menus_layOut at h
  refine V_aload_n (i := 0) G eX5_layOut_0 rfl rfl ?_
  refine V_iconst (n := 0) (v := (nI 0)) G eX5_layOut_1 rfl ?_
  refine V_put G fgX5_47 fp_5_10 eX5_layOut_2 h (fun μ1 h => ?_)
  refine V_aload_n (i := 0) G eX5_layOut_5 rfl rfl ?_
  refine V_iconst (n := 0) (v := (nI 0)) G eX5_layOut_6 rfl ?_
  refine V_put G fgX5_51 fp_5_11 eX5_layOut_7 h (fun μ2 h => ?_)
  refine V_aload_n (i := 0) G eX5_layOut_10 rfl rfl ?_
  refine V_iload_n (i := 3) G eX5_layOut_11 rfl rfl ?_
  refine V_put G fgX5_54 fp_5_12 eX5_layOut_12 h (fun μ3 h => ?_)
  refine V_aload_n (i := 0) G eX5_layOut_15 rfl rfl ?_
  refine V_iload G eX5_layOut_16 rfl ?_
  refine V_put G fgX5_57 fp_5_13 eX5_layOut_18 h (fun μ4 h => ?_)
  refine V_iconst (n := 0) (v := (nI 0)) G eX5_layOut_21 rfl ?_
  refine V_istoreA (i := 5) (L' := [some (.ref (wad w 5 0)), some (.int a1), some (.int a2), some (.int a3), some (.int a4), some (.int (nI 0))]) G eX5_layOut_22 (by decide) rfl rfl ?_
  obtain ⟨μ5, h1, h⟩ := bdS h
  refine V_sub (lS_s (lS_s (lS_s (lS_n (lS_n (lS_s lS_0)))))) ?_
  refine Menus_layOut_l1_ok G h1 ?_
  refine V_iconst (n := 0) (v := (nI 0)) G eX5_layOut_75 rfl ?_
  refine V_istoreA (i := 5) (L' := [some (.ref (wad w 5 0)), some (.int a1), none, none, none, some (.int (nI 0))]) G eX5_layOut_76 (by decide) rfl rfl ?_
  obtain ⟨μ6, h1, h⟩ := bdS h
  refine Menus_layOut_l2_ok G h1 ?_
  refine V_aload_n (i := 0) G eX5_layOut_110 rfl rfl ?_
  obtain ⟨μ7, h1, h⟩ := bdS h
  refine V_callV (As := []) (st := []) G lkX5_81 (Menus_clearFound_ok h1) (by decide) rfl rfl (Nat.le_of_ble_eq_true rfl) eX5_layOut_111 ?_
  refine V_aload_n (i := 0) G eX5_layOut_114 rfl rfl ?_
  refine V_iconst (n := 0) (v := (nI 0)) G eX5_layOut_115 rfl ?_
  obtain ⟨μ8, h1, h⟩ := bdS h
  refine V_callV (As := [.int (nI 0)]) (st := []) G lkX5_84 (Menus_choose_ok h1) (by decide) rfl rfl (Nat.le_of_ble_eq_true rfl) eX5_layOut_116 ?_
  exact V_rvM G hr eX5_layOut_119 h
theorem Menus_layOut_ok {l : Launch} {w : Wld} {a1 : Int32} {a2 : Int32} {a3 : Int32} {a4 : Int32} {μ : Mem} {μ' : Mem} (h : Menus_layOut a1 a2 a3 a4 μ = some μ') : CtV l w yX5_layOut cX5_layOut 6 65 [.ref (wad w 5 0), .int a1, .int a2, .int a3, .int a4] μ μ' :=
  Ct_of (own := "PotBook$Menus") [some (.ref (wad w 5 0)), some (.int a1), some (.int a2), some (.int a3), some (.int a4), none] (by decide +kernel) rfl rfl (Nat.le_of_ble_eq_true rfl) fun p e s m args below meth c G hr => Menus_layOut_run G hr h
set_option maxRecDepth 100000 in
set_option maxHeartbeats 4000000 in
theorem B_menu_run {p : Program} {l : Launch} {e : Env} {R : Room} {s : State} {m : MethodId} {args : Array Value} {below : List Frame} {meth : Method} {c : Code} {w : Wld} (G : Cxt p R s m args meth c w cX11_menu 5 "PotBook" 66 0 0) (hr : meth.sig.returnType = some .int) {a1 : Int32} {a2 : Int32} {a3 : Int32} {a4 : Int32} {μ : Mem} {r : Int32} {μ' : Mem} (h : B_menu a1 a2 a3 a4 μ = some (r, μ')) : Vj p l e R s m args below meth c w 5 0 0 (MQ below (QI w r μ') args s 0 0 w.2.2.2) 0 [some (.ref (wad w 11 0)), some (.int a1), some (.int a2), some (.int a3), some (.int a4)] [] μ := by
  unfold B_menu at h
  refine V_iload G eX11_menu_0 rfl ?_
  refine V_iconst (n := 0) (v := (nI 0)) G eX11_menu_2 rfl ?_
  refine V_iconst (n := 4) (v := (nI 4)) G eX11_menu_3 rfl ?_
  obtain ⟨x1, h1, h⟩ := bdS h
  refine V_callIS (As := [.int a4, .int (nI 0), .int (nI 4)]) (st := []) G lkX11_127 (B_isWithin_ok (μ := μ) h1) (by decide) rfl rfl (Nat.le_of_ble_eq_true rfl) eX11_menu_4 ?_
  refine V_if_eq G eX11_menu_7 h (fun h => ?_) (fun h => ?_)
  · refine V_iconst (n := -1) (v := (-1)) G eX11_menu_20 rfl ?_
    exact V_riM G hr eX11_menu_21 h
  · refine V_aload_n (i := 0) G eX11_menu_10 rfl rfl ?_
    refine V_iload_n (i := 1) G eX11_menu_11 rfl rfl ?_
    refine V_iload_n (i := 2) G eX11_menu_12 rfl rfl ?_
    refine V_iload_n (i := 3) G eX11_menu_13 rfl rfl ?_
    obtain ⟨x2, h1, h⟩ := bdS h
    refine V_callI (As := [.int a1, .int a2, .int a3]) (st := []) G lkX11_277 (B_isAsked_ok h1) (by decide) rfl rfl (Nat.le_of_ble_eq_true rfl) eX11_menu_14 ?_
    refine V_if_ne G eX11_menu_17 h (fun h => ?_) (fun h => ?_)
    · refine V_aload_n (i := 0) G eX11_menu_22 rfl rfl ?_
      refine V_get (v := .ref (wad w 5 0)) G fgX11_96 rfl eX11_menu_23 ?_
      refine V_iload_n (i := 1) G eX11_menu_26 rfl rfl ?_
      refine V_iload_n (i := 2) G eX11_menu_27 rfl rfl ?_
      refine V_iload_n (i := 3) G eX11_menu_28 rfl rfl ?_
      refine V_iconst (n := -1) (v := (-1)) G eX11_menu_29 rfl ?_
      obtain ⟨μ3, h1, h⟩ := bdS h
      refine V_callV (As := [.int a1, .int a2, .int a3, .int (-1)]) (st := []) G lkX11_280 (Menus_layOut_ok h1) (by decide) rfl rfl (Nat.le_of_ble_eq_true rfl) eX11_menu_30 ?_
      refine V_aload_n (i := 0) G eX11_menu_33 rfl rfl ?_
      refine V_get (v := .ref (wad w 5 0)) G fgX11_96 rfl eX11_menu_34 ?_
      refine V_get (v := .ref (wad w 609 0)) G fgX11_283 rfl eX11_menu_37 ?_
      refine V_iload G eX11_menu_40 rfl ?_
      refine V_iald G al_609 (by decide) eX11_menu_42 h (fun x4 h => ?_)
      exact V_riM G hr eX11_menu_43 h
    · refine V_iconst (n := -1) (v := (-1)) G eX11_menu_20 rfl ?_
      exact V_riM G hr eX11_menu_21 h
theorem B_menu_ok {l : Launch} {w : Wld} {a1 : Int32} {a2 : Int32} {a3 : Int32} {a4 : Int32} {μ : Mem} {r : Int32} {μ' : Mem} (h : B_menu a1 a2 a3 a4 μ = some (r, μ')) : CtI l w yX11_menu cX11_menu 5 .int 66 [.ref (wad w 11 0), .int a1, .int a2, .int a3, .int a4] μ r μ' :=
  Ct_of (own := "PotBook") [some (.ref (wad w 11 0)), some (.int a1), some (.int a2), some (.int a3), some (.int a4)] (by decide +kernel) rfl rfl (Nat.le_of_ble_eq_true rfl) fun p e s m args below meth c G hr => B_menu_run G hr h
set_option maxRecDepth 100000 in
set_option maxHeartbeats 4000000 in
theorem Menus_messesOf_l1_ok {p : Program} {l : Launch} {e : Env} {R : Room} {s : State} {m : MethodId} {args : Array Value} {below : List Frame} {meth : Method} {c : Code} {w : Wld} (G : Cxt p R s m args meth c w cX5_messesOf 3 "PotBook$Menus" 1 0 0) (hr : meth.sig.returnType = some .int) {v1 : Int32} {μ : Mem} {r : Int32} : ∀ {n : Nat} {v2 : Int32}, Menus_messesOf_l1 v1 μ n v2 = some r → Vj p l e R s m args below meth c w 3 0 0 (MQ below (QI w r μ) args s 0 0 w.2.2.2) 2 [some (.ref (wad w 5 0)), some (.int v1), some (.int v2)] [] μ := by
  intro n
  induction n with
  | zero => intro v2 h; exact noS h
  | succ n ih =>
    intro v2 h
    replace h : Menus_messesOf_l1b v1 μ (Menus_messesOf_l1 v1 μ n) v2 = some r := h
    unfold Menus_messesOf_l1b at h
    refine V_iload_n (i := 2) G eX5_messesOf_2 rfl rfl ?_
    refine V_aload_n (i := 0) G eX5_messesOf_3 rfl rfl ?_
    refine V_get (v := .int (mI μ 610 0 0)) G fgX5_47 rfl eX5_messesOf_4 ?_
    refine V_icmp_ge G eX5_messesOf_7 h (fun h => ?_) (fun h => ?_)
    · refine V_iconst (n := -1) (v := (-1)) G eX5_messesOf_33 rfl ?_
      exact V_ri G hr eX5_messesOf_34 h
    · refine V_aload_n (i := 0) G eX5_messesOf_10 rfl rfl ?_
      refine V_get (v := .ref (wad w 603 0)) G fgX5_9 rfl eX5_messesOf_11 ?_
      refine V_iload_n (i := 2) G eX5_messesOf_14 rfl rfl ?_
      refine V_iald G al_603 (by decide) eX5_messesOf_15 h (fun x1 h => ?_)
      refine V_iload_n (i := 1) G eX5_messesOf_16 rfl rfl ?_
      refine V_icmp_ne G eX5_messesOf_17 h (fun h => ?_) (fun h => ?_)
      · refine V_iinc (z := (nI 1)) (L' := (fun x2 => [some (.ref (wad w 5 0)), some (.int v1), some (.int x2)])) G eX5_messesOf_27 rfl rfl (by decide) rfl (fun _ => rfl) h (fun x2 h => ?_)
        refine V_goto G eX5_messesOf_30 ?_
        exact (ih h)
      · refine V_aload_n (i := 0) G eX5_messesOf_20 rfl rfl ?_
        refine V_get (v := .ref (wad w 608 0)) G fgX5_29 rfl eX5_messesOf_21 ?_
        refine V_iload_n (i := 2) G eX5_messesOf_24 rfl rfl ?_
        refine V_iald G al_608 (by decide) eX5_messesOf_25 h (fun x3 h => ?_)
        exact V_ri G hr eX5_messesOf_26 h
set_option maxRecDepth 100000 in
set_option maxHeartbeats 4000000 in
theorem Menus_messesOf_run {p : Program} {l : Launch} {e : Env} {R : Room} {s : State} {m : MethodId} {args : Array Value} {below : List Frame} {meth : Method} {c : Code} {w : Wld} (G : Cxt p R s m args meth c w cX5_messesOf 3 "PotBook$Menus" 1 0 0) (hr : meth.sig.returnType = some .int) {a1 : Int32} {μ : Mem} {r : Int32} (h : Menus_messesOf a1 μ = some r) : Vj p l e R s m args below meth c w 3 0 0 (MQ below (QI w r μ) args s 0 0 w.2.2.2) 0 [some (.ref (wad w 5 0)), some (.int a1), none] [] μ := by
  unfold Menus_messesOf at h
  refine V_iconst (n := 0) (v := (nI 0)) G eX5_messesOf_0 rfl ?_
  refine V_istoreA_n (i := 2) (L' := [some (.ref (wad w 5 0)), some (.int a1), some (.int (nI 0))]) G rfl eX5_messesOf_1 (by decide) rfl rfl ?_
  exact Menus_messesOf_l1_ok G hr h
theorem Menus_messesOf_ok {l : Launch} {w : Wld} {a1 : Int32} {μ : Mem} {r : Int32} (h : Menus_messesOf a1 μ = some r) : CtI l w yX5_messesOf cX5_messesOf 3 .int 1 [.ref (wad w 5 0), .int a1] μ r μ :=
  Ct_of (own := "PotBook$Menus") [some (.ref (wad w 5 0)), some (.int a1), none] (by decide +kernel) rfl rfl (Nat.le_of_ble_eq_true rfl) fun p e s m args below meth c G hr => Menus_messesOf_run G hr h
set_option maxRecDepth 100000 in
set_option maxHeartbeats 4000000 in
theorem B_messes_run {p : Program} {l : Launch} {e : Env} {R : Room} {s : State} {m : MethodId} {args : Array Value} {below : List Frame} {meth : Method} {c : Code} {w : Wld} (G : Cxt p R s m args meth c w cX11_messes 6 "PotBook" 66 0 0) (hr : meth.sig.returnType = some .int) {a1 : Int32} {a2 : Int32} {a3 : Int32} {a4 : Int32} {a5 : Int32} {μ : Mem} {r : Int32} {μ' : Mem} (h : B_messes a1 a2 a3 a4 a5 μ = some (r, μ')) : Vj p l e R s m args below meth c w 6 0 0 (MQ below (QI w r μ') args s 0 0 w.2.2.2) 0 [some (.ref (wad w 11 0)), some (.int a1), some (.int a2), some (.int a3), some (.int a4), some (.int a5)] [] μ := by
  unfold B_messes at h
  refine V_iload G eX11_messes_0 rfl ?_
  refine V_if_lt G eX11_messes_2 h (fun h => ?_) (fun h => ?_)
  · refine V_iconst (n := -1) (v := (-1)) G eX11_messes_15 rfl ?_
    exact V_riM G hr eX11_messes_16 h
  · refine V_aload_n (i := 0) G eX11_messes_5 rfl rfl ?_
    refine V_iload_n (i := 1) G eX11_messes_6 rfl rfl ?_
    refine V_iload_n (i := 2) G eX11_messes_7 rfl rfl ?_
    refine V_iload_n (i := 3) G eX11_messes_8 rfl rfl ?_
    obtain ⟨x1, h1, h⟩ := bdS h
    refine V_callI (As := [.int a1, .int a2, .int a3]) (st := []) G lkX11_277 (B_isAsked_ok h1) (by decide) rfl rfl (Nat.le_of_ble_eq_true rfl) eX11_messes_9 ?_
    refine V_if_ne G eX11_messes_12 h (fun h => ?_) (fun h => ?_)
    · refine V_aload_n (i := 0) G eX11_messes_17 rfl rfl ?_
      refine V_get (v := .ref (wad w 5 0)) G fgX11_96 rfl eX11_messes_18 ?_
      refine V_iload_n (i := 1) G eX11_messes_21 rfl rfl ?_
      refine V_iload_n (i := 2) G eX11_messes_22 rfl rfl ?_
      refine V_iload_n (i := 3) G eX11_messes_23 rfl rfl ?_
      refine V_iload G eX11_messes_24 rfl ?_
      obtain ⟨μ2, h1, h⟩ := bdS h
      refine V_callV (As := [.int a1, .int a2, .int a3, .int a4]) (st := []) G lkX11_280 (Menus_layOut_ok h1) (by decide) rfl rfl (Nat.le_of_ble_eq_true rfl) eX11_messes_26 ?_
      refine V_iload G eX11_messes_29 rfl ?_
      refine V_aload_n (i := 0) G eX11_messes_31 rfl rfl ?_
      refine V_get (v := .ref (wad w 5 0)) G fgX11_96 rfl eX11_messes_32 ?_
      refine V_get (v := .ref (wad w 609 0)) G fgX11_283 rfl eX11_messes_35 ?_
      refine V_iconst (n := 0) (v := (nI 0)) G eX11_messes_38 rfl ?_
      refine V_iald G al_609 (by decide) eX11_messes_39 h (fun x3 h => ?_)
      refine V_icmp_ge G eX11_messes_40 h (fun h => ?_) (fun h => ?_)
      · refine V_iconst (n := -1) (v := (-1)) G eX11_messes_55 rfl ?_
        exact V_riM G hr eX11_messes_56 h
      · refine V_aload_n (i := 0) G eX11_messes_43 rfl rfl ?_
        refine V_get (v := .ref (wad w 5 0)) G fgX11_96 rfl eX11_messes_44 ?_
        refine V_iload G eX11_messes_47 rfl ?_
        obtain ⟨x4, h1, h⟩ := bdS h
        refine V_callI (As := [.int a5]) (st := []) G lkX11_286 (Menus_messesOf_ok h1) (by decide) rfl rfl (Nat.le_of_ble_eq_true rfl) eX11_messes_49 ?_
        refine V_goto G eX11_messes_52 ?_
        exact V_riM G hr eX11_messes_56 h
    · refine V_iconst (n := -1) (v := (-1)) G eX11_messes_15 rfl ?_
      exact V_riM G hr eX11_messes_16 h
theorem B_messes_ok {l : Launch} {w : Wld} {a1 : Int32} {a2 : Int32} {a3 : Int32} {a4 : Int32} {a5 : Int32} {μ : Mem} {r : Int32} {μ' : Mem} (h : B_messes a1 a2 a3 a4 a5 μ = some (r, μ')) : CtI l w yX11_messes cX11_messes 6 .int 66 [.ref (wad w 11 0), .int a1, .int a2, .int a3, .int a4, .int a5] μ r μ' :=
  Ct_of (own := "PotBook") [some (.ref (wad w 11 0)), some (.int a1), some (.int a2), some (.int a3), some (.int a4), some (.int a5)] (by decide +kernel) rfl rfl (Nat.le_of_ble_eq_true rfl) fun p e s m args below meth c G hr => B_messes_run G hr h
set_option maxRecDepth 100000 in
set_option maxHeartbeats 4000000 in
theorem B_months_run {p : Program} {l : Launch} {e : Env} {R : Room} {s : State} {m : MethodId} {args : Array Value} {below : List Frame} {meth : Method} {c : Code} {w : Wld} (G : Cxt p R s m args meth c w cX11_months 2 "PotBook" 2 0 0) (hr : meth.sig.returnType = some .int) {a1 : Int32} {μ : Mem} {r : Int32} (h : B_months a1 μ = some r) : Vj p l e R s m args below meth c w 2 0 0 (MQ below (QI w r μ) args s 0 0 w.2.2.2) 0 [some (.ref (wad w 11 0)), some (.int a1)] [] μ := by
  unfold B_months at h
  refine V_aload_n (i := 0) G eX11_months_0 rfl rfl ?_
  refine V_get (v := .ref (wad w 6 0)) G fgX11_28 rfl eX11_months_1 ?_
  refine V_iload_n (i := 1) G eX11_months_4 rfl rfl ?_
  obtain ⟨x1, h1, h⟩ := bdS h
  refine V_callI (As := [.int a1]) (st := []) G lkX11_156 (Pages_has_ok h1) (by decide) rfl rfl (Nat.le_of_ble_eq_true rfl) eX11_months_5 ?_
  refine V_if_eq G eX11_months_8 h (fun h => ?_) (fun h => ?_)
  · refine V_iconst (n := -1) (v := (-1)) G eX11_months_22 rfl ?_
    exact V_ri G hr eX11_months_23 h
  · refine V_aload_n (i := 0) G eX11_months_11 rfl rfl ?_
    refine V_get (v := .ref (wad w 6 0)) G fgX11_28 rfl eX11_months_12 ?_
    refine V_iload_n (i := 1) G eX11_months_15 rfl rfl ?_
    obtain ⟨x2, h1, h⟩ := bdS h
    refine V_callI (As := [.int a1]) (st := []) G lkX11_289 (Pages_monthsOf_ok h1) (by decide) rfl rfl (Nat.le_of_ble_eq_true rfl) eX11_months_16 ?_
    refine V_goto G eX11_months_19 ?_
    exact V_ri G hr eX11_months_23 h
theorem B_months_ok {l : Launch} {w : Wld} {a1 : Int32} {μ : Mem} {r : Int32} (h : B_months a1 μ = some r) : CtI l w yX11_months cX11_months 2 .int 2 [.ref (wad w 11 0), .int a1] μ r μ :=
  Ct_of (own := "PotBook") [some (.ref (wad w 11 0)), some (.int a1)] (by decide +kernel) rfl rfl (Nat.le_of_ble_eq_true rfl) fun p e s m args below meth c G hr => B_months_run G hr h
set_option maxRecDepth 100000 in
set_option maxHeartbeats 4000000 in
theorem B_far_run {p : Program} {l : Launch} {e : Env} {R : Room} {s : State} {m : MethodId} {args : Array Value} {below : List Frame} {meth : Method} {c : Code} {w : Wld} (G : Cxt p R s m args meth c w cX11_far 3 "PotBook" 2 0 0) (hr : meth.sig.returnType = some .int) {a1 : Int32} {a2 : Int32} {μ : Mem} {r : Int32} (h : B_far a1 a2 μ = some r) : Vj p l e R s m args below meth c w 3 0 0 (MQ below (QI w r μ) args s 0 0 w.2.2.2) 0 [some (.ref (wad w 11 0)), some (.int a1), some (.int a2)] [] μ := by
  unfold B_far at h
  refine V_aload_n (i := 0) G eX11_far_0 rfl rfl ?_
  refine V_get (v := .ref (wad w 6 0)) G fgX11_28 rfl eX11_far_1 ?_
  refine V_iload_n (i := 1) G eX11_far_4 rfl rfl ?_
  obtain ⟨x1, h1, h⟩ := bdS h
  refine V_callI (As := [.int a1]) (st := []) G lkX11_156 (Pages_has_ok h1) (by decide) rfl rfl (Nat.le_of_ble_eq_true rfl) eX11_far_5 ?_
  refine V_if_eq G eX11_far_8 h (fun h => ?_) (fun h => ?_)
  · refine V_iconst (n := -1) (v := (-1)) G eX11_far_36 rfl ?_
    exact V_ri G hr eX11_far_37 h
  · refine V_aload_n (i := 0) G eX11_far_11 rfl rfl ?_
    refine V_get (v := .ref (wad w 6 0)) G fgX11_28 rfl eX11_far_12 ?_
    refine V_iload_n (i := 2) G eX11_far_15 rfl rfl ?_
    obtain ⟨x2, h1, h⟩ := bdS h
    refine V_callI (As := [.int a2]) (st := []) G lkX11_156 (Pages_has_ok h1) (by decide) rfl rfl (Nat.le_of_ble_eq_true rfl) eX11_far_16 ?_
    refine V_if_eq G eX11_far_19 h (fun h => ?_) (fun h => ?_)
    · refine V_iconst (n := -1) (v := (-1)) G eX11_far_36 rfl ?_
      exact V_ri G hr eX11_far_37 h
    · refine V_aload_n (i := 0) G eX11_far_22 rfl rfl ?_
      refine V_get (v := .ref (wad w 2 0)) G fgX11_71 rfl eX11_far_23 ?_
      refine V_get (v := .ref (wad w 10301 0)) G fgX11_292 rfl eX11_far_26 ?_
      refine V_iload_n (i := 1) G eX11_far_29 rfl rfl ?_
      refine V_aaldI (id := 301) G al_10301 eX11_far_30 h (fun r3 hr3 h => ?_)
      refine V_iload_n (i := 2) G eX11_far_31 rfl rfl ?_
      refine V_iald G al_301 hr3 eX11_far_32 h (fun x4 h => ?_)
      refine V_goto G eX11_far_33 ?_
      exact V_ri G hr eX11_far_37 h
theorem B_far_ok {l : Launch} {w : Wld} {a1 : Int32} {a2 : Int32} {μ : Mem} {r : Int32} (h : B_far a1 a2 μ = some r) : CtI l w yX11_far cX11_far 3 .int 2 [.ref (wad w 11 0), .int a1, .int a2] μ r μ :=
  Ct_of (own := "PotBook") [some (.ref (wad w 11 0)), some (.int a1), some (.int a2)] (by decide +kernel) rfl rfl (Nat.le_of_ble_eq_true rfl) fun p e s m args below meth c G hr => B_far_run G hr h
set_option maxRecDepth 100000 in
set_option maxHeartbeats 4000000 in
theorem B_came_run {p : Program} {l : Launch} {e : Env} {R : Room} {s : State} {m : MethodId} {args : Array Value} {below : List Frame} {meth : Method} {c : Code} {w : Wld} (G : Cxt p R s m args meth c w cX11_came 2 "PotBook" 2 0 0) (hr : meth.sig.returnType = some .int) {a1 : Int32} {μ : Mem} {r : Int32} (h : B_came a1 μ = some r) : Vj p l e R s m args below meth c w 2 0 0 (MQ below (QI w r μ) args s 0 0 w.2.2.2) 0 [some (.ref (wad w 11 0)), some (.int a1)] [] μ := by
  unfold B_came at h
  refine V_aload_n (i := 0) G eX11_came_0 rfl rfl ?_
  refine V_get (v := .ref (wad w 6 0)) G fgX11_28 rfl eX11_came_1 ?_
  refine V_iload_n (i := 1) G eX11_came_4 rfl rfl ?_
  obtain ⟨x1, h1, h⟩ := bdS h
  refine V_callI (As := [.int a1]) (st := []) G lkX11_156 (Pages_has_ok h1) (by decide) rfl rfl (Nat.le_of_ble_eq_true rfl) eX11_came_5 ?_
  refine V_if_eq G eX11_came_8 h (fun h => ?_) (fun h => ?_)
  · refine V_iconst (n := -1) (v := (-1)) G eX11_came_23 rfl ?_
    exact V_ri G hr eX11_came_24 h
  · refine V_aload_n (i := 0) G eX11_came_11 rfl rfl ?_
    refine V_get (v := .ref (wad w 2 0)) G fgX11_71 rfl eX11_came_12 ?_
    refine V_get (v := .ref (wad w 303 0)) G fgX11_295 rfl eX11_came_15 ?_
    refine V_iload_n (i := 1) G eX11_came_18 rfl rfl ?_
    refine V_iald G al_303 (by decide) eX11_came_19 h (fun x2 h => ?_)
    refine V_goto G eX11_came_20 ?_
    exact V_ri G hr eX11_came_24 h
theorem B_came_ok {l : Launch} {w : Wld} {a1 : Int32} {μ : Mem} {r : Int32} (h : B_came a1 μ = some r) : CtI l w yX11_came cX11_came 2 .int 2 [.ref (wad w 11 0), .int a1] μ r μ :=
  Ct_of (own := "PotBook") [some (.ref (wad w 11 0)), some (.int a1)] (by decide +kernel) rfl rfl (Nat.le_of_ble_eq_true rfl) fun p e s m args below meth c G hr => B_came_run G hr h
set_option maxRecDepth 100000 in
set_option maxHeartbeats 4000000 in
theorem Kin_closest_l1_ok {p : Program} {l : Launch} {e : Env} {R : Room} {s : State} {m : MethodId} {args : Array Value} {below : List Frame} {meth : Method} {c : Code} {w : Wld} {Q : State → Prop} (G : Cxt p R s m args meth c w cX2_closest 3 "PotBook$Kin" 1 0 0) {μ : Mem} {o1 : Int32} : ∀ {n : Nat} {v1 : Int32} {v2 : Int32}, Kin_closest_l1 μ n v1 v2 = some o1 → Vj p l e R s m args below meth c w 3 0 0 Q 52 [none, some (.int o1), none] [] μ → Vj p l e R s m args below meth c w 3 0 0 Q 4 [some (.ref (wad w 2 0)), some (.int v1), some (.int v2)] [] μ := by
  intro n
  induction n with
  | zero => intro v1 v2 h K; exact noS h
  | succ n ih =>
    intro v1 v2 h K
    replace h : Kin_closest_l1b μ (Kin_closest_l1 μ n) v1 v2 = some o1 := h
    unfold Kin_closest_l1b at h
    refine V_iload_n (i := 2) G eX2_closest_4 rfl rfl ?_
    refine V_aload_n (i := 0) G eX2_closest_5 rfl rfl ?_
    refine V_get (v := .ref (wad w 6 0)) G fgX2_33 rfl eX2_closest_6 ?_
    refine V_get (v := .int (mI μ 712 0 0)) G fgX2_63 rfl eX2_closest_9 ?_
    refine V_icmp_ge G eX2_closest_12 h (fun h => ?_) (fun h => ?_)
    · cases h; exact V_sub (lS_n (lS_s (lS_n lS_0))) K
    · refine V_aload_n (i := 0) G eX2_closest_15 rfl rfl ?_
      refine V_get (v := .ref (wad w 306 0)) G fgX2_29 rfl eX2_closest_16 ?_
      refine V_iload_n (i := 2) G eX2_closest_19 rfl rfl ?_
      refine V_zald G al_306 (by decide) eX2_closest_20 h (fun x1 h => ?_)
      obtain ⟨x4, hj, h⟩ := bdS h
      have J : Vj p l e R s m args below meth c w 3 0 0 Q 46 [some (.ref (wad w 2 0)), some (.int x4), some (.int v2)] [] μ := by
        clear hj
        refine V_iinc (z := (nI 1)) (L' := (fun x5 => [some (.ref (wad w 2 0)), some (.int x4), some (.int x5)])) G eX2_closest_46 rfl rfl (by decide) rfl (fun _ => rfl) h (fun x5 h => ?_)
        refine V_goto G eX2_closest_49 ?_
        exact (ih h K)
      replace h := hj
      clear hj
      refine V_if_ne G eX2_closest_21 h (fun h => ?_) (fun h => ?_)
      · cases h; exact J
      · refine V_iload_n (i := 1) G eX2_closest_24 rfl rfl ?_
        refine V_iconst (n := -1) (v := (-1)) G eX2_closest_25 rfl ?_
        refine V_icmp_eq G eX2_closest_26 h (fun h => ?_) (fun h => ?_)
        · refine V_iload_n (i := 2) G eX2_closest_44 rfl rfl ?_
          refine V_istoreA_n (i := 1) (L' := [some (.ref (wad w 2 0)), some (.int v2), some (.int v2)]) G rfl eX2_closest_45 (by decide) rfl rfl ?_
          cases h; exact J
        · refine V_aload_n (i := 0) G eX2_closest_29 rfl rfl ?_
          refine V_get (v := .ref (wad w 305 0)) G fgX2_26 rfl eX2_closest_30 ?_
          refine V_iload_n (i := 2) G eX2_closest_33 rfl rfl ?_
          refine V_iald G al_305 (by decide) eX2_closest_34 h (fun x2 h => ?_)
          refine V_aload_n (i := 0) G eX2_closest_35 rfl rfl ?_
          refine V_get (v := .ref (wad w 305 0)) G fgX2_26 rfl eX2_closest_36 ?_
          refine V_iload_n (i := 1) G eX2_closest_39 rfl rfl ?_
          refine V_iald G al_305 (by decide) eX2_closest_40 h (fun x3 h => ?_)
          refine V_icmp_ge G eX2_closest_41 h (fun h => ?_) (fun h => ?_)
          · cases h; exact J
          · refine V_iload_n (i := 2) G eX2_closest_44 rfl rfl ?_
            refine V_istoreA_n (i := 1) (L' := [some (.ref (wad w 2 0)), some (.int v2), some (.int v2)]) G rfl eX2_closest_45 (by decide) rfl rfl ?_
            cases h; exact J
set_option maxRecDepth 100000 in
set_option maxHeartbeats 4000000 in
theorem Kin_closest_run {p : Program} {l : Launch} {e : Env} {R : Room} {s : State} {m : MethodId} {args : Array Value} {below : List Frame} {meth : Method} {c : Code} {w : Wld} (G : Cxt p R s m args meth c w cX2_closest 3 "PotBook$Kin" 1 0 0) (hr : meth.sig.returnType = some .int) {μ : Mem} {r : Int32} (h : Kin_closest μ = some r) : Vj p l e R s m args below meth c w 3 0 0 (MQ below (QI w r μ) args s 0 0 w.2.2.2) 0 [some (.ref (wad w 2 0)), none, none] [] μ := by
  unfold Kin_closest at h
  refine V_iconst (n := -1) (v := (-1)) G eX2_closest_0 rfl ?_
  refine V_istoreA_n (i := 1) (L' := [some (.ref (wad w 2 0)), some (.int (-1)), none]) G rfl eX2_closest_1 (by decide) rfl rfl ?_
  refine V_iconst (n := 0) (v := (nI 0)) G eX2_closest_2 rfl ?_
  refine V_istoreA_n (i := 2) (L' := [some (.ref (wad w 2 0)), some (.int (-1)), some (.int (nI 0))]) G rfl eX2_closest_3 (by decide) rfl rfl ?_
  obtain ⟨x1, h1, h⟩ := bdS h
  refine Kin_closest_l1_ok G h1 ?_
  refine V_iload_n (i := 1) G eX2_closest_52 rfl rfl ?_
  exact V_ri G hr eX2_closest_53 h
theorem Kin_closest_ok {l : Launch} {w : Wld} {μ : Mem} {r : Int32} (h : Kin_closest μ = some r) : CtI l w yX2_closest cX2_closest 3 .int 1 [.ref (wad w 2 0)] μ r μ :=
  Ct_of (own := "PotBook$Kin") [some (.ref (wad w 2 0)), none, none] (by decide +kernel) rfl rfl (Nat.le_of_ble_eq_true rfl) fun p e s m args below meth c G hr => Kin_closest_run G hr h
set_option maxRecDepth 100000 in
set_option maxHeartbeats 4000000 in
theorem Kin_take_l1_ok {p : Program} {l : Launch} {e : Env} {R : Room} {s : State} {m : MethodId} {args : Array Value} {below : List Frame} {meth : Method} {c : Code} {w : Wld} {Q : State → Prop} (G : Cxt p R s m args meth c w cX2_take 3 "PotBook$Kin" 2 0 0) {v1 : Int32} {μo : Mem} : ∀ {n : Nat} {v2 : Int32} {μ : Mem}, Kin_take_l1 v1 n v2 μ = some μo → Vj p l e R s m args below meth c w 3 0 0 Q 49 [none, none, none] [] μo → Vj p l e R s m args below meth c w 3 0 0 Q 9 [some (.ref (wad w 2 0)), some (.int v1), some (.int v2)] [] μ := by
  intro n
  induction n with
  | zero => intro v2 μ h K; exact noS h
  | succ n ih =>
    intro v2 μ h K
    replace h : Kin_take_l1b v1 (Kin_take_l1 v1 n) v2 μ = some μo := h
    unfold Kin_take_l1b at h
    refine V_iload_n (i := 2) G eX2_take_9 rfl rfl ?_
    refine V_aload_n (i := 0) G eX2_take_10 rfl rfl ?_
    refine V_get (v := .ref (wad w 6 0)) G fgX2_33 rfl eX2_take_11 ?_
    refine V_get (v := .int (mI μ 712 0 0)) G fgX2_63 rfl eX2_take_14 ?_
    refine V_icmp_ge G eX2_take_17 h (fun h => ?_) (fun h => ?_)
    · cases h; exact V_sub (lS_n (lS_n (lS_n lS_0))) K
    · refine V_aload_n (i := 0) G eX2_take_20 rfl rfl ?_
      refine V_get (v := .ref (wad w 305 0)) G fgX2_26 rfl eX2_take_21 ?_
      refine V_iload_n (i := 2) G eX2_take_24 rfl rfl ?_
      refine V_aload_n (i := 0) G eX2_take_25 rfl rfl ?_
      refine V_get (v := .ref (wad w 305 0)) G fgX2_26 rfl eX2_take_26 ?_
      refine V_iload_n (i := 2) G eX2_take_29 rfl rfl ?_
      refine V_iald G al_305 (by decide) eX2_take_30 h (fun x1 h => ?_)
      refine V_aload_n (i := 0) G eX2_take_31 rfl rfl ?_
      refine V_get (v := .ref (wad w 10301 0)) G fgX2_11 rfl eX2_take_32 ?_
      refine V_iload_n (i := 1) G eX2_take_35 rfl rfl ?_
      refine V_aaldI (id := 301) G al_10301 eX2_take_36 h (fun r2 hr2 h => ?_)
      refine V_iload_n (i := 2) G eX2_take_37 rfl rfl ?_
      refine V_iald G al_301 hr2 eX2_take_38 h (fun x3 h => ?_)
      refine V_jMin G mkX2_58 (by decide) (Nat.le_of_ble_eq_true rfl) eX2_take_39 ?_
      refine V_iast G al_305 (by decide) eX2_take_42 h (fun μ4 h => ?_)
      refine V_iinc (z := (nI 1)) (L' := (fun x5 => [some (.ref (wad w 2 0)), some (.int v1), some (.int x5)])) G eX2_take_43 rfl rfl (by decide) rfl (fun _ => rfl) h (fun x5 h => ?_)
      refine V_goto G eX2_take_46 ?_
      exact (ih h K)
set_option maxRecDepth 100000 in
set_option maxHeartbeats 4000000 in
theorem Kin_take_run {p : Program} {l : Launch} {e : Env} {R : Room} {s : State} {m : MethodId} {args : Array Value} {below : List Frame} {meth : Method} {c : Code} {w : Wld} (G : Cxt p R s m args meth c w cX2_take 3 "PotBook$Kin" 2 0 0) (hr : meth.sig.returnType = none) {a1 : Int32} {μ : Mem} {μ' : Mem} (h : Kin_take a1 μ = some μ') : Vj p l e R s m args below meth c w 3 0 0 (MQ below (QV w μ') args s 0 0 w.2.2.2) 0 [some (.ref (wad w 2 0)), some (.int a1), none] [] μ := by
  unfold Kin_take at h
  refine V_aload_n (i := 0) G eX2_take_0 rfl rfl ?_
  refine V_get (v := .ref (wad w 306 0)) G fgX2_29 rfl eX2_take_1 ?_
  refine V_iload_n (i := 1) G eX2_take_4 rfl rfl ?_
  refine V_iconst (n := 1) (v := (nI 1)) G eX2_take_5 rfl ?_
  refine V_zast G al_306 (by decide) eX2_take_6 h (fun μ1 h => ?_)
  refine V_iconst (n := 0) (v := (nI 0)) G eX2_take_7 rfl ?_
  refine V_istoreA_n (i := 2) (L' := [some (.ref (wad w 2 0)), some (.int a1), some (.int (nI 0))]) G rfl eX2_take_8 (by decide) rfl rfl ?_
  obtain ⟨μ2, h1, h⟩ := bdS h
  refine Kin_take_l1_ok G h1 ?_
  exact V_rvM G hr eX2_take_49 h
theorem Kin_take_ok {l : Launch} {w : Wld} {a1 : Int32} {μ : Mem} {μ' : Mem} (h : Kin_take a1 μ = some μ') : CtV l w yX2_take cX2_take 3 2 [.ref (wad w 2 0), .int a1] μ μ' :=
  Ct_of (own := "PotBook$Kin") [some (.ref (wad w 2 0)), some (.int a1), none] (by decide +kernel) rfl rfl (Nat.le_of_ble_eq_true rfl) fun p e s m args below meth c G hr => Kin_take_run G hr h
set_option maxRecDepth 100000 in
set_option maxHeartbeats 4000000 in
theorem Kin_leastJoin_l1_ok {p : Program} {l : Launch} {e : Env} {R : Room} {s : State} {m : MethodId} {args : Array Value} {below : List Frame} {meth : Method} {c : Code} {w : Wld} {Q : State → Prop} (G : Cxt p R s m args meth c w cX2_leastJoin 4 "PotBook$Kin" 3 0 0) {μo : Mem} : ∀ {n : Nat} {v1 : Int32} {μ : Mem}, Kin_leastJoin_l1 n v1 μ = some μo → Vj p l e R s m args below meth c w 4 0 0 Q 48 [some (.ref (wad w 2 0)), none, none, none] [] μo → Vj p l e R s m args below meth c w 4 0 0 Q 2 [some (.ref (wad w 2 0)), some (.int v1), none, none] [] μ := by
  intro n
  induction n with
  | zero => intro v1 μ h K; exact noS h
  | succ n ih =>
    intro v1 μ h K
    replace h : Kin_leastJoin_l1b (Kin_leastJoin_l1 n) v1 μ = some μo := h
    unfold Kin_leastJoin_l1b at h
    refine V_iload_n (i := 1) G eX2_leastJoin_2 rfl rfl ?_
    refine V_aload_n (i := 0) G eX2_leastJoin_3 rfl rfl ?_
    refine V_get (v := .ref (wad w 6 0)) G fgX2_33 rfl eX2_leastJoin_4 ?_
    refine V_get (v := .int (mI μ 712 0 0)) G fgX2_63 rfl eX2_leastJoin_7 ?_
    refine V_icmp_ge G eX2_leastJoin_10 h (fun h => ?_) (fun h => ?_)
    · cases h; exact V_sub (lS_s (lS_n (lS_n (lS_n lS_0)))) K
    · refine V_aload_n (i := 0) G eX2_leastJoin_13 rfl rfl ?_
      refine V_get (v := .ref (wad w 306 0)) G fgX2_29 rfl eX2_leastJoin_14 ?_
      refine V_iload_n (i := 1) G eX2_leastJoin_17 rfl rfl ?_
      refine V_iload_n (i := 1) G eX2_leastJoin_18 rfl rfl ?_
      obtain ⟨x1, hj, h⟩ := bdS h
      have J : Vj p l e R s m args below meth c w 4 0 0 Q 27 [some (.ref (wad w 2 0)), some (.int v1), none, none] [.int x1, .int v1, .ref (wad w 306 0)] μ := by
        clear hj
        refine V_zast G al_306 (by decide) eX2_leastJoin_27 h (fun μ2 h => ?_)
        refine V_aload_n (i := 0) G eX2_leastJoin_28 rfl rfl ?_
        refine V_get (v := .ref (wad w 305 0)) G fgX2_26 rfl eX2_leastJoin_29 ?_
        refine V_iload_n (i := 1) G eX2_leastJoin_32 rfl rfl ?_
        refine V_aload_n (i := 0) G eX2_leastJoin_33 rfl rfl ?_
        refine V_get (v := .ref (wad w 10301 0)) G fgX2_11 rfl eX2_leastJoin_34 ?_
        refine V_iconst (n := 0) (v := (nI 0)) G eX2_leastJoin_37 rfl ?_
        refine V_aaldI (id := 301) G al_10301 eX2_leastJoin_38 h (fun r3 hr3 h => ?_)
        refine V_iload_n (i := 1) G eX2_leastJoin_39 rfl rfl ?_
        refine V_iald G al_301 hr3 eX2_leastJoin_40 h (fun x4 h => ?_)
        refine V_iast G al_305 (by decide) eX2_leastJoin_41 h (fun μ5 h => ?_)
        refine V_iinc (z := (nI 1)) (L' := (fun x6 => [some (.ref (wad w 2 0)), some (.int x6), none, none])) G eX2_leastJoin_42 rfl rfl (by decide) rfl (fun _ => rfl) h (fun x6 h => ?_)
        refine V_goto G eX2_leastJoin_45 ?_
        exact (ih h K)
      replace h := hj
      clear hj
      refine V_if_ne G eX2_leastJoin_19 h (fun h => ?_) (fun h => ?_)
      · refine V_iconst (n := 0) (v := (nI 0)) G eX2_leastJoin_26 rfl ?_
        cases h; exact J
      · refine V_iconst (n := 1) (v := (nI 1)) G eX2_leastJoin_22 rfl ?_
        refine V_goto G eX2_leastJoin_23 ?_
        cases h; exact J
set_option maxRecDepth 100000 in
set_option maxHeartbeats 4000000 in
theorem Kin_leastJoin_l2_ok {p : Program} {l : Launch} {e : Env} {R : Room} {s : State} {m : MethodId} {args : Array Value} {below : List Frame} {meth : Method} {c : Code} {w : Wld} {Q : State → Prop} (G : Cxt p R s m args meth c w cX2_leastJoin 4 "PotBook$Kin" 3 0 0) {o1 : Int32} {μo : Mem} : ∀ {n : Nat} {v1 : Int32} {v2 : Int32} {μ : Mem}, Kin_leastJoin_l2 n v1 v2 μ = some (o1, μo) → Vj p l e R s m args below meth c w 4 0 0 Q 93 [none, some (.int o1), none, none] [] μo → Vj p l e R s m args below meth c w 4 0 0 Q 52 [some (.ref (wad w 2 0)), some (.int v1), some (.int v2), none] [] μ := by
  intro n
  induction n with
  | zero => intro v1 v2 μ h K; exact noS h
  | succ n ih =>
    intro v1 v2 μ h K
    replace h : Kin_leastJoin_l2b (Kin_leastJoin_l2 n) v1 v2 μ = some (o1, μo) := h
    unfold Kin_leastJoin_l2b at h
    refine V_iload_n (i := 2) G eX2_leastJoin_52 rfl rfl ?_
    refine V_aload_n (i := 0) G eX2_leastJoin_53 rfl rfl ?_
    refine V_get (v := .ref (wad w 6 0)) G fgX2_33 rfl eX2_leastJoin_54 ?_
    refine V_get (v := .int (mI μ 712 0 0)) G fgX2_63 rfl eX2_leastJoin_57 ?_
    refine V_icmp_ge G eX2_leastJoin_60 h (fun h => ?_) (fun h => ?_)
    · cases h; exact V_sub (lS_n (lS_s (lS_n (lS_n lS_0)))) K
    · refine V_aload_n (i := 0) G eX2_leastJoin_63 rfl rfl ?_
      obtain ⟨x1, h1, h⟩ := bdS h
      refine V_callI (As := []) (st := []) G lkX2_67 (Kin_closest_ok h1) (by decide) rfl rfl (Nat.le_of_ble_eq_true rfl) eX2_leastJoin_64 ?_
      refine V_istoreA_n (i := 3) (L' := [some (.ref (wad w 2 0)), some (.int v1), some (.int v2), some (.int x1)]) G rfl eX2_leastJoin_67 (by decide) rfl rfl ?_
      refine V_iload_n (i := 3) G eX2_leastJoin_68 rfl rfl ?_
      refine V_iconst (n := -1) (v := (-1)) G eX2_leastJoin_69 rfl ?_
      obtain ⟨⟨x5, μ6⟩, hj, h⟩ := bdS h
      have J : Vj p l e R s m args below meth c w 4 0 0 Q 87 [some (.ref (wad w 2 0)), some (.int x5), some (.int v2), none] [] μ6 := by
        clear hj
        refine V_iinc (z := (nI 1)) (L' := (fun x7 => [some (.ref (wad w 2 0)), some (.int x5), some (.int x7), none])) G eX2_leastJoin_87 rfl rfl (by decide) rfl (fun _ => rfl) h (fun x7 h => ?_)
        refine V_goto G eX2_leastJoin_90 ?_
        exact (ih h K)
      replace h := hj
      clear hj
      refine V_icmp_eq G eX2_leastJoin_70 h (fun h => ?_) (fun h => ?_)
      · cases h; exact V_sub (lS_s (lS_s (lS_s (lS_n lS_0)))) J
      · refine V_iload_n (i := 1) G eX2_leastJoin_73 rfl rfl ?_
        refine V_aload_n (i := 0) G eX2_leastJoin_74 rfl rfl ?_
        refine V_get (v := .ref (wad w 305 0)) G fgX2_26 rfl eX2_leastJoin_75 ?_
        refine V_iload_n (i := 3) G eX2_leastJoin_78 rfl rfl ?_
        refine V_iald G al_305 (by decide) eX2_leastJoin_79 h (fun x2 h => ?_)
        refine V_iadd G eX2_leastJoin_80 ?_
        refine V_istore_n (i := 1) (L' := (fun x3 => [some (.ref (wad w 2 0)), some (.int x3), some (.int v2), some (.int x1)])) G rfl eX2_leastJoin_81 (by decide) rfl (fun _ => rfl) h (fun x3 h => ?_)
        refine V_aload_n (i := 0) G eX2_leastJoin_82 rfl rfl ?_
        refine V_iload_n (i := 3) G eX2_leastJoin_83 rfl rfl ?_
        obtain ⟨μ4, h1, h⟩ := bdS h
        refine V_callV (As := [.int x1]) (st := []) G lkX2_71 (Kin_take_ok h1) (by decide) rfl rfl (Nat.le_of_ble_eq_true rfl) eX2_leastJoin_84 ?_
        cases h; exact V_sub (lS_s (lS_s (lS_s (lS_n lS_0)))) J
set_option maxRecDepth 100000 in
set_option maxHeartbeats 4000000 in
theorem Kin_leastJoin_run {p : Program} {l : Launch} {e : Env} {R : Room} {s : State} {m : MethodId} {args : Array Value} {below : List Frame} {meth : Method} {c : Code} {w : Wld} (G : Cxt p R s m args meth c w cX2_leastJoin 4 "PotBook$Kin" 3 0 0) (hr : meth.sig.returnType = some .int) {μ : Mem} {r : Int32} {μ' : Mem} (h : Kin_leastJoin μ = some (r, μ')) : Vj p l e R s m args below meth c w 4 0 0 (MQ below (QI w r μ') args s 0 0 w.2.2.2) 0 [some (.ref (wad w 2 0)), none, none, none] [] μ := by
  unfold Kin_leastJoin at h
  refine V_iconst (n := 0) (v := (nI 0)) G eX2_leastJoin_0 rfl ?_
  refine V_istoreA_n (i := 1) (L' := [some (.ref (wad w 2 0)), some (.int (nI 0)), none, none]) G rfl eX2_leastJoin_1 (by decide) rfl rfl ?_
  obtain ⟨μ1, h1, h⟩ := bdS h
  refine Kin_leastJoin_l1_ok G h1 ?_
  refine V_iconst (n := 0) (v := (nI 0)) G eX2_leastJoin_48 rfl ?_
  refine V_istoreA_n (i := 1) (L' := [some (.ref (wad w 2 0)), some (.int (nI 0)), none, none]) G rfl eX2_leastJoin_49 (by decide) rfl rfl ?_
  refine V_iconst (n := 1) (v := (nI 1)) G eX2_leastJoin_50 rfl ?_
  refine V_istoreA_n (i := 2) (L' := [some (.ref (wad w 2 0)), some (.int (nI 0)), some (.int (nI 1)), none]) G rfl eX2_leastJoin_51 (by decide) rfl rfl ?_
  obtain ⟨⟨x2, μ3⟩, h1, h⟩ := bdS h
  refine Kin_leastJoin_l2_ok G h1 ?_
  refine V_iload_n (i := 1) G eX2_leastJoin_93 rfl rfl ?_
  exact V_riM G hr eX2_leastJoin_94 h
theorem Kin_leastJoin_ok {l : Launch} {w : Wld} {μ : Mem} {r : Int32} {μ' : Mem} (h : Kin_leastJoin μ = some (r, μ')) : CtI l w yX2_leastJoin cX2_leastJoin 4 .int 3 [.ref (wad w 2 0)] μ r μ' :=
  Ct_of (own := "PotBook$Kin") [some (.ref (wad w 2 0)), none, none, none] (by decide +kernel) rfl rfl (Nat.le_of_ble_eq_true rfl) fun p e s m args below meth c G hr => Kin_leastJoin_run G hr h
set_option maxRecDepth 100000 in
set_option maxHeartbeats 4000000 in
theorem B_tree_run {p : Program} {l : Launch} {e : Env} {R : Room} {s : State} {m : MethodId} {args : Array Value} {below : List Frame} {meth : Method} {c : Code} {w : Wld} (G : Cxt p R s m args meth c w cX11_tree 1 "PotBook" 4 0 0) (hr : meth.sig.returnType = some .int) {μ : Mem} {r : Int32} {μ' : Mem} (h : B_tree μ = some (r, μ')) : Vj p l e R s m args below meth c w 1 0 0 (MQ below (QI w r μ') args s 0 0 w.2.2.2) 0 [some (.ref (wad w 11 0))] [] μ := by
  unfold B_tree at h
  refine V_aload_n (i := 0) G eX11_tree_0 rfl rfl ?_
  refine V_get (v := .ref (wad w 2 0)) G fgX11_71 rfl eX11_tree_1 ?_
  obtain ⟨⟨x1, μ2⟩, h1, h⟩ := bdS h
  refine V_callI (As := []) (st := []) G lkX11_298 (Kin_leastJoin_ok h1) (by decide) rfl rfl (Nat.le_of_ble_eq_true rfl) eX11_tree_4 ?_
  exact V_riM G hr eX11_tree_7 h
theorem B_tree_ok {l : Launch} {w : Wld} {μ : Mem} {r : Int32} {μ' : Mem} (h : B_tree μ = some (r, μ')) : CtI l w yX11_tree cX11_tree 1 .int 4 [.ref (wad w 11 0)] μ r μ' :=
  Ct_of (own := "PotBook") [some (.ref (wad w 11 0))] (by decide +kernel) rfl rfl (Nat.le_of_ble_eq_true rfl) fun p e s m args below meth c G hr => B_tree_run G hr h
set_option maxRecDepth 100000 in
set_option maxHeartbeats 4000000 in
theorem B_isWriter_run {p : Program} {l : Launch} {e : Env} {R : Room} {s : State} {m : MethodId} {args : Array Value} {below : List Frame} {meth : Method} {c : Code} {w : Wld} (G : Cxt p R s m args meth c w cX11_isWriter 1 "PotBook" 2 0 0) (hr : meth.sig.returnType = some .boolean) {a1 : Int32} {μ : Mem} {r : Int32} (h : B_isWriter a1 = some r) : Vj p l e R s m args below meth c w 1 0 0 (MQ below (QI w r μ) args s 0 0 w.2.2.2) 0 [some (.int a1)] [] μ := by
  unfold B_isWriter at h
  refine V_iload_n (i := 0) G eX11_isWriter_0 rfl rfl ?_
  refine V_iconst (n := 0) (v := (nI 0)) G eX11_isWriter_1 rfl ?_
  refine V_iconst (n := 5) (v := (nI 5)) G eX11_isWriter_2 rfl ?_
  obtain ⟨x1, h1, h⟩ := bdS h
  refine V_callIS (As := [.int a1, .int (nI 0), .int (nI 5)]) (st := []) G lkX11_127 (B_isWithin_ok (μ := μ) h1) (by decide) rfl rfl (Nat.le_of_ble_eq_true rfl) eX11_isWriter_3 ?_
  exact V_rz G hr eX11_isWriter_6 h
theorem B_isWriter_ok {l : Launch} {w : Wld} {a1 : Int32} {μ : Mem} {r : Int32} (h : B_isWriter a1 = some r) : CtI l w yX11_isWriter cX11_isWriter 1 .boolean 2 [.int a1] μ r μ :=
  Ct_of (own := "PotBook") [some (.int a1)] (by decide +kernel) rfl rfl (Nat.le_of_ble_eq_true rfl) fun p e s m args below meth c G hr => B_isWriter_run G hr h
set_option maxRecDepth 100000 in
set_option maxHeartbeats 4000000 in
theorem B_wrote_run {p : Program} {l : Launch} {e : Env} {R : Room} {s : State} {m : MethodId} {args : Array Value} {below : List Frame} {meth : Method} {c : Code} {w : Wld} (G : Cxt p R s m args meth c w cX11_wrote 3 "PotBook" 3 0 0) (hr : meth.sig.returnType = some .boolean) {a1 : Int32} {a2 : Int32} {μ : Mem} {r : Int32} {μ' : Mem} (h : B_wrote a1 a2 μ = some (r, μ')) : Vj p l e R s m args below meth c w 3 0 0 (MQ below (QI w r μ') args s 0 0 w.2.2.2) 0 [some (.ref (wad w 11 0)), some (.int a1), some (.int a2)] [] μ := by
  unfold B_wrote at h
  refine V_aload_n (i := 0) G eX11_wrote_0 rfl rfl ?_
  refine V_get (v := .ref (wad w 6 0)) G fgX11_28 rfl eX11_wrote_1 ?_
  refine V_iload_n (i := 1) G eX11_wrote_4 rfl rfl ?_
  obtain ⟨x1, h1, h⟩ := bdS h
  refine V_callI (As := [.int a1]) (st := []) G lkX11_156 (Pages_has_ok h1) (by decide) rfl rfl (Nat.le_of_ble_eq_true rfl) eX11_wrote_5 ?_
  refine V_if_eq G eX11_wrote_8 h (fun h => ?_) (fun h => ?_)
  · refine V_iconst (n := 0) (v := (nI 0)) G eX11_wrote_18 rfl ?_
    exact V_rzM G hr eX11_wrote_19 h
  · refine V_iload_n (i := 2) G eX11_wrote_11 rfl rfl ?_
    obtain ⟨x2, h1, h⟩ := bdS h
    refine V_callIS (As := [.int a2]) (st := []) G lkX11_301 (B_isWriter_ok (μ := μ) h1) (by decide) rfl rfl (Nat.le_of_ble_eq_true rfl) eX11_wrote_12 ?_
    refine V_if_ne G eX11_wrote_15 h (fun h => ?_) (fun h => ?_)
    · refine V_aload_n (i := 0) G eX11_wrote_20 rfl rfl ?_
      refine V_get (v := .ref (wad w 6 0)) G fgX11_28 rfl eX11_wrote_21 ?_
      refine V_get (v := .ref (wad w 711 0)) G fgX11_174 rfl eX11_wrote_24 ?_
      refine V_iload_n (i := 1) G eX11_wrote_27 rfl rfl ?_
      refine V_iload_n (i := 2) G eX11_wrote_28 rfl rfl ?_
      refine V_iast G al_711 (by decide) eX11_wrote_29 h (fun μ3 h => ?_)
      refine V_iconst (n := 1) (v := (nI 1)) G eX11_wrote_30 rfl ?_
      exact V_rzM G hr eX11_wrote_31 h
    · refine V_iconst (n := 0) (v := (nI 0)) G eX11_wrote_18 rfl ?_
      exact V_rzM G hr eX11_wrote_19 h
theorem B_wrote_ok {l : Launch} {w : Wld} {a1 : Int32} {a2 : Int32} {μ : Mem} {r : Int32} {μ' : Mem} (h : B_wrote a1 a2 μ = some (r, μ')) : CtI l w yX11_wrote cX11_wrote 3 .boolean 3 [.ref (wad w 11 0), .int a1, .int a2] μ r μ' :=
  Ct_of (own := "PotBook") [some (.ref (wad w 11 0)), some (.int a1), some (.int a2)] (by decide +kernel) rfl rfl (Nat.le_of_ble_eq_true rfl) fun p e s m args below meth c G hr => B_wrote_run G hr h
set_option maxRecDepth 100000 in
set_option maxHeartbeats 4000000 in
theorem Pages_timesLeft_l1_ok {p : Program} {l : Launch} {e : Env} {R : Room} {s : State} {m : MethodId} {args : Array Value} {below : List Frame} {meth : Method} {c : Code} {w : Wld} {Q : State → Prop} (G : Cxt p R s m args meth c w cX6_timesLeft 7 "PotBook$Pages" 2 0 0) {v1 : Int32} {v2 : Int32} {v3 : Int32} {μ : Mem} {o1 : Int32} : ∀ {n : Nat} {v4 : Int32} {v5 : Int32}, Pages_timesLeft_l1 v1 v2 v3 μ n v4 v5 = some o1 → Vj p l e R s m args below meth c w 7 0 0 Q 76 [none, none, none, none, some (.int o1), none, none] [] μ → Vj p l e R s m args below meth c w 7 0 0 Q 6 [some (.ref (wad w 6 0)), some (.int v1), some (.int v2), some (.int v3), some (.int v4), some (.int v5), none] [] μ := by
  intro n
  induction n with
  | zero => intro v4 v5 h K; exact noS h
  | succ n ih =>
    intro v4 v5 h K
    replace h : Pages_timesLeft_l1b v1 v2 v3 μ (Pages_timesLeft_l1 v1 v2 v3 μ n) v4 v5 = some o1 := h
    unfold Pages_timesLeft_l1b at h
    refine V_iload G eX6_timesLeft_6 rfl ?_
    refine V_aload_n (i := 0) G eX6_timesLeft_8 rfl rfl ?_
    refine V_get (v := .int (mI μ 712 0 0)) G fgX6_52 rfl eX6_timesLeft_9 ?_
    refine V_icmp_ge G eX6_timesLeft_12 h (fun h => ?_) (fun h => ?_)
    · cases h; exact V_sub (lS_n (lS_n (lS_n (lS_n (lS_s (lS_n (lS_n lS_0))))))) K
    · refine V_aload_n (i := 0) G eX6_timesLeft_15 rfl rfl ?_
      refine V_get (v := .ref (wad w 711 0)) G fgX6_41 rfl eX6_timesLeft_16 ?_
      refine V_iload G eX6_timesLeft_19 rfl ?_
      refine V_iald G al_711 (by decide) eX6_timesLeft_21 h (fun x1 h => ?_)
      refine V_iload_n (i := 1) G eX6_timesLeft_22 rfl rfl ?_
      obtain ⟨x4, hj, h⟩ := bdS h
      have J : Vj p l e R s m args below meth c w 7 0 0 Q 45 [some (.ref (wad w 6 0)), some (.int v1), some (.int v2), some (.int v3), some (.int v4), some (.int v5), none] [.int x4] μ := by
        clear hj
        refine V_istoreA (i := 6) (L' := [some (.ref (wad w 6 0)), some (.int v1), some (.int v2), some (.int v3), some (.int v4), some (.int v5), some (.int x4)]) G eX6_timesLeft_45 (by decide) rfl rfl ?_
        refine V_iload G eX6_timesLeft_47 rfl ?_
        obtain ⟨x8, hj, h⟩ := bdS h
        have J : Vj p l e R s m args below meth c w 7 0 0 Q 70 [some (.ref (wad w 6 0)), some (.int v1), some (.int v2), some (.int v3), some (.int x8), some (.int v5), none] [] μ := by
          clear hj
          refine V_iinc (z := (nI 1)) (L' := (fun x9 => [some (.ref (wad w 6 0)), some (.int v1), some (.int v2), some (.int v3), some (.int x8), some (.int x9), none])) G eX6_timesLeft_70 rfl rfl (by decide) rfl (fun _ => rfl) h (fun x9 h => ?_)
          refine V_goto G eX6_timesLeft_73 ?_
          exact (ih h K)
        replace h := hj
        clear hj
        refine V_if_eq G eX6_timesLeft_49 h (fun h => ?_) (fun h => ?_)
        · cases h; exact V_sub (lS_s (lS_s (lS_s (lS_s (lS_s (lS_s (lS_n lS_0))))))) J
        · refine V_aload_n (i := 0) G eX6_timesLeft_52 rfl rfl ?_
          refine V_get (v := .ref (wad w 707 0)) G fgX6_29 rfl eX6_timesLeft_53 ?_
          refine V_iload G eX6_timesLeft_56 rfl ?_
          refine V_iald G al_707 (by decide) eX6_timesLeft_58 h (fun x5 h => ?_)
          refine V_iload_n (i := 2) G eX6_timesLeft_59 rfl rfl ?_
          obtain ⟨x6, h1, h⟩ := bdS h
          refine V_callIS (As := [.int x5, .int v2]) (st := []) G lkX6_90 (B_holdsBit_ok (μ := μ) h1) (by decide) rfl rfl (Nat.le_of_ble_eq_true rfl) eX6_timesLeft_60 ?_
          refine V_iload_n (i := 3) G eX6_timesLeft_63 rfl rfl ?_
          refine V_icmp_ne G eX6_timesLeft_64 h (fun h => ?_) (fun h => ?_)
          · cases h; exact V_sub (lS_s (lS_s (lS_s (lS_s (lS_s (lS_s (lS_n lS_0))))))) J
          · refine V_iinc (z := (nI 1)) (L' := (fun x7 => [some (.ref (wad w 6 0)), some (.int v1), some (.int v2), some (.int v3), some (.int x7), some (.int v5), some (.int x4)])) G eX6_timesLeft_67 rfl rfl (by decide) rfl (fun _ => rfl) h (fun x7 h => ?_)
            cases h; exact V_sub (lS_s (lS_s (lS_s (lS_s (lS_s (lS_s (lS_n lS_0))))))) J
      replace h := hj
      clear hj
      refine V_icmp_ne G eX6_timesLeft_23 h (fun h => ?_) (fun h => ?_)
      · refine V_iconst (n := 0) (v := (nI 0)) G eX6_timesLeft_44 rfl ?_
        cases h; exact J
      · refine V_aload_n (i := 0) G eX6_timesLeft_26 rfl rfl ?_
        refine V_get (v := .ref (wad w 706 0)) G fgX6_26 rfl eX6_timesLeft_27 ?_
        refine V_iload G eX6_timesLeft_30 rfl ?_
        refine V_iald G al_706 (by decide) eX6_timesLeft_32 h (fun x2 h => ?_)
        refine V_iload_n (i := 2) G eX6_timesLeft_33 rfl rfl ?_
        obtain ⟨x3, h1, h⟩ := bdS h
        refine V_callIS (As := [.int x2, .int v2]) (st := []) G lkX6_90 (B_holdsBit_ok (μ := μ) h1) (by decide) rfl rfl (Nat.le_of_ble_eq_true rfl) eX6_timesLeft_34 ?_
        refine V_if_eq G eX6_timesLeft_37 h (fun h => ?_) (fun h => ?_)
        · refine V_iconst (n := 0) (v := (nI 0)) G eX6_timesLeft_44 rfl ?_
          cases h; exact J
        · refine V_iconst (n := 1) (v := (nI 1)) G eX6_timesLeft_40 rfl ?_
          refine V_goto G eX6_timesLeft_41 ?_
          cases h; exact J
set_option maxRecDepth 100000 in
set_option maxHeartbeats 4000000 in
theorem Pages_timesLeft_run {p : Program} {l : Launch} {e : Env} {R : Room} {s : State} {m : MethodId} {args : Array Value} {below : List Frame} {meth : Method} {c : Code} {w : Wld} (G : Cxt p R s m args meth c w cX6_timesLeft 7 "PotBook$Pages" 2 0 0) (hr : meth.sig.returnType = some .int) {a1 : Int32} {a2 : Int32} {a3 : Int32} {μ : Mem} {r : Int32} (h : Pages_timesLeft a1 a2 a3 μ = some r) : Vj p l e R s m args below meth c w 7 0 0 (MQ below (QI w r μ) args s 0 0 w.2.2.2) 0 [some (.ref (wad w 6 0)), some (.int a1), some (.int a2), some (.int a3), none, none, none] [] μ := by
  unfold Pages_timesLeft at h
  refine V_iconst (n := 0) (v := (nI 0)) G eX6_timesLeft_0 rfl ?_
  refine V_istoreA (i := 4) (L' := [some (.ref (wad w 6 0)), some (.int a1), some (.int a2), some (.int a3), some (.int (nI 0)), none, none]) G eX6_timesLeft_1 (by decide) rfl rfl ?_
  refine V_iconst (n := 0) (v := (nI 0)) G eX6_timesLeft_3 rfl ?_
  refine V_istoreA (i := 5) (L' := [some (.ref (wad w 6 0)), some (.int a1), some (.int a2), some (.int a3), some (.int (nI 0)), some (.int (nI 0)), none]) G eX6_timesLeft_4 (by decide) rfl rfl ?_
  obtain ⟨x1, h1, h⟩ := bdS h
  refine Pages_timesLeft_l1_ok G h1 ?_
  refine V_iload G eX6_timesLeft_76 rfl ?_
  exact V_ri G hr eX6_timesLeft_78 h
theorem Pages_timesLeft_ok {l : Launch} {w : Wld} {a1 : Int32} {a2 : Int32} {a3 : Int32} {μ : Mem} {r : Int32} (h : Pages_timesLeft a1 a2 a3 μ = some r) : CtI l w yX6_timesLeft cX6_timesLeft 7 .int 2 [.ref (wad w 6 0), .int a1, .int a2, .int a3] μ r μ :=
  Ct_of (own := "PotBook$Pages") [some (.ref (wad w 6 0)), some (.int a1), some (.int a2), some (.int a3), none, none, none] (by decide +kernel) rfl rfl (Nat.le_of_ble_eq_true rfl) fun p e s m args below meth c G hr => Pages_timesLeft_run G hr h
