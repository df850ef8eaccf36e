set_option maxRecDepth 100000 in
set_option maxHeartbeats 4000000 in
theorem B_monthsBetween_l1_ok {p : Program} {l : Launch} {e : Env} {R : Room} {s : State} {m : MethodId} {args : Array Value} {below : List Frame} {meth : Method} {c : Code} {w : Wld} {Q : State → Prop} (G : Cxt p R s m args meth c w cX11_monthsBetween 6 "PotBook" 1 0 0) {v0 : Int32} {v1 : Int32} {μ : Mem} {o1 : Int32} : ∀ {n : Nat} {v2 : Int32} {v3 : Int32}, B_monthsBetween_l1 v0 v1 n v2 v3 = some o1 → Vj p l e R s m args below meth c w 6 0 0 Q 76 [none, none, some (.int o1), none, none, none] [] μ → Vj p l e R s m args below meth c w 6 0 0 Q 4 [some (.int v0), some (.int v1), some (.int v2), some (.int v3), none, none] [] μ := by
  intro n
  induction n with
  | zero => intro v2 v3 h K; exact noS h
  | succ n ih =>
    intro v2 v3 h K
    replace h : B_monthsBetween_l1b v0 v1 (B_monthsBetween_l1 v0 v1 n) v2 v3 = some o1 := h
    unfold B_monthsBetween_l1b at h
    refine V_iload_n (i := 3) G eX11_monthsBetween_4 rfl rfl ?_
    refine V_bipush (n := 12) (v := (nI 12)) G eX11_monthsBetween_5 rfl ?_
    refine V_icmp_gt G eX11_monthsBetween_7 h (fun h => ?_) (fun h => ?_)
    · cases h; exact V_sub (lS_n (lS_n (lS_s (lS_n (lS_n (lS_n lS_0)))))) K
    · refine V_iload_n (i := 3) G eX11_monthsBetween_10 rfl rfl ?_
      refine V_iload_n (i := 0) G eX11_monthsBetween_11 rfl rfl ?_
      obtain ⟨x1, hj, h⟩ := bdS h
      have J : Vj p l e R s m args below meth c w 6 0 0 Q 20 [some (.int v0), some (.int v1), some (.int v2), some (.int v3), none, none] [.int x1] μ := by
        clear hj
        refine V_istoreA (i := 4) (L' := [some (.int v0), some (.int v1), some (.int v2), some (.int v3), some (.int x1), none]) G eX11_monthsBetween_20 (by decide) rfl rfl ?_
        refine V_iload_n (i := 3) G eX11_monthsBetween_22 rfl rfl ?_
        refine V_iload_n (i := 1) G eX11_monthsBetween_23 rfl rfl ?_
        obtain ⟨x2, hj, h⟩ := bdS h
        have J : Vj p l e R s m args below meth c w 6 0 0 Q 32 [some (.int v0), some (.int v1), some (.int v2), some (.int v3), some (.int x1), none] [.int x2] μ := by
          clear hj
          refine V_istoreA (i := 5) (L' := [some (.int v0), some (.int v1), some (.int v2), some (.int v3), some (.int x1), some (.int x2)]) G eX11_monthsBetween_32 (by decide) rfl rfl ?_
          refine V_iload_n (i := 0) G eX11_monthsBetween_34 rfl rfl ?_
          refine V_iload_n (i := 1) G eX11_monthsBetween_35 rfl rfl ?_
          obtain ⟨x6, hj, h⟩ := bdS h
          have J : Vj p l e R s m args below meth c w 6 0 0 Q 70 [some (.int v0), some (.int v1), some (.int x6), some (.int v3), none, none] [] μ := by
            clear hj
            refine V_iinc (z := (nI 1)) (L' := (fun x7 => [some (.int v0), some (.int v1), some (.int x6), some (.int x7), none, none])) G eX11_monthsBetween_70 rfl rfl (by decide) rfl (fun _ => rfl) h (fun x7 h => ?_)
            refine V_goto G eX11_monthsBetween_73 ?_
            exact (ih h K)
          replace h := hj
          clear hj
          refine V_icmp_gt G eX11_monthsBetween_36 h (fun h => ?_) (fun h => ?_)
          · refine V_iload G eX11_monthsBetween_52 rfl ?_
            obtain ⟨k3, hkk3, h⟩ := kE h
            have Jk3 :  k3 () = some x6 → Vj p l e R s m args below meth c w 6 0 0 Q 62 [some (.int v0), some (.int v1), some (.int v2), some (.int v3), none, none] [] μ := by
              clear h
              intro h
              rw [hkk3] at h
              clear hkk3
              refine V_iload_n (i := 2) G eX11_monthsBetween_62 rfl rfl ?_
              refine V_iconst (n := 1) (v := (nI 1)) G eX11_monthsBetween_63 rfl ?_
              refine V_iload_n (i := 3) G eX11_monthsBetween_64 rfl rfl ?_
              refine V_iconst (n := 1) (v := (nI 1)) G eX11_monthsBetween_65 rfl ?_
              refine V_isub G eX11_monthsBetween_66 ?_
              refine V_ishl G eX11_monthsBetween_67 ?_
              refine V_ior G eX11_monthsBetween_68 ?_
              refine V_istore_n (i := 2) (L' := (fun x4 => [some (.int v0), some (.int v1), some (.int x4), some (.int v3), none, none])) G rfl eX11_monthsBetween_69 (by decide) rfl (fun _ => rfl) h (fun x4 h => ?_)
              cases h; exact J
            refine V_if_ne G eX11_monthsBetween_54 h (fun h => ?_) (fun h => ?_)
            · exact V_sub (lS_s (lS_s (lS_s (lS_s (lS_n (lS_n lS_0)))))) (Jk3 h)
            · refine V_iload G eX11_monthsBetween_57 rfl ?_
              refine V_if_eq G eX11_monthsBetween_59 h (fun h => ?_) (fun h => ?_)
              · cases h; exact V_sub (lS_s (lS_s (lS_s (lS_s (lS_n (lS_n lS_0)))))) J
              · exact V_sub (lS_s (lS_s (lS_s (lS_s (lS_n (lS_n lS_0)))))) (Jk3 h)
          · refine V_iload G eX11_monthsBetween_39 rfl ?_
            refine V_if_eq G eX11_monthsBetween_41 h (fun h => ?_) (fun h => ?_)
            · cases h; exact V_sub (lS_s (lS_s (lS_s (lS_s (lS_n (lS_n lS_0)))))) J
            · refine V_iload G eX11_monthsBetween_44 rfl ?_
              refine V_if_eq G eX11_monthsBetween_46 h (fun h => ?_) (fun h => ?_)
              · cases h; exact V_sub (lS_s (lS_s (lS_s (lS_s (lS_n (lS_n lS_0)))))) J
              · refine V_goto G eX11_monthsBetween_49 ?_
                refine V_iload_n (i := 2) G eX11_monthsBetween_62 rfl rfl ?_
                refine V_iconst (n := 1) (v := (nI 1)) G eX11_monthsBetween_63 rfl ?_
                refine V_iload_n (i := 3) G eX11_monthsBetween_64 rfl rfl ?_
                refine V_iconst (n := 1) (v := (nI 1)) G eX11_monthsBetween_65 rfl ?_
                refine V_isub G eX11_monthsBetween_66 ?_
                refine V_ishl G eX11_monthsBetween_67 ?_
                refine V_ior G eX11_monthsBetween_68 ?_
                refine V_istore_n (i := 2) (L' := (fun x5 => [some (.int v0), some (.int v1), some (.int x5), some (.int v3), some (.int x1), some (.int x2)])) G rfl eX11_monthsBetween_69 (by decide) rfl (fun _ => rfl) h (fun x5 h => ?_)
                cases h; exact V_sub (lS_s (lS_s (lS_s (lS_s (lS_n (lS_n lS_0)))))) J
        replace h := hj
        clear hj
        refine V_icmp_gt G eX11_monthsBetween_24 h (fun h => ?_) (fun h => ?_)
        · refine V_iconst (n := 0) (v := (nI 0)) G eX11_monthsBetween_31 rfl ?_
          cases h; exact J
        · refine V_iconst (n := 1) (v := (nI 1)) G eX11_monthsBetween_27 rfl ?_
          refine V_goto G eX11_monthsBetween_28 ?_
          cases h; exact J
      replace h := hj
      clear hj
      refine V_icmp_lt G eX11_monthsBetween_12 h (fun h => ?_) (fun h => ?_)
      · refine V_iconst (n := 0) (v := (nI 0)) G eX11_monthsBetween_19 rfl ?_
        cases h; exact J
      · refine V_iconst (n := 1) (v := (nI 1)) G eX11_monthsBetween_15 rfl ?_
        refine V_goto G eX11_monthsBetween_16 ?_
        cases h; exact J
set_option maxRecDepth 100000 in
set_option maxHeartbeats 4000000 in
theorem B_monthsBetween_run {p : Program} {l : Launch} {e : Env} {R : Room} {s : State} {m : MethodId} {args : Array Value} {below : List Frame} {meth : Method} {c : Code} {w : Wld} (G : Cxt p R s m args meth c w cX11_monthsBetween 6 "PotBook" 1 0 0) (hr : meth.sig.returnType = some .int) {a1 : Int32} {a2 : Int32} {μ : Mem} {r : Int32} (h : B_monthsBetween a1 a2 = some r) : Vj p l e R s m args below meth c w 6 0 0 (MQ below (QI w r μ) args s 0 0 w.2.2.2) 0 [some (.int a1), some (.int a2), none, none, none, none] [] μ := by
  unfold B_monthsBetween at h
  refine V_iconst (n := 0) (v := (nI 0)) G eX11_monthsBetween_0 rfl ?_
  refine V_istoreA_n (i := 2) (L' := [some (.int a1), some (.int a2), some (.int (nI 0)), none, none, none]) G rfl eX11_monthsBetween_1 (by decide) rfl rfl ?_
  refine V_iconst (n := 1) (v := (nI 1)) G eX11_monthsBetween_2 rfl ?_
  refine V_istoreA_n (i := 3) (L' := [some (.int a1), some (.int a2), some (.int (nI 0)), some (.int (nI 1)), none, none]) G rfl eX11_monthsBetween_3 (by decide) rfl rfl ?_
  obtain ⟨x1, h1, h⟩ := bdS h
  refine B_monthsBetween_l1_ok G h1 ?_
  refine V_iload_n (i := 2) G eX11_monthsBetween_76 rfl rfl ?_
  exact V_ri G hr eX11_monthsBetween_77 h
theorem B_monthsBetween_ok {l : Launch} {w : Wld} {a1 : Int32} {a2 : Int32} {μ : Mem} {r : Int32} (h : B_monthsBetween a1 a2 = some r) : CtI l w yX11_monthsBetween cX11_monthsBetween 6 .int 1 [.int a1, .int a2] μ r μ :=
  Ct_of (own := "PotBook") [some (.int a1), some (.int a2), none, none, none, none] (by decide +kernel) rfl rfl (Nat.le_of_ble_eq_true rfl) fun p e s m args below meth c G hr => B_monthsBetween_run G hr h
set_option maxRecDepth 100000 in
set_option maxHeartbeats 4000000 in
theorem Pantry_put_run {p : Program} {l : Launch} {e : Env} {R : Room} {s : State} {m : MethodId} {args : Array Value} {below : List Frame} {meth : Method} {c : Code} {w : Wld} (G : Cxt p R s m args meth c w cX7_put 5 "PotBook$Pantry" 1 0 0) (hr : meth.sig.returnType = none) {a1 : Int32} {a2 : Int32} {a3 : Int32} {a4 : Int32} {μ : Mem} {μ' : Mem} (h : Pantry_put a1 a2 a3 a4 μ = some μ') : Vj p l e R s m args below meth c w 5 0 0 (MQ below (QV w μ') args s 0 0 w.2.2.2) 0 [some (.ref (wad w 7 0)), some (.int a1), some (.int a2), some (.int a3), some (.int a4)] [] μ := by
  unfold Pantry_put at h
  refine V_aload_n (i := 0) G eX7_put_0 rfl rfl ?_
  refine V_get (v := .ref (wad w 800 0)) G fgX7_9 rfl eX7_put_1 ?_
  refine V_aload_n (i := 0) G eX7_put_4 rfl rfl ?_
  refine V_get (v := .int (mI μ 808 0 0)) G fgX7_35 rfl eX7_put_5 ?_
  refine V_iload_n (i := 1) G eX7_put_8 rfl rfl ?_
  refine V_iast G al_800 (by decide) eX7_put_9 h (fun μ1 h => ?_)
  refine V_aload_n (i := 0) G eX7_put_10 rfl rfl ?_
  refine V_get (v := .ref (wad w 801 0)) G fgX7_15 rfl eX7_put_11 ?_
  refine V_aload_n (i := 0) G eX7_put_14 rfl rfl ?_
  refine V_get (v := .int (mI μ1 808 0 0)) G fgX7_35 rfl eX7_put_15 ?_
  refine V_iload_n (i := 2) G eX7_put_18 rfl rfl ?_
  refine V_iast G al_801 (by decide) eX7_put_19 h (fun μ2 h => ?_)
  refine V_aload_n (i := 0) G eX7_put_20 rfl rfl ?_
  refine V_get (v := .ref (wad w 802 0)) G fgX7_18 rfl eX7_put_21 ?_
  refine V_aload_n (i := 0) G eX7_put_24 rfl rfl ?_
  refine V_get (v := .int (mI μ2 808 0 0)) G fgX7_35 rfl eX7_put_25 ?_
  refine V_iload_n (i := 3) G eX7_put_28 rfl rfl ?_
  refine V_iast G al_802 (by decide) eX7_put_29 h (fun μ3 h => ?_)
  refine V_aload_n (i := 0) G eX7_put_30 rfl rfl ?_
  refine V_get (v := .ref (wad w 803 0)) G fgX7_21 rfl eX7_put_31 ?_
  refine V_aload_n (i := 0) G eX7_put_34 rfl rfl ?_
  refine V_get (v := .int (mI μ3 808 0 0)) G fgX7_35 rfl eX7_put_35 ?_
  refine V_iload G eX7_put_38 rfl ?_
  refine V_iast G al_803 (by decide) eX7_put_40 h (fun μ4 h => ?_)
  refine V_aload_n (i := 0) G eX7_put_41 rfl rfl ?_
  refine V_dup G eX7_put_42 rfl ?_
  refine V_get (v := .int (mI μ4 808 0 0)) G fgX7_35 rfl eX7_put_43 ?_
  refine V_iconst (n := 1) (v := (nI 1)) G eX7_put_46 rfl ?_
  refine V_iadd G eX7_put_47 ?_
  refine V_put G fgX7_35 fp_7_8 eX7_put_48 h (fun μ5 h => ?_)
  exact V_rvM G hr eX7_put_51 h
theorem Pantry_put_ok {l : Launch} {w : Wld} {a1 : Int32} {a2 : Int32} {a3 : Int32} {a4 : Int32} {μ : Mem} {μ' : Mem} (h : Pantry_put a1 a2 a3 a4 μ = some μ') : CtV l w yX7_put cX7_put 5 1 [.ref (wad w 7 0), .int a1, .int a2, .int a3, .int a4] μ μ' :=
  Ct_of (own := "PotBook$Pantry") [some (.ref (wad w 7 0)), some (.int a1), some (.int a2), some (.int a3), some (.int a4)] (by decide +kernel) rfl rfl (Nat.le_of_ble_eq_true rfl) fun p e s m args below meth c G hr => Pantry_put_run G hr h
set_option maxRecDepth 100000 in
set_option maxHeartbeats 4000000 in
theorem B_thing_run {p : Program} {l : Launch} {e : Env} {R : Room} {s : State} {m : MethodId} {args : Array Value} {below : List Frame} {meth : Method} {c : Code} {w : Wld} (G : Cxt p R s m args meth c w cX11_thing 7 "PotBook" 2 0 0) (hr : meth.sig.returnType = some .int) {a1 : Int32} {a2 : Int32} {a3 : Int32} {a4 : Int32} {a5 : Int32} {a6 : Int32} {μ : Mem} {r : Int32} {μ' : Mem} (h : B_thing a1 a2 a3 a4 a5 a6 μ = some (r, μ')) : Vj p l e R s m args below meth c w 7 0 0 (MQ below (QI w r μ') args s 0 0 w.2.2.2) 0 [some (.ref (wad w 11 0)), some (.int a1), some (.int a2), some (.int a3), some (.int a4), some (.int a5), some (.int a6)] [] μ := by
  unfold B_thing at h
  refine V_iload_n (i := 1) G eX11_thing_0 rfl rfl ?_
  refine V_iconst (n := 0) (v := (nI 0)) G eX11_thing_1 rfl ?_
  refine V_bipush (n := 99) (v := (nI 99)) G eX11_thing_2 rfl ?_
  obtain ⟨x1, h1, h⟩ := bdS h
  refine V_callIS (As := [.int a1, .int (nI 0), .int (nI 99)]) (st := []) G lkX11_127 (B_isWithin_ok (μ := μ) h1) (by decide) rfl rfl (Nat.le_of_ble_eq_true rfl) eX11_thing_4 ?_
  refine V_if_eq G eX11_thing_7 h (fun h => ?_) (fun h => ?_)
  · refine V_iconst (n := -1) (v := (-1)) G eX11_thing_30 rfl ?_
    exact V_riM G hr eX11_thing_31 h
  · refine V_iload_n (i := 2) G eX11_thing_10 rfl rfl ?_
    refine V_iconst (n := 0) (v := (nI 0)) G eX11_thing_11 rfl ?_
    refine V_bipush (n := 99) (v := (nI 99)) G eX11_thing_12 rfl ?_
    obtain ⟨x2, h1, h⟩ := bdS h
    refine V_callIS (As := [.int a2, .int (nI 0), .int (nI 99)]) (st := []) G lkX11_127 (B_isWithin_ok (μ := μ) h1) (by decide) rfl rfl (Nat.le_of_ble_eq_true rfl) eX11_thing_14 ?_
    refine V_if_eq G eX11_thing_17 h (fun h => ?_) (fun h => ?_)
    · refine V_iconst (n := -1) (v := (-1)) G eX11_thing_30 rfl ?_
      exact V_riM G hr eX11_thing_31 h
    · refine V_iload_n (i := 3) G eX11_thing_20 rfl rfl ?_
      refine V_iconst (n := 0) (v := (nI 0)) G eX11_thing_21 rfl ?_
      refine V_bipush (n := 99) (v := (nI 99)) G eX11_thing_22 rfl ?_
      obtain ⟨x3, h1, h⟩ := bdS h
      refine V_callIS (As := [.int a3, .int (nI 0), .int (nI 99)]) (st := []) G lkX11_127 (B_isWithin_ok (μ := μ) h1) (by decide) rfl rfl (Nat.le_of_ble_eq_true rfl) eX11_thing_24 ?_
      refine V_if_ne G eX11_thing_27 h (fun h => ?_) (fun h => ?_)
      · refine V_iload G eX11_thing_32 rfl ?_
        refine V_iconst (n := 1) (v := (nI 1)) G eX11_thing_34 rfl ?_
        refine V_bipush (n := 12) (v := (nI 12)) G eX11_thing_35 rfl ?_
        obtain ⟨x4, h1, h⟩ := bdS h
        refine V_callIS (As := [.int a5, .int (nI 1), .int (nI 12)]) (st := []) G lkX11_127 (B_isWithin_ok (μ := μ) h1) (by decide) rfl rfl (Nat.le_of_ble_eq_true rfl) eX11_thing_37 ?_
        refine V_if_eq G eX11_thing_40 h (fun h => ?_) (fun h => ?_)
        · refine V_iconst (n := -1) (v := (-1)) G eX11_thing_66 rfl ?_
          exact V_riM G hr eX11_thing_67 h
        · refine V_iload G eX11_thing_43 rfl ?_
          refine V_iconst (n := 1) (v := (nI 1)) G eX11_thing_45 rfl ?_
          refine V_bipush (n := 12) (v := (nI 12)) G eX11_thing_46 rfl ?_
          obtain ⟨x5, h1, h⟩ := bdS h
          refine V_callIS (As := [.int a6, .int (nI 1), .int (nI 12)]) (st := []) G lkX11_127 (B_isWithin_ok (μ := μ) h1) (by decide) rfl rfl (Nat.le_of_ble_eq_true rfl) eX11_thing_48 ?_
          refine V_if_eq G eX11_thing_51 h (fun h => ?_) (fun h => ?_)
          · refine V_iconst (n := -1) (v := (-1)) G eX11_thing_66 rfl ?_
            exact V_riM G hr eX11_thing_67 h
          · refine V_aload_n (i := 0) G eX11_thing_54 rfl rfl ?_
            refine V_get (v := .ref (wad w 7 0)) G fgX11_19 rfl eX11_thing_55 ?_
            refine V_get (v := .int (mI μ 808 0 0)) G fgX11_131 rfl eX11_thing_58 ?_
            refine V_bipush (n := 12) (v := (nI 12)) G eX11_thing_61 rfl ?_
            refine V_icmp_lt G eX11_thing_63 h (fun h => ?_) (fun h => ?_)
            · refine V_aload_n (i := 0) G eX11_thing_68 rfl rfl ?_
              refine V_get (v := .ref (wad w 7 0)) G fgX11_19 rfl eX11_thing_69 ?_
              refine V_iload_n (i := 1) G eX11_thing_72 rfl rfl ?_
              refine V_iload_n (i := 2) G eX11_thing_73 rfl rfl ?_
              refine V_iload_n (i := 3) G eX11_thing_74 rfl rfl ?_
              refine V_iload G eX11_thing_75 rfl ?_
              refine V_iload G eX11_thing_77 rfl ?_
              obtain ⟨x6, h1, h⟩ := bdS h
              refine V_callIS (As := [.int a5, .int a6]) (st := [.int a3, .int a2, .int a1, .ref (wad w 7 0)]) G lkX11_132 (B_monthsBetween_ok (μ := μ) h1) (by decide) rfl rfl (Nat.le_of_ble_eq_true rfl) eX11_thing_79 ?_
              obtain ⟨μ7, h1, h⟩ := bdS h
              refine V_callV (As := [.int a1, .int a2, .int a3, .int x6]) (st := []) G lkX11_136 (Pantry_put_ok h1) (by decide) rfl rfl (Nat.le_of_ble_eq_true rfl) eX11_thing_82 ?_
              refine V_iload G eX11_thing_85 rfl ?_
              obtain ⟨μ9, hj, h⟩ := bdS h
              have J : Vj p l e R s m args below meth c w 7 0 0 (MQ below (QI w r μ') args s 0 0 w.2.2.2) 113 [some (.ref (wad w 11 0)), none, none, none, none, none, none] [] μ9 := by
                clear hj
                refine V_aload_n (i := 0) G eX11_thing_113 rfl rfl ?_
                refine V_get (v := .ref (wad w 7 0)) G fgX11_19 rfl eX11_thing_114 ?_
                refine V_get (v := .int (mI μ9 808 0 0)) G fgX11_131 rfl eX11_thing_117 ?_
                refine V_iconst (n := 1) (v := (nI 1)) G eX11_thing_120 rfl ?_
                refine V_isub G eX11_thing_121 ?_
                exact V_riM G hr eX11_thing_122 h
              replace h := hj
              clear hj
              refine V_if_eq G eX11_thing_87 h (fun h => ?_) (fun h => ?_)
              · cases h; exact V_sub (lS_s (lS_n (lS_n (lS_n (lS_n (lS_n (lS_n lS_0))))))) J
              · refine V_aload_n (i := 0) G eX11_thing_90 rfl rfl ?_
                refine V_get (v := .ref (wad w 7 0)) G fgX11_19 rfl eX11_thing_91 ?_
                refine V_dup G eX11_thing_94 rfl ?_
                refine V_get (v := .int (mI μ7 807 0 0)) G fgX11_139 rfl eX11_thing_95 ?_
                refine V_iconst (n := 1) (v := (nI 1)) G eX11_thing_98 rfl ?_
                refine V_aload_n (i := 0) G eX11_thing_99 rfl rfl ?_
                refine V_get (v := .ref (wad w 7 0)) G fgX11_19 rfl eX11_thing_100 ?_
                refine V_get (v := .int (mI μ7 808 0 0)) G fgX11_131 rfl eX11_thing_103 ?_
                refine V_iconst (n := 1) (v := (nI 1)) G eX11_thing_106 rfl ?_
                refine V_isub G eX11_thing_107 ?_
                refine V_ishl G eX11_thing_108 ?_
                refine V_ior G eX11_thing_109 ?_
                refine V_put G fgX11_139 fp_7_7 eX11_thing_110 h (fun μ8 h => ?_)
                cases h; exact V_sub (lS_s (lS_n (lS_n (lS_n (lS_n (lS_n (lS_n lS_0))))))) J
            · refine V_iconst (n := -1) (v := (-1)) G eX11_thing_66 rfl ?_
              exact V_riM G hr eX11_thing_67 h
      · refine V_iconst (n := -1) (v := (-1)) G eX11_thing_30 rfl ?_
        exact V_riM G hr eX11_thing_31 h
theorem B_thing_ok {l : Launch} {w : Wld} {a1 : Int32} {a2 : Int32} {a3 : Int32} {a4 : Int32} {a5 : Int32} {a6 : Int32} {μ : Mem} {r : Int32} {μ' : Mem} (h : B_thing a1 a2 a3 a4 a5 a6 μ = some (r, μ')) : CtI l w yX11_thing cX11_thing 7 .int 2 [.ref (wad w 11 0), .int a1, .int a2, .int a3, .int a4, .int a5, .int a6] μ r μ' :=
  Ct_of (own := "PotBook") [some (.ref (wad w 11 0)), some (.int a1), some (.int a2), some (.int a3), some (.int a4), some (.int a5), some (.int a6)] (by decide +kernel) rfl rfl (Nat.le_of_ble_eq_true rfl) fun p e s m args below meth c G hr => B_thing_run G hr h
set_option maxRecDepth 100000 in
set_option maxHeartbeats 4000000 in
theorem B_isYear_run {p : Program} {l : Launch} {e : Env} {R : Room} {s : State} {m : MethodId} {args : Array Value} {below : List Frame} {meth : Method} {c : Code} {w : Wld} (G : Cxt p R s m args meth c w cX11_isYear 1 "PotBook" 2 0 0) (hr : meth.sig.returnType = some .boolean) {a1 : Int32} {μ : Mem} {r : Int32} (h : B_isYear a1 = some r) : Vj p l e R s m args below meth c w 1 0 0 (MQ below (QI w r μ) args s 0 0 w.2.2.2) 0 [some (.int a1)] [] μ := by
  unfold B_isYear at h
  refine V_iload_n (i := 0) G eX11_isYear_0 rfl rfl ?_
  refine V_sipush (n := 1200) (v := (nI 1200)) G eX11_isYear_1 rfl ?_
  refine V_sipush (n := 1999) (v := (nI 1999)) G eX11_isYear_4 rfl ?_
  obtain ⟨x1, h1, h⟩ := bdS h
  refine V_callIS (As := [.int a1, .int (nI 1200), .int (nI 1999)]) (st := []) G lkX11_127 (B_isWithin_ok (μ := μ) h1) (by decide) rfl rfl (Nat.le_of_ble_eq_true rfl) eX11_isYear_7 ?_
  exact V_rz G hr eX11_isYear_10 h
theorem B_isYear_ok {l : Launch} {w : Wld} {a1 : Int32} {μ : Mem} {r : Int32} (h : B_isYear a1 = some r) : CtI l w yX11_isYear cX11_isYear 1 .boolean 2 [.int a1] μ r μ :=
  Ct_of (own := "PotBook") [some (.int a1)] (by decide +kernel) rfl rfl (Nat.le_of_ble_eq_true rfl) fun p e s m args below meth c G hr => B_isYear_run G hr h
set_option maxRecDepth 100000 in
set_option maxHeartbeats 4000000 in
theorem Pantry_tellSize_run {p : Program} {l : Launch} {e : Env} {R : Room} {s : State} {m : MethodId} {args : Array Value} {below : List Frame} {meth : Method} {c : Code} {w : Wld} (G : Cxt p R s m args meth c w cX7_tellSize 5 "PotBook$Pantry" 1 0 0) (hr : meth.sig.returnType = some .int) {a1 : Int32} {a2 : Int32} {a3 : Int32} {μ : Mem} {r : Int32} {μ' : Mem} (h : Pantry_tellSize a1 a2 a3 μ = some (r, μ')) : Vj p l e R s m args below meth c w 5 0 0 (MQ below (QI w r μ') args s 0 0 w.2.2.2) 0 [some (.ref (wad w 7 0)), some (.int a1), some (.int a2), some (.int a3), none] [] μ := by
  unfold Pantry_tellSize at h
  refine V_aload_n (i := 0) G eX7_tellSize_0 rfl rfl ?_
  refine V_get (v := .ref (wad w 804 0)) G fgX7_24 rfl eX7_tellSize_1 ?_
  refine V_iload_n (i := 1) G eX7_tellSize_4 rfl rfl ?_
  refine V_iald G al_804 (by decide) eX7_tellSize_5 h (fun x1 h => ?_)
  refine V_istoreA (i := 4) (L' := [some (.ref (wad w 7 0)), some (.int a1), some (.int a2), some (.int a3), some (.int x1)]) G eX7_tellSize_6 (by decide) rfl rfl ?_
  refine V_iload G eX7_tellSize_8 rfl ?_
  refine V_bipush (n := 6) (v := (nI 6)) G eX7_tellSize_10 rfl ?_
  refine V_icmp_ge G eX7_tellSize_12 h (fun h => ?_) (fun h => ?_)
  · refine V_iconst (n := -1) (v := (-1)) G eX7_tellSize_35 rfl ?_
    exact V_riM G hr eX7_tellSize_36 h
  · refine V_iload G eX7_tellSize_15 rfl ?_
    obtain ⟨k4, hkk4, h⟩ := kE h
    have Jk4 :  k4 () = some (r, μ') → Vj p l e R s m args below meth c w 5 0 0 (MQ below (QI w r μ') args s 0 0 w.2.2.2) 37 [some (.ref (wad w 7 0)), some (.int a1), some (.int a2), some (.int a3), some (.int x1)] [] μ := by
      clear h
      intro h
      rw [hkk4] at h
      clear hkk4
      refine V_aload_n (i := 0) G eX7_tellSize_37 rfl rfl ?_
      refine V_get (v := .ref (wad w 10805 0)) G fgX7_29 rfl eX7_tellSize_38 ?_
      refine V_iload_n (i := 1) G eX7_tellSize_41 rfl rfl ?_
      refine V_aaldI (id := 805) G al_10805 eX7_tellSize_42 h (fun r5 hr5 h => ?_)
      refine V_iload G eX7_tellSize_43 rfl ?_
      refine V_iload_n (i := 2) G eX7_tellSize_45 rfl rfl ?_
      refine V_iast G al_805 hr5 eX7_tellSize_46 h (fun μ6 h => ?_)
      refine V_aload_n (i := 0) G eX7_tellSize_47 rfl rfl ?_
      refine V_get (v := .ref (wad w 10806 0)) G fgX7_32 rfl eX7_tellSize_48 ?_
      refine V_iload_n (i := 1) G eX7_tellSize_51 rfl rfl ?_
      refine V_aaldI (id := 806) G al_10806 eX7_tellSize_52 h (fun r7 hr7 h => ?_)
      refine V_iload G eX7_tellSize_53 rfl ?_
      refine V_iload_n (i := 3) G eX7_tellSize_55 rfl rfl ?_
      refine V_iast G al_806 hr7 eX7_tellSize_56 h (fun μ8 h => ?_)
      refine V_aload_n (i := 0) G eX7_tellSize_57 rfl rfl ?_
      refine V_get (v := .ref (wad w 804 0)) G fgX7_24 rfl eX7_tellSize_58 ?_
      refine V_iload_n (i := 1) G eX7_tellSize_61 rfl rfl ?_
      refine V_iload G eX7_tellSize_62 rfl ?_
      refine V_iconst (n := 1) (v := (nI 1)) G eX7_tellSize_64 rfl ?_
      refine V_iadd G eX7_tellSize_65 ?_
      refine V_iast G al_804 (by decide) eX7_tellSize_66 h (fun μ9 h => ?_)
      refine V_iload G eX7_tellSize_67 rfl ?_
      refine V_iconst (n := 1) (v := (nI 1)) G eX7_tellSize_69 rfl ?_
      refine V_iadd G eX7_tellSize_70 ?_
      exact V_riM G hr eX7_tellSize_71 h
    refine V_if_le G eX7_tellSize_17 h (fun h => ?_) (fun h => ?_)
    · exact (Jk4 h)
    · refine V_iload_n (i := 2) G eX7_tellSize_20 rfl rfl ?_
      refine V_aload_n (i := 0) G eX7_tellSize_21 rfl rfl ?_
      refine V_get (v := .ref (wad w 10805 0)) G fgX7_29 rfl eX7_tellSize_22 ?_
      refine V_iload_n (i := 1) G eX7_tellSize_25 rfl rfl ?_
      refine V_aaldI (id := 805) G al_10805 eX7_tellSize_26 h (fun r2 hr2 h => ?_)
      refine V_iload G eX7_tellSize_27 rfl ?_
      refine V_iconst (n := 1) (v := (nI 1)) G eX7_tellSize_29 rfl ?_
      refine V_isub G eX7_tellSize_30 ?_
      refine V_iald G al_805 hr2 eX7_tellSize_31 h (fun x3 h => ?_)
      refine V_icmp_gt G eX7_tellSize_32 h (fun h => ?_) (fun h => ?_)
      · exact (Jk4 h)
      · refine V_iconst (n := -1) (v := (-1)) G eX7_tellSize_35 rfl ?_
        exact V_riM G hr eX7_tellSize_36 h
theorem Pantry_tellSize_ok {l : Launch} {w : Wld} {a1 : Int32} {a2 : Int32} {a3 : Int32} {μ : Mem} {r : Int32} {μ' : Mem} (h : Pantry_tellSize a1 a2 a3 μ = some (r, μ')) : CtI l w yX7_tellSize cX7_tellSize 5 .int 1 [.ref (wad w 7 0), .int a1, .int a2, .int a3] μ r μ' :=
  Ct_of (own := "PotBook$Pantry") [some (.ref (wad w 7 0)), some (.int a1), some (.int a2), some (.int a3), none] (by decide +kernel) rfl rfl (Nat.le_of_ble_eq_true rfl) fun p e s m args below meth c G hr => Pantry_tellSize_run G hr h
set_option maxRecDepth 100000 in
set_option maxHeartbeats 4000000 in
theorem B_sized_run {p : Program} {l : Launch} {e : Env} {R : Room} {s : State} {m : MethodId} {args : Array Value} {below : List Frame} {meth : Method} {c : Code} {w : Wld} (G : Cxt p R s m args meth c w cX11_sized 4 "PotBook" 3 0 0) (hr : meth.sig.returnType = some .int) {a1 : Int32} {a2 : Int32} {a3 : Int32} {μ : Mem} {r : Int32} {μ' : Mem} (h : B_sized a1 a2 a3 μ = some (r, μ')) : Vj p l e R s m args below meth c w 4 0 0 (MQ below (QI w r μ') args s 0 0 w.2.2.2) 0 [some (.ref (wad w 11 0)), some (.int a1), some (.int a2), some (.int a3)] [] μ := by
  unfold B_sized at h
  refine V_aload_n (i := 0) G eX11_sized_0 rfl rfl ?_
  refine V_get (v := .ref (wad w 7 0)) G fgX11_19 rfl eX11_sized_1 ?_
  refine V_iload_n (i := 1) G eX11_sized_4 rfl rfl ?_
  obtain ⟨x1, h1, h⟩ := bdS h
  refine V_callI (As := [.int a1]) (st := []) G lkX11_142 (Pantry_has_ok h1) (by decide) rfl rfl (Nat.le_of_ble_eq_true rfl) eX11_sized_5 ?_
  refine V_if_eq G eX11_sized_8 h (fun h => ?_) (fun h => ?_)
  · refine V_iconst (n := -1) (v := (-1)) G eX11_sized_29 rfl ?_
    exact V_riM G hr eX11_sized_30 h
  · refine V_iload_n (i := 2) G eX11_sized_11 rfl rfl ?_
    obtain ⟨x2, h1, h⟩ := bdS h
    refine V_callIS (As := [.int a2]) (st := []) G lkX11_146 (B_isYear_ok (μ := μ) h1) (by decide) rfl rfl (Nat.le_of_ble_eq_true rfl) eX11_sized_12 ?_
    refine V_if_eq G eX11_sized_15 h (fun h => ?_) (fun h => ?_)
    · refine V_iconst (n := -1) (v := (-1)) G eX11_sized_29 rfl ?_
      exact V_riM G hr eX11_sized_30 h
    · refine V_iload_n (i := 3) G eX11_sized_18 rfl rfl ?_
      refine V_iconst (n := 1) (v := (nI 1)) G eX11_sized_19 rfl ?_
      refine V_sipush (n := 999) (v := (nI 999)) G eX11_sized_20 rfl ?_
      obtain ⟨x3, h1, h⟩ := bdS h
      refine V_callIS (As := [.int a3, .int (nI 1), .int (nI 999)]) (st := []) G lkX11_127 (B_isWithin_ok (μ := μ) h1) (by decide) rfl rfl (Nat.le_of_ble_eq_true rfl) eX11_sized_23 ?_
      refine V_if_ne G eX11_sized_26 h (fun h => ?_) (fun h => ?_)
      · refine V_aload_n (i := 0) G eX11_sized_31 rfl rfl ?_
        refine V_get (v := .ref (wad w 7 0)) G fgX11_19 rfl eX11_sized_32 ?_
        refine V_iload_n (i := 1) G eX11_sized_35 rfl rfl ?_
        refine V_iload_n (i := 2) G eX11_sized_36 rfl rfl ?_
        refine V_iload_n (i := 3) G eX11_sized_37 rfl rfl ?_
        obtain ⟨⟨x4, μ5⟩, h1, h⟩ := bdS h
        refine V_callI (As := [.int a1, .int a2, .int a3]) (st := []) G lkX11_149 (Pantry_tellSize_ok h1) (by decide) rfl rfl (Nat.le_of_ble_eq_true rfl) eX11_sized_38 ?_
        exact V_riM G hr eX11_sized_41 h
      · refine V_iconst (n := -1) (v := (-1)) G eX11_sized_29 rfl ?_
        exact V_riM G hr eX11_sized_30 h
theorem B_sized_ok {l : Launch} {w : Wld} {a1 : Int32} {a2 : Int32} {a3 : Int32} {μ : Mem} {r : Int32} {μ' : Mem} (h : B_sized a1 a2 a3 μ = some (r, μ')) : CtI l w yX11_sized cX11_sized 4 .int 3 [.ref (wad w 11 0), .int a1, .int a2, .int a3] μ r μ' :=
  Ct_of (own := "PotBook") [some (.ref (wad w 11 0)), some (.int a1), some (.int a2), some (.int a3)] (by decide +kernel) rfl rfl (Nat.le_of_ble_eq_true rfl) fun p e s m args below meth c G hr => B_sized_run G hr h
set_option maxRecDepth 100000 in
set_option maxHeartbeats 4000000 in
theorem Pantry_bigBetween_run {p : Program} {l : Launch} {e : Env} {R : Room} {s : State} {m : MethodId} {args : Array Value} {below : List Frame} {meth : Method} {c : Code} {w : Wld} (G : Cxt p R s m args meth c w cX7_bigBetween 7 "PotBook$Pantry" 1 0 0) (hr : meth.sig.returnType = some .int) {a1 : Int32} {a2 : Int32} {a3 : Int32} {μ : Mem} {r : Int32} (h : Pantry_bigBetween a1 a2 a3 μ = some r) : Vj p l e R s m args below meth c w 7 0 0 (MQ below (QI w r μ) args s 0 0 w.2.2.2) 0 [some (.ref (wad w 7 0)), some (.int a1), some (.int a2), some (.int a3), none, none, none] [] μ := by
  unfold Pantry_bigBetween at h
  refine V_aload_n (i := 0) G eX7_bigBetween_0 rfl rfl ?_
  refine V_get (v := .ref (wad w 10806 0)) G fgX7_32 rfl eX7_bigBetween_1 ?_
  refine V_iload_n (i := 1) G eX7_bigBetween_4 rfl rfl ?_
  refine V_aaldI (id := 806) G al_10806 eX7_bigBetween_5 h (fun r1 hr1 h => ?_)
  refine V_iload_n (i := 2) G eX7_bigBetween_6 rfl rfl ?_
  refine V_iconst (n := 1) (v := (nI 1)) G eX7_bigBetween_7 rfl ?_
  refine V_isub G eX7_bigBetween_8 ?_
  refine V_iald G al_806 hr1 eX7_bigBetween_9 h (fun x2 h => ?_)
  refine V_istoreA (i := 4) (L' := [some (.ref (wad w 7 0)), some (.int a1), some (.int a2), some (.int a3), some (.int x2), none, none]) G eX7_bigBetween_10 (by decide) rfl rfl ?_
  refine V_iload_n (i := 3) G eX7_bigBetween_12 rfl rfl ?_
  refine V_aload_n (i := 0) G eX7_bigBetween_13 rfl rfl ?_
  refine V_get (v := .ref (wad w 10805 0)) G fgX7_29 rfl eX7_bigBetween_14 ?_
  refine V_iload_n (i := 1) G eX7_bigBetween_17 rfl rfl ?_
  refine V_aaldI (id := 805) G al_10805 eX7_bigBetween_18 h (fun r3 hr3 h => ?_)
  refine V_iload_n (i := 2) G eX7_bigBetween_19 rfl rfl ?_
  refine V_iconst (n := 1) (v := (nI 1)) G eX7_bigBetween_20 rfl ?_
  refine V_isub G eX7_bigBetween_21 ?_
  refine V_iald G al_805 hr3 eX7_bigBetween_22 h (fun x4 h => ?_)
  refine V_isub G eX7_bigBetween_23 ?_
  refine V_istore (i := 5) (L' := (fun x5 => [some (.ref (wad w 7 0)), some (.int a1), some (.int a2), some (.int a3), some (.int x2), some (.int x5), none])) G eX7_bigBetween_24 (by decide) rfl (fun _ => rfl) h (fun x5 h => ?_)
  refine V_aload_n (i := 0) G eX7_bigBetween_26 rfl rfl ?_
  refine V_get (v := .ref (wad w 10805 0)) G fgX7_29 rfl eX7_bigBetween_27 ?_
  refine V_iload_n (i := 1) G eX7_bigBetween_30 rfl rfl ?_
  refine V_aaldI (id := 805) G al_10805 eX7_bigBetween_31 h (fun r6 hr6 h => ?_)
  refine V_iload_n (i := 2) G eX7_bigBetween_32 rfl rfl ?_
  refine V_iald G al_805 hr6 eX7_bigBetween_33 h (fun x7 h => ?_)
  refine V_aload_n (i := 0) G eX7_bigBetween_34 rfl rfl ?_
  refine V_get (v := .ref (wad w 10805 0)) G fgX7_29 rfl eX7_bigBetween_35 ?_
  refine V_iload_n (i := 1) G eX7_bigBetween_38 rfl rfl ?_
  refine V_aaldI (id := 805) G al_10805 eX7_bigBetween_39 h (fun r8 hr8 h => ?_)
  refine V_iload_n (i := 2) G eX7_bigBetween_40 rfl rfl ?_
  refine V_iconst (n := 1) (v := (nI 1)) G eX7_bigBetween_41 rfl ?_
  refine V_isub G eX7_bigBetween_42 ?_
  refine V_iald G al_805 hr8 eX7_bigBetween_43 h (fun x9 h => ?_)
  refine V_isub G eX7_bigBetween_44 ?_
  refine V_istore (i := 6) (L' := (fun x10 => [some (.ref (wad w 7 0)), some (.int a1), some (.int a2), some (.int a3), some (.int x2), some (.int x5), some (.int x10)])) G eX7_bigBetween_45 (by decide) rfl (fun _ => rfl) h (fun x10 h => ?_)
  refine V_iload G eX7_bigBetween_47 rfl ?_
  refine V_if_le G eX7_bigBetween_49 h (fun h => ?_) (fun h => ?_)
  · refine V_iload G eX7_bigBetween_75 rfl ?_
    exact V_ri G hr eX7_bigBetween_77 h
  · refine V_iload G eX7_bigBetween_52 rfl ?_
    refine V_aload_n (i := 0) G eX7_bigBetween_54 rfl rfl ?_
    refine V_get (v := .ref (wad w 10806 0)) G fgX7_32 rfl eX7_bigBetween_55 ?_
    refine V_iload_n (i := 1) G eX7_bigBetween_58 rfl rfl ?_
    refine V_aaldI (id := 806) G al_10806 eX7_bigBetween_59 h (fun r11 hr11 h => ?_)
    refine V_iload_n (i := 2) G eX7_bigBetween_60 rfl rfl ?_
    refine V_iald G al_806 hr11 eX7_bigBetween_61 h (fun x12 h => ?_)
    refine V_iload G eX7_bigBetween_62 rfl ?_
    refine V_isub G eX7_bigBetween_64 ?_
    refine V_iload G eX7_bigBetween_65 rfl ?_
    refine V_imul G eX7_bigBetween_67 ?_
    refine V_iload G eX7_bigBetween_68 rfl ?_
    refine V_idiv G eX7_bigBetween_70 h (fun x13 h => ?_)
    refine V_iadd G eX7_bigBetween_71 ?_
    refine V_goto G eX7_bigBetween_72 ?_
    exact V_ri G hr eX7_bigBetween_77 h
theorem Pantry_bigBetween_ok {l : Launch} {w : Wld} {a1 : Int32} {a2 : Int32} {a3 : Int32} {μ : Mem} {r : Int32} (h : Pantry_bigBetween a1 a2 a3 μ = some r) : CtI l w yX7_bigBetween cX7_bigBetween 7 .int 1 [.ref (wad w 7 0), .int a1, .int a2, .int a3] μ r μ :=
  Ct_of (own := "PotBook$Pantry") [some (.ref (wad w 7 0)), some (.int a1), some (.int a2), some (.int a3), none, none, none] (by decide +kernel) rfl rfl (Nat.le_of_ble_eq_true rfl) fun p e s m args below meth c G hr => Pantry_bigBetween_run G hr h
set_option maxRecDepth 100000 in
set_option maxHeartbeats 4000000 in
theorem Pantry_bigIn_l1_ok {p : Program} {l : Launch} {e : Env} {R : Room} {s : State} {m : MethodId} {args : Array Value} {below : List Frame} {meth : Method} {c : Code} {w : Wld} (G : Cxt p R s m args meth c w cX7_bigIn 5 "PotBook$Pantry" 2 0 0) (hr : meth.sig.returnType = some .int) {v1 : Int32} {v2 : Int32} {v3 : Int32} {μ : Mem} {r : Int32} : ∀ {n : Nat} {v4 : Int32}, Pantry_bigIn_l1 v1 v2 v3 μ n v4 = some r → Vj p l e R s m args below meth c w 5 0 0 (MQ below (QI w r μ) args s 0 0 w.2.2.2) 38 [some (.ref (wad w 7 0)), some (.int v1), some (.int v2), some (.int v3), some (.int v4)] [] μ := by
  intro n
  induction n with
  | zero => intro v4 h; exact noS h
  | succ n ih =>
    intro v4 h
    replace h : Pantry_bigIn_l1b v1 v2 v3 μ (Pantry_bigIn_l1 v1 v2 v3 μ n) v4 = some r := h
    unfold Pantry_bigIn_l1b at h
    refine V_iload G eX7_bigIn_38 rfl ?_
    refine V_iload_n (i := 3) G eX7_bigIn_40 rfl rfl ?_
    refine V_icmp_ge G eX7_bigIn_41 h (fun h => ?_) (fun h => ?_)
    · refine V_aload_n (i := 0) G eX7_bigIn_72 rfl rfl ?_
      refine V_get (v := .ref (wad w 10806 0)) G fgX7_32 rfl eX7_bigIn_73 ?_
      refine V_iload_n (i := 1) G eX7_bigIn_76 rfl rfl ?_
      refine V_aaldI (id := 806) G al_10806 eX7_bigIn_77 h (fun r1 hr1 h => ?_)
      refine V_iload_n (i := 3) G eX7_bigIn_78 rfl rfl ?_
      refine V_iconst (n := 1) (v := (nI 1)) G eX7_bigIn_79 rfl ?_
      refine V_isub G eX7_bigIn_80 ?_
      refine V_iald G al_806 hr1 eX7_bigIn_81 h (fun x2 h => ?_)
      exact V_ri G hr eX7_bigIn_82 h
    · refine V_iload_n (i := 2) G eX7_bigIn_44 rfl rfl ?_
      refine V_aload_n (i := 0) G eX7_bigIn_45 rfl rfl ?_
      refine V_get (v := .ref (wad w 10805 0)) G fgX7_29 rfl eX7_bigIn_46 ?_
      refine V_iload_n (i := 1) G eX7_bigIn_49 rfl rfl ?_
      refine V_aaldI (id := 805) G al_10805 eX7_bigIn_50 h (fun r3 hr3 h => ?_)
      refine V_iload G eX7_bigIn_51 rfl ?_
      refine V_iald G al_805 hr3 eX7_bigIn_53 h (fun x4 h => ?_)
      refine V_icmp_gt G eX7_bigIn_54 h (fun h => ?_) (fun h => ?_)
      · refine V_iinc (z := (nI 1)) (L' := (fun x5 => [some (.ref (wad w 7 0)), some (.int v1), some (.int v2), some (.int v3), some (.int x5)])) G eX7_bigIn_66 rfl rfl (by decide) rfl (fun _ => rfl) h (fun x5 h => ?_)
        refine V_goto G eX7_bigIn_69 ?_
        exact (ih h)
      · refine V_aload_n (i := 0) G eX7_bigIn_57 rfl rfl ?_
        refine V_iload_n (i := 1) G eX7_bigIn_58 rfl rfl ?_
        refine V_iload G eX7_bigIn_59 rfl ?_
        refine V_iload_n (i := 2) G eX7_bigIn_61 rfl rfl ?_
        obtain ⟨x6, h1, h⟩ := bdS h
        refine V_callI (As := [.int v1, .int v4, .int v2]) (st := []) G lkX7_39 (Pantry_bigBetween_ok h1) (by decide) rfl rfl (Nat.le_of_ble_eq_true rfl) eX7_bigIn_62 ?_
        exact V_ri G hr eX7_bigIn_65 h
set_option maxRecDepth 100000 in
set_option maxHeartbeats 4000000 in
theorem Pantry_bigIn_run {p : Program} {l : Launch} {e : Env} {R : Room} {s : State} {m : MethodId} {args : Array Value} {below : List Frame} {meth : Method} {c : Code} {w : Wld} (G : Cxt p R s m args meth c w cX7_bigIn 5 "PotBook$Pantry" 2 0 0) (hr : meth.sig.returnType = some .int) {a1 : Int32} {a2 : Int32} {μ : Mem} {r : Int32} (h : Pantry_bigIn a1 a2 μ = some r) : Vj p l e R s m args below meth c w 5 0 0 (MQ below (QI w r μ) args s 0 0 w.2.2.2) 0 [some (.ref (wad w 7 0)), some (.int a1), some (.int a2), none, none] [] μ := by
  unfold Pantry_bigIn at h
  refine V_aload_n (i := 0) G eX7_bigIn_0 rfl rfl ?_
  refine V_get (v := .ref (wad w 804 0)) G fgX7_24 rfl eX7_bigIn_1 ?_
  refine V_iload_n (i := 1) G eX7_bigIn_4 rfl rfl ?_
  refine V_iald G al_804 (by decide) eX7_bigIn_5 h (fun x1 h => ?_)
  refine V_istoreA_n (i := 3) (L' := [some (.ref (wad w 7 0)), some (.int a1), some (.int a2), some (.int x1), none]) G rfl eX7_bigIn_6 (by decide) rfl rfl ?_
  refine V_iload_n (i := 3) G eX7_bigIn_7 rfl rfl ?_
  refine V_if_ne G eX7_bigIn_8 h (fun h => ?_) (fun h => ?_)
  · refine V_iload_n (i := 2) G eX7_bigIn_14 rfl rfl ?_
    refine V_aload_n (i := 0) G eX7_bigIn_15 rfl rfl ?_
    refine V_get (v := .ref (wad w 10805 0)) G fgX7_29 rfl eX7_bigIn_16 ?_
    refine V_iload_n (i := 1) G eX7_bigIn_19 rfl rfl ?_
    refine V_aaldI (id := 805) G al_10805 eX7_bigIn_20 h (fun r2 hr2 h => ?_)
    refine V_iconst (n := 0) (v := (nI 0)) G eX7_bigIn_21 rfl ?_
    refine V_iald G al_805 hr2 eX7_bigIn_22 h (fun x3 h => ?_)
    refine V_icmp_gt G eX7_bigIn_23 h (fun h => ?_) (fun h => ?_)
    · refine V_iconst (n := 1) (v := (nI 1)) G eX7_bigIn_35 rfl ?_
      refine V_istoreA (i := 4) (L' := [some (.ref (wad w 7 0)), some (.int a1), some (.int a2), some (.int x1), some (.int (nI 1))]) G eX7_bigIn_36 (by decide) rfl rfl ?_
      exact Pantry_bigIn_l1_ok G hr h
    · refine V_aload_n (i := 0) G eX7_bigIn_26 rfl rfl ?_
      refine V_get (v := .ref (wad w 10806 0)) G fgX7_32 rfl eX7_bigIn_27 ?_
      refine V_iload_n (i := 1) G eX7_bigIn_30 rfl rfl ?_
      refine V_aaldI (id := 806) G al_10806 eX7_bigIn_31 h (fun r4 hr4 h => ?_)
      refine V_iconst (n := 0) (v := (nI 0)) G eX7_bigIn_32 rfl ?_
      refine V_iald G al_806 hr4 eX7_bigIn_33 h (fun x5 h => ?_)
      exact V_ri G hr eX7_bigIn_34 h
  · refine V_bipush (n := 10) (v := (nI 10)) G eX7_bigIn_11 rfl ?_
    exact V_ri G hr eX7_bigIn_13 h
theorem Pantry_bigIn_ok {l : Launch} {w : Wld} {a1 : Int32} {a2 : Int32} {μ : Mem} {r : Int32} (h : Pantry_bigIn a1 a2 μ = some r) : CtI l w yX7_bigIn cX7_bigIn 5 .int 2 [.ref (wad w 7 0), .int a1, .int a2] μ r μ :=
  Ct_of (own := "PotBook$Pantry") [some (.ref (wad w 7 0)), some (.int a1), some (.int a2), none, none] (by decide +kernel) rfl rfl (Nat.le_of_ble_eq_true rfl) fun p e s m args below meth c G hr => Pantry_bigIn_run G hr h
set_option maxRecDepth 100000 in
set_option maxHeartbeats 4000000 in
theorem B_size_run {p : Program} {l : Launch} {e : Env} {R : Room} {s : State} {m : MethodId} {args : Array Value} {below : List Frame} {meth : Method} {c : Code} {w : Wld} (G : Cxt p R s m args meth c w cX11_size 3 "PotBook" 3 0 0) (hr : meth.sig.returnType = some .int) {a1 : Int32} {a2 : Int32} {μ : Mem} {r : Int32} (h : B_size a1 a2 μ = some r) : Vj p l e R s m args below meth c w 3 0 0 (MQ below (QI w r μ) args s 0 0 w.2.2.2) 0 [some (.ref (wad w 11 0)), some (.int a1), some (.int a2)] [] μ := by
  unfold B_size at h
  refine V_aload_n (i := 0) G eX11_size_0 rfl rfl ?_
  refine V_get (v := .ref (wad w 7 0)) G fgX11_19 rfl eX11_size_1 ?_
  refine V_iload_n (i := 1) G eX11_size_4 rfl rfl ?_
  obtain ⟨x1, h1, h⟩ := bdS h
  refine V_callI (As := [.int a1]) (st := []) G lkX11_142 (Pantry_has_ok h1) (by decide) rfl rfl (Nat.le_of_ble_eq_true rfl) eX11_size_5 ?_
  refine V_if_eq G eX11_size_8 h (fun h => ?_) (fun h => ?_)
  · refine V_iconst (n := -1) (v := (-1)) G eX11_size_30 rfl ?_
    exact V_ri G hr eX11_size_31 h
  · refine V_iload_n (i := 2) G eX11_size_11 rfl rfl ?_
    obtain ⟨x2, h1, h⟩ := bdS h
    refine V_callIS (As := [.int a2]) (st := []) G lkX11_146 (B_isYear_ok (μ := μ) h1) (by decide) rfl rfl (Nat.le_of_ble_eq_true rfl) eX11_size_12 ?_
    refine V_if_eq G eX11_size_15 h (fun h => ?_) (fun h => ?_)
    · refine V_iconst (n := -1) (v := (-1)) G eX11_size_30 rfl ?_
      exact V_ri G hr eX11_size_31 h
    · refine V_aload_n (i := 0) G eX11_size_18 rfl rfl ?_
      refine V_get (v := .ref (wad w 7 0)) G fgX11_19 rfl eX11_size_19 ?_
      refine V_iload_n (i := 1) G eX11_size_22 rfl rfl ?_
      refine V_iload_n (i := 2) G eX11_size_23 rfl rfl ?_
      obtain ⟨x3, h1, h⟩ := bdS h
      refine V_callI (As := [.int a1, .int a2]) (st := []) G lkX11_153 (Pantry_bigIn_ok h1) (by decide) rfl rfl (Nat.le_of_ble_eq_true rfl) eX11_size_24 ?_
      refine V_goto G eX11_size_27 ?_
      exact V_ri G hr eX11_size_31 h
theorem B_size_ok {l : Launch} {w : Wld} {a1 : Int32} {a2 : Int32} {μ : Mem} {r : Int32} (h : B_size a1 a2 μ = some r) : CtI l w yX11_size cX11_size 3 .int 3 [.ref (wad w 11 0), .int a1, .int a2] μ r μ :=
  Ct_of (own := "PotBook") [some (.ref (wad w 11 0)), some (.int a1), some (.int a2)] (by decide +kernel) rfl rfl (Nat.le_of_ble_eq_true rfl) fun p e s m args below meth c G hr => B_size_run G hr h
set_option maxRecDepth 100000 in
set_option maxHeartbeats 4000000 in
theorem Pot_tellMost_run {p : Program} {l : Launch} {e : Env} {R : Room} {s : State} {m : MethodId} {args : Array Value} {below : List Frame} {meth : Method} {c : Code} {w : Wld} (G : Cxt p R s m args meth c w cX8_tellMost 2 "PotBook$Pot" 1 0 0) (hr : meth.sig.returnType = none) {a1 : Int32} {μ : Mem} {μ' : Mem} (h : Pot_tellMost a1 μ = some μ') : Vj p l e R s m args below meth c w 2 0 0 (MQ below (QV w μ') args s 0 0 w.2.2.2) 0 [some (.ref (wad w 8 0)), some (.int a1)] [] μ := by
  unfold Pot_tellMost at h
  refine V_aload_n (i := 0) G eX8_tellMost_0 rfl rfl ?_
  refine V_iload_n (i := 1) G eX8_tellMost_1 rfl rfl ?_
  refine V_put G fgX8_9 fp_8_3 eX8_tellMost_2 h (fun μ1 h => ?_)
  refine V_aload_n (i := 0) G eX8_tellMost_5 rfl rfl ?_
  refine V_dup G eX8_tellMost_6 rfl ?_
  refine V_get (v := .int (mI μ1 908 0 0)) G fgX8_69 rfl eX8_tellMost_7 ?_
  refine V_iconst (n := 1) (v := (nI 1)) G eX8_tellMost_10 rfl ?_
  refine V_iadd G eX8_tellMost_11 ?_
  refine V_put G fgX8_69 fp_8_8 eX8_tellMost_12 h (fun μ2 h => ?_)
  exact V_rvM G hr eX8_tellMost_15 h
theorem Pot_tellMost_ok {l : Launch} {w : Wld} {a1 : Int32} {μ : Mem} {μ' : Mem} (h : Pot_tellMost a1 μ = some μ') : CtV l w yX8_tellMost cX8_tellMost 2 1 [.ref (wad w 8 0), .int a1] μ μ' :=
  Ct_of (own := "PotBook$Pot") [some (.ref (wad w 8 0)), some (.int a1)] (by decide +kernel) rfl rfl (Nat.le_of_ble_eq_true rfl) fun p e s m args below meth c G hr => Pot_tellMost_run G hr h
set_option maxRecDepth 100000 in
set_option maxHeartbeats 4000000 in
theorem B_most_run {p : Program} {l : Launch} {e : Env} {R : Room} {s : State} {m : MethodId} {args : Array Value} {below : List Frame} {meth : Method} {c : Code} {w : Wld} (G : Cxt p R s m args meth c w cX11_most 2 "PotBook" 2 0 0) (hr : meth.sig.returnType = some .boolean) {a1 : Int32} {μ : Mem} {r : Int32} {μ' : Mem} (h : B_most a1 μ = some (r, μ')) : Vj p l e R s m args below meth c w 2 0 0 (MQ below (QI w r μ') args s 0 0 w.2.2.2) 0 [some (.ref (wad w 11 0)), some (.int a1)] [] μ := by
  unfold B_most at h
  refine V_iload_n (i := 1) G eX11_most_0 rfl rfl ?_
  refine V_iconst (n := 1) (v := (nI 1)) G eX11_most_1 rfl ?_
  refine V_bipush (n := 20) (v := (nI 20)) G eX11_most_2 rfl ?_
  obtain ⟨x1, h1, h⟩ := bdS h
  refine V_callIS (As := [.int a1, .int (nI 1), .int (nI 20)]) (st := []) G lkX11_127 (B_isWithin_ok (μ := μ) h1) (by decide) rfl rfl (Nat.le_of_ble_eq_true rfl) eX11_most_4 ?_
  refine V_if_ne G eX11_most_7 h (fun h => ?_) (fun h => ?_)
  · refine V_aload_n (i := 0) G eX11_most_12 rfl rfl ?_
    refine V_get (v := .ref (wad w 8 0)) G fgX11_53 rfl eX11_most_13 ?_
    refine V_iload_n (i := 1) G eX11_most_16 rfl rfl ?_
    obtain ⟨μ2, h1, h⟩ := bdS h
    refine V_callV (As := [.int a1]) (st := []) G lkX11_177 (Pot_tellMost_ok h1) (by decide) rfl rfl (Nat.le_of_ble_eq_true rfl) eX11_most_17 ?_
    refine V_iconst (n := 1) (v := (nI 1)) G eX11_most_20 rfl ?_
    exact V_rzM G hr eX11_most_21 h
  · refine V_iconst (n := 0) (v := (nI 0)) G eX11_most_10 rfl ?_
    exact V_rzM G hr eX11_most_11 h
theorem B_most_ok {l : Launch} {w : Wld} {a1 : Int32} {μ : Mem} {r : Int32} {μ' : Mem} (h : B_most a1 μ = some (r, μ')) : CtI l w yX11_most cX11_most 2 .boolean 2 [.ref (wad w 11 0), .int a1] μ r μ' :=
  Ct_of (own := "PotBook") [some (.ref (wad w 11 0)), some (.int a1)] (by decide +kernel) rfl rfl (Nat.le_of_ble_eq_true rfl) fun p e s m args below meth c G hr => B_most_run G hr h
set_option maxRecDepth 100000 in
set_option maxHeartbeats 4000000 in
theorem Pages_has_run {p : Program} {l : Launch} {e : Env} {R : Room} {s : State} {m : MethodId} {args : Array Value} {below : List Frame} {meth : Method} {c : Code} {w : Wld} (G : Cxt p R s m args meth c w cX6_has 2 "PotBook$Pages" 1 0 0) (hr : meth.sig.returnType = some .boolean) {a1 : Int32} {μ : Mem} {r : Int32} (h : Pages_has a1 μ = some r) : Vj p l e R s m args below meth c w 2 0 0 (MQ below (QI w r μ) args s 0 0 w.2.2.2) 0 [some (.ref (wad w 6 0)), some (.int a1)] [] μ := by
  unfold Pages_has at h
  refine V_iload_n (i := 1) G eX6_has_0 rfl rfl ?_
  refine V_if_lt G eX6_has_1 h (fun h => ?_) (fun h => ?_)
  · refine V_iconst (n := 0) (v := (nI 0)) G eX6_has_16 rfl ?_
    exact V_rz G hr eX6_has_17 h
  · refine V_iload_n (i := 1) G eX6_has_4 rfl rfl ?_
    refine V_aload_n (i := 0) G eX6_has_5 rfl rfl ?_
    refine V_get (v := .int (mI μ 712 0 0)) G fgX6_52 rfl eX6_has_6 ?_
    refine V_icmp_ge G eX6_has_9 h (fun h => ?_) (fun h => ?_)
    · refine V_iconst (n := 0) (v := (nI 0)) G eX6_has_16 rfl ?_
      exact V_rz G hr eX6_has_17 h
    · refine V_iconst (n := 1) (v := (nI 1)) G eX6_has_12 rfl ?_
      refine V_goto G eX6_has_13 ?_
      exact V_rz G hr eX6_has_17 h
theorem Pages_has_ok {l : Launch} {w : Wld} {a1 : Int32} {μ : Mem} {r : Int32} (h : Pages_has a1 μ = some r) : CtI l w yX6_has cX6_has 2 .boolean 1 [.ref (wad w 6 0), .int a1] μ r μ :=
  Ct_of (own := "PotBook$Pages") [some (.ref (wad w 6 0)), some (.int a1)] (by decide +kernel) rfl rfl (Nat.le_of_ble_eq_true rfl) fun p e s m args below meth c G hr => Pages_has_run G hr h
set_option maxRecDepth 100000 in
set_option maxHeartbeats 4000000 in
theorem Laws_has_run {p : Program} {l : Launch} {e : Env} {R : Room} {s : State} {m : MethodId} {args : Array Value} {below : List Frame} {meth : Method} {c : Code} {w : Wld} (G : Cxt p R s m args meth c w cX4_has 2 "PotBook$Laws" 1 0 0) (hr : meth.sig.returnType = some .boolean) {a1 : Int32} {μ : Mem} {r : Int32} (h : Laws_has a1 μ = some r) : Vj p l e R s m args below meth c w 2 0 0 (MQ below (QI w r μ) args s 0 0 w.2.2.2) 0 [some (.ref (wad w 4 0)), some (.int a1)] [] μ := by
  unfold Laws_has at h
  refine V_iload_n (i := 1) G eX4_has_0 rfl rfl ?_
  refine V_if_lt G eX4_has_1 h (fun h => ?_) (fun h => ?_)
  · refine V_iconst (n := 0) (v := (nI 0)) G eX4_has_16 rfl ?_
    exact V_rz G hr eX4_has_17 h
  · refine V_iload_n (i := 1) G eX4_has_4 rfl rfl ?_
    refine V_aload_n (i := 0) G eX4_has_5 rfl rfl ?_
    refine V_get (v := .int (mI μ 504 0 0)) G fgX4_33 rfl eX4_has_6 ?_
    refine V_icmp_ge G eX4_has_9 h (fun h => ?_) (fun h => ?_)
    · refine V_iconst (n := 0) (v := (nI 0)) G eX4_has_16 rfl ?_
      exact V_rz G hr eX4_has_17 h
    · refine V_iconst (n := 1) (v := (nI 1)) G eX4_has_12 rfl ?_
      refine V_goto G eX4_has_13 ?_
      exact V_rz G hr eX4_has_17 h
theorem Laws_has_ok {l : Launch} {w : Wld} {a1 : Int32} {μ : Mem} {r : Int32} (h : Laws_has a1 μ = some r) : CtI l w yX4_has cX4_has 2 .boolean 1 [.ref (wad w 4 0), .int a1] μ r μ :=
  Ct_of (own := "PotBook$Laws") [some (.ref (wad w 4 0)), some (.int a1)] (by decide +kernel) rfl rfl (Nat.le_of_ble_eq_true rfl) fun p e s m args below meth c G hr => Laws_has_run G hr h
set_option maxRecDepth 100000 in
set_option maxHeartbeats 4000000 in
theorem Pot_tellHold_run {p : Program} {l : Launch} {e : Env} {R : Room} {s : State} {m : MethodId} {args : Array Value} {below : List Frame} {meth : Method} {c : Code} {w : Wld} (G : Cxt p R s m args meth c w cX8_tellHold 6 "PotBook$Pot" 2 0 0) (hr : meth.sig.returnType = some .int) {a1 : Int32} {a2 : Int32} {a3 : Int32} {a4 : Int32} {μ : Mem} {r : Int32} {μ' : Mem} (h : Pot_tellHold a1 a2 a3 a4 μ = some (r, μ')) : Vj p l e R s m args below meth c w 6 0 0 (MQ below (QI w r μ') args s 0 0 w.2.2.2) 0 [some (.ref (wad w 8 0)), some (.int a1), some (.int a2), some (.int a3), some (.int a4), none] [] μ := by
  unfold Pot_tellHold at h
  refine V_aload_n (i := 0) G eX8_tellHold_0 rfl rfl ?_
  refine V_get (v := .int (mI μ 904 0 0)) G fgX8_72 rfl eX8_tellHold_1 ?_
  refine V_bipush (n := 20) (v := (nI 20)) G eX8_tellHold_4 rfl ?_
  refine V_icmp_lt G eX8_tellHold_6 h (fun h => ?_) (fun h => ?_)
  · refine V_aload_n (i := 0) G eX8_tellHold_11 rfl rfl ?_
    refine V_get (v := .ref (wad w 905 0)) G fgX8_15 rfl eX8_tellHold_12 ?_
    refine V_iload_n (i := 1) G eX8_tellHold_15 rfl rfl ?_
    refine V_iald G al_905 (by decide) eX8_tellHold_16 h (fun x1 h => ?_)
    refine V_iload_n (i := 2) G eX8_tellHold_17 rfl rfl ?_
    obtain ⟨x2, h1, h⟩ := bdS h
    refine V_callIS (As := [.int x1, .int a2]) (st := []) G lkX8_75 (B_holdsBit_ok (μ := μ) h1) (by decide) rfl rfl (Nat.le_of_ble_eq_true rfl) eX8_tellHold_18 ?_
    obtain ⟨x3, hj, h⟩ := bdS h
    have J : Vj p l e R s m args below meth c w 6 0 0 (MQ below (QI w r μ') args s 0 0 w.2.2.2) 29 [some (.ref (wad w 8 0)), some (.int a1), some (.int a2), some (.int a3), some (.int a4), none] [.int x3] μ := by
      clear hj
      refine V_istoreA (i := 5) (L' := [some (.ref (wad w 8 0)), some (.int a1), some (.int a2), some (.int a3), some (.int a4), some (.int x3)]) G eX8_tellHold_29 (by decide) rfl rfl ?_
      refine V_aload_n (i := 0) G eX8_tellHold_31 rfl rfl ?_
      refine V_get (v := .ref (wad w 10906 0)) G fgX8_21 rfl eX8_tellHold_32 ?_
      refine V_iload_n (i := 1) G eX8_tellHold_35 rfl rfl ?_
      refine V_aaldI (id := 906) G al_10906 eX8_tellHold_36 h (fun r4 hr4 h => ?_)
      refine V_iload_n (i := 2) G eX8_tellHold_37 rfl rfl ?_
      refine V_iload G eX8_tellHold_38 rfl ?_
      obtain ⟨x7, hj, h⟩ := bdS h
      have J : Vj p l e R s m args below meth c w 6 0 0 (MQ below (QI w r μ') args s 0 0 w.2.2.2) 59 [some (.ref (wad w 8 0)), some (.int a1), some (.int a2), none, some (.int a4), some (.int x3)] [.int x7, .int a2, .ref (wad w 906 r4)] μ := by
        clear hj
        refine V_iast G al_906 hr4 eX8_tellHold_59 h (fun μ8 h => ?_)
        refine V_aload_n (i := 0) G eX8_tellHold_60 rfl rfl ?_
        refine V_get (v := .ref (wad w 10907 0)) G fgX8_24 rfl eX8_tellHold_61 ?_
        refine V_iload_n (i := 1) G eX8_tellHold_64 rfl rfl ?_
        refine V_aaldI (id := 907) G al_10907 eX8_tellHold_65 h (fun r9 hr9 h => ?_)
        refine V_iload_n (i := 2) G eX8_tellHold_66 rfl rfl ?_
        refine V_iload G eX8_tellHold_67 rfl ?_
        obtain ⟨x12, hj, h⟩ := bdS h
        have J : Vj p l e R s m args below meth c w 6 0 0 (MQ below (QI w r μ') args s 0 0 w.2.2.2) 90 [some (.ref (wad w 8 0)), some (.int a1), some (.int a2), none, none, none] [.int x12, .int a2, .ref (wad w 907 r9)] μ8 := by
          clear hj
          refine V_iast G al_907 hr9 eX8_tellHold_90 h (fun μ13 h => ?_)
          refine V_aload_n (i := 0) G eX8_tellHold_91 rfl rfl ?_
          refine V_get (v := .ref (wad w 905 0)) G fgX8_15 rfl eX8_tellHold_92 ?_
          refine V_iload_n (i := 1) G eX8_tellHold_95 rfl rfl ?_
          refine V_dup2_11 G eX8_tellHold_96 rfl rfl ?_
          refine V_iald G al_905 (by decide) eX8_tellHold_97 h (fun x14 h => ?_)
          refine V_iconst (n := 1) (v := (nI 1)) G eX8_tellHold_98 rfl ?_
          refine V_iload_n (i := 2) G eX8_tellHold_99 rfl rfl ?_
          refine V_ishl G eX8_tellHold_100 ?_
          refine V_ior G eX8_tellHold_101 ?_
          refine V_iast G al_905 (by decide) eX8_tellHold_102 h (fun μ15 h => ?_)
          refine V_aload_n (i := 0) G eX8_tellHold_103 rfl rfl ?_
          refine V_dup G eX8_tellHold_104 rfl ?_
          refine V_get (v := .int (mI μ15 904 0 0)) G fgX8_72 rfl eX8_tellHold_105 ?_
          refine V_iconst (n := 1) (v := (nI 1)) G eX8_tellHold_108 rfl ?_
          refine V_iadd G eX8_tellHold_109 ?_
          refine V_put G fgX8_72 fp_8_4 eX8_tellHold_110 h (fun μ16 h => ?_)
          refine V_aload_n (i := 0) G eX8_tellHold_113 rfl rfl ?_
          refine V_dup G eX8_tellHold_114 rfl ?_
          refine V_get (v := .int (mI μ16 908 0 0)) G fgX8_69 rfl eX8_tellHold_115 ?_
          refine V_iconst (n := 1) (v := (nI 1)) G eX8_tellHold_118 rfl ?_
          refine V_iadd G eX8_tellHold_119 ?_
          refine V_put G fgX8_69 fp_8_8 eX8_tellHold_120 h (fun μ17 h => ?_)
          refine V_aload_n (i := 0) G eX8_tellHold_123 rfl rfl ?_
          refine V_get (v := .int (mI μ17 904 0 0)) G fgX8_72 rfl eX8_tellHold_124 ?_
          exact V_riM G hr eX8_tellHold_127 h
        replace h := hj
        clear hj
        refine V_if_eq G eX8_tellHold_69 h (fun h => ?_) (fun h => ?_)
        · refine V_aload_n (i := 0) G eX8_tellHold_77 rfl rfl ?_
          refine V_get (v := .ref (wad w 10907 0)) G fgX8_24 rfl eX8_tellHold_78 ?_
          refine V_iload_n (i := 1) G eX8_tellHold_81 rfl rfl ?_
          refine V_aaldI (id := 907) G al_10907 eX8_tellHold_82 h (fun r10 hr10 h => ?_)
          refine V_iload_n (i := 2) G eX8_tellHold_83 rfl rfl ?_
          refine V_iald G al_907 hr10 eX8_tellHold_84 h (fun x11 h => ?_)
          refine V_iload G eX8_tellHold_85 rfl ?_
          refine V_jMin G mkX8_85 (by decide) (Nat.le_of_ble_eq_true rfl) eX8_tellHold_87 ?_
          cases h; exact V_sub (lS_s (lS_s (lS_s (lS_n (lS_n (lS_n lS_0)))))) J
        · refine V_iload G eX8_tellHold_72 rfl ?_
          refine V_goto G eX8_tellHold_74 ?_
          cases h; exact V_sub (lS_s (lS_s (lS_s (lS_n (lS_n (lS_n lS_0)))))) J
      replace h := hj
      clear hj
      refine V_if_eq G eX8_tellHold_40 h (fun h => ?_) (fun h => ?_)
      · refine V_aload_n (i := 0) G eX8_tellHold_47 rfl rfl ?_
        refine V_get (v := .ref (wad w 10906 0)) G fgX8_21 rfl eX8_tellHold_48 ?_
        refine V_iload_n (i := 1) G eX8_tellHold_51 rfl rfl ?_
        refine V_aaldI (id := 906) G al_10906 eX8_tellHold_52 h (fun r5 hr5 h => ?_)
        refine V_iload_n (i := 2) G eX8_tellHold_53 rfl rfl ?_
        refine V_iald G al_906 hr5 eX8_tellHold_54 h (fun x6 h => ?_)
        refine V_iload_n (i := 3) G eX8_tellHold_55 rfl rfl ?_
        refine V_jMax G mkX8_79 (by decide) (Nat.le_of_ble_eq_true rfl) eX8_tellHold_56 ?_
        cases h; exact V_sub (lS_s (lS_s (lS_s (lS_n (lS_s (lS_s lS_0)))))) J
      · refine V_iload_n (i := 3) G eX8_tellHold_43 rfl rfl ?_
        refine V_goto G eX8_tellHold_44 ?_
        cases h; exact V_sub (lS_s (lS_s (lS_s (lS_n (lS_s (lS_s lS_0)))))) J
    replace h := hj
    clear hj
    refine V_if_ne G eX8_tellHold_21 h (fun h => ?_) (fun h => ?_)
    · refine V_iconst (n := 0) (v := (nI 0)) G eX8_tellHold_28 rfl ?_
      cases h; exact J
    · refine V_iconst (n := 1) (v := (nI 1)) G eX8_tellHold_24 rfl ?_
      refine V_goto G eX8_tellHold_25 ?_
      cases h; exact J
  · refine V_iconst (n := -1) (v := (-1)) G eX8_tellHold_9 rfl ?_
    exact V_riM G hr eX8_tellHold_10 h
theorem Pot_tellHold_ok {l : Launch} {w : Wld} {a1 : Int32} {a2 : Int32} {a3 : Int32} {a4 : Int32} {μ : Mem} {r : Int32} {μ' : Mem} (h : Pot_tellHold a1 a2 a3 a4 μ = some (r, μ')) : CtI l w yX8_tellHold cX8_tellHold 6 .int 2 [.ref (wad w 8 0), .int a1, .int a2, .int a3, .int a4] μ r μ' :=
  Ct_of (own := "PotBook$Pot") [some (.ref (wad w 8 0)), some (.int a1), some (.int a2), some (.int a3), some (.int a4), none] (by decide +kernel) rfl rfl (Nat.le_of_ble_eq_true rfl) fun p e s m args below meth c G hr => Pot_tellHold_run G hr h
set_option maxRecDepth 100000 in
set_option maxHeartbeats 4000000 in
theorem B_hold_run {p : Program} {l : Launch} {e : Env} {R : Room} {s : State} {m : MethodId} {args : Array Value} {below : List Frame} {meth : Method} {c : Code} {w : Wld} (G : Cxt p R s m args meth c w cX11_hold 5 "PotBook" 3 0 0) (hr : meth.sig.returnType = some .int) {a1 : Int32} {a2 : Int32} {a3 : Int32} {a4 : Int32} {μ : Mem} {r : Int32} {μ' : Mem} (h : B_hold a1 a2 a3 a4 μ = some (r, μ')) : Vj p l e R s m args below meth c w 5 0 0 (MQ below (QI w r μ') args s 0 0 w.2.2.2) 0 [some (.ref (wad w 11 0)), some (.int a1), some (.int a2), some (.int a3), some (.int a4)] [] μ := by
  unfold B_hold at h
  refine V_aload_n (i := 0) G eX11_hold_0 rfl rfl ?_
  refine V_get (v := .ref (wad w 6 0)) G fgX11_28 rfl eX11_hold_1 ?_
  refine V_iload_n (i := 1) G eX11_hold_4 rfl rfl ?_
  obtain ⟨x1, h1, h⟩ := bdS h
  refine V_callI (As := [.int a1]) (st := []) G lkX11_156 (Pages_has_ok h1) (by decide) rfl rfl (Nat.le_of_ble_eq_true rfl) eX11_hold_5 ?_
  refine V_if_eq G eX11_hold_8 h (fun h => ?_) (fun h => ?_)
  · refine V_iconst (n := -1) (v := (-1)) G eX11_hold_28 rfl ?_
    exact V_riM G hr eX11_hold_29 h
  · refine V_aload_n (i := 0) G eX11_hold_11 rfl rfl ?_
    refine V_get (v := .ref (wad w 4 0)) G fgX11_35 rfl eX11_hold_12 ?_
    refine V_iload_n (i := 2) G eX11_hold_15 rfl rfl ?_
    obtain ⟨x2, h1, h⟩ := bdS h
    refine V_callI (As := [.int a2]) (st := []) G lkX11_180 (Laws_has_ok h1) (by decide) rfl rfl (Nat.le_of_ble_eq_true rfl) eX11_hold_16 ?_
    refine V_if_eq G eX11_hold_19 h (fun h => ?_) (fun h => ?_)
    · refine V_iconst (n := -1) (v := (-1)) G eX11_hold_28 rfl ?_
      exact V_riM G hr eX11_hold_29 h
    · refine V_iload G eX11_hold_22 rfl ?_
      refine V_iload_n (i := 3) G eX11_hold_24 rfl rfl ?_
      refine V_icmp_ge G eX11_hold_25 h (fun h => ?_) (fun h => ?_)
      · refine V_iload_n (i := 3) G eX11_hold_30 rfl rfl ?_
        refine V_ldc (v := (-1000000)) G cnI_X11_181 eX11_hold_31 ?_
        refine V_ldc (v := (nI 1000000)) G cnI_X11_182 eX11_hold_33 ?_
        obtain ⟨x3, h1, h⟩ := bdS h
        refine V_callIS (As := [.int a3, .int (-1000000), .int (nI 1000000)]) (st := []) G lkX11_127 (B_isWithin_ok (μ := μ) h1) (by decide) rfl rfl (Nat.le_of_ble_eq_true rfl) eX11_hold_35 ?_
        refine V_if_eq G eX11_hold_38 h (fun h => ?_) (fun h => ?_)
        · refine V_iconst (n := -1) (v := (-1)) G eX11_hold_53 rfl ?_
          exact V_riM G hr eX11_hold_54 h
        · refine V_iload G eX11_hold_41 rfl ?_
          refine V_ldc (v := (-1000000)) G cnI_X11_181 eX11_hold_43 ?_
          refine V_ldc (v := (nI 1000000)) G cnI_X11_182 eX11_hold_45 ?_
          obtain ⟨x4, h1, h⟩ := bdS h
          refine V_callIS (As := [.int a4, .int (-1000000), .int (nI 1000000)]) (st := []) G lkX11_127 (B_isWithin_ok (μ := μ) h1) (by decide) rfl rfl (Nat.le_of_ble_eq_true rfl) eX11_hold_47 ?_
          refine V_if_ne G eX11_hold_50 h (fun h => ?_) (fun h => ?_)
          · refine V_aload_n (i := 0) G eX11_hold_55 rfl rfl ?_
            refine V_get (v := .ref (wad w 8 0)) G fgX11_53 rfl eX11_hold_56 ?_
            refine V_iload_n (i := 1) G eX11_hold_59 rfl rfl ?_
            refine V_iload_n (i := 2) G eX11_hold_60 rfl rfl ?_
            refine V_iload_n (i := 3) G eX11_hold_61 rfl rfl ?_
            refine V_iload G eX11_hold_62 rfl ?_
            obtain ⟨⟨x5, μ6⟩, h1, h⟩ := bdS h
            refine V_callI (As := [.int a1, .int a2, .int a3, .int a4]) (st := []) G lkX11_183 (Pot_tellHold_ok h1) (by decide) rfl rfl (Nat.le_of_ble_eq_true rfl) eX11_hold_64 ?_
            exact V_riM G hr eX11_hold_67 h
          · refine V_iconst (n := -1) (v := (-1)) G eX11_hold_53 rfl ?_
            exact V_riM G hr eX11_hold_54 h
      · refine V_iconst (n := -1) (v := (-1)) G eX11_hold_28 rfl ?_
        exact V_riM G hr eX11_hold_29 h
theorem B_hold_ok {l : Launch} {w : Wld} {a1 : Int32} {a2 : Int32} {a3 : Int32} {a4 : Int32} {μ : Mem} {r : Int32} {μ' : Mem} (h : B_hold a1 a2 a3 a4 μ = some (r, μ')) : CtI l w yX11_hold cX11_hold 5 .int 3 [.ref (wad w 11 0), .int a1, .int a2, .int a3, .int a4] μ r μ' :=
  Ct_of (own := "PotBook") [some (.ref (wad w 11 0)), some (.int a1), some (.int a2), some (.int a3), some (.int a4)] (by decide +kernel) rfl rfl (Nat.le_of_ble_eq_true rfl) fun p e s m args below meth c G hr => B_hold_run G hr h
set_option maxRecDepth 100000 in
set_option maxHeartbeats 4000000 in
theorem Pot_frame_l1_ok {p : Program} {l : Launch} {e : Env} {R : Room} {s : State} {m : MethodId} {args : Array Value} {below : List Frame} {meth : Method} {c : Code} {w : Wld} {Q : State → Prop} (G : Cxt p R s m args meth c w cX8_frame 5 "PotBook$Pot" 1 0 0) {v1 : Int32} {o1 : Int32} {μo : Mem} : ∀ {n : Nat} {v2 : Int32} {v3 : Int32} {μ : Mem}, Pot_frame_l1 v1 n v2 v3 μ = some (o1, μo) → Vj p l e R s m args below meth c w 5 0 0 Q 132 [some (.ref (wad w 8 0)), some (.int v1), some (.int o1), none, none] [] μo → Vj p l e R s m args below meth c w 5 0 0 Q 14 [some (.ref (wad w 8 0)), some (.int v1), some (.int v2), some (.int v3), none] [] μ := by
  intro n
  induction n with
  | zero => intro v2 v3 μ h K; exact noS h
  | succ n ih =>
    intro v2 v3 μ h K
    replace h : Pot_frame_l1b v1 (Pot_frame_l1 v1 n) v2 v3 μ = some (o1, μo) := h
    unfold Pot_frame_l1b at h
    refine V_iload_n (i := 3) G eX8_frame_14 rfl rfl ?_
    refine V_if_lt G eX8_frame_15 h (fun h => ?_) (fun h => ?_)
    · cases h; exact V_sub (lS_s (lS_s (lS_s (lS_n (lS_n lS_0))))) K
    · refine V_iload_n (i := 2) G eX8_frame_18 rfl rfl ?_
      refine V_sipush (n := 5000) (v := (nI 5000)) G eX8_frame_19 rfl ?_
      refine V_icmp_gt G eX8_frame_22 h (fun h => ?_) (fun h => ?_)
      · cases h; exact V_sub (lS_s (lS_s (lS_s (lS_n (lS_n lS_0))))) K
      · refine V_aload_n (i := 0) G eX8_frame_25 rfl rfl ?_
        refine V_get (v := .ref (wad w 6 0)) G fgX8_57 rfl eX8_frame_26 ?_
        refine V_get (v := .ref (wad w 10704 0)) G fgX8_115 rfl eX8_frame_29 ?_
        refine V_iload_n (i := 1) G eX8_frame_32 rfl rfl ?_
        refine V_aaldI (id := 704) G al_10704 eX8_frame_33 h (fun r1 hr1 h => ?_)
        refine V_iload_n (i := 3) G eX8_frame_34 rfl rfl ?_
        refine V_iald G al_704 hr1 eX8_frame_35 h (fun x2 h => ?_)
        obtain ⟨x3, hj, h⟩ := bdS h
        have J : Vj p l e R s m args below meth c w 5 0 0 Q 44 [some (.ref (wad w 8 0)), some (.int v1), some (.int v2), some (.int v3), none] [.int x3] μ := by
          clear hj
          refine V_istoreA (i := 4) (L' := [some (.ref (wad w 8 0)), some (.int v1), some (.int v2), some (.int v3), some (.int x3)]) G eX8_frame_44 (by decide) rfl rfl ?_
          refine V_aload_n (i := 0) G eX8_frame_46 rfl rfl ?_
          refine V_get (v := .ref (wad w 914 0)) G fgX8_42 rfl eX8_frame_47 ?_
          refine V_iload_n (i := 3) G eX8_frame_50 rfl rfl ?_
          refine V_iload G eX8_frame_51 rfl ?_
          obtain ⟨x6, hj, h⟩ := bdS h
          have J : Vj p l e R s m args below meth c w 5 0 0 Q 71 [some (.ref (wad w 8 0)), some (.int v1), some (.int v2), some (.int v3), some (.int x3)] [.int x6, .int v3, .ref (wad w 914 0)] μ := by
            clear hj
            refine V_iast G al_914 (by decide) eX8_frame_71 h (fun μ7 h => ?_)
            refine V_aload_n (i := 0) G eX8_frame_72 rfl rfl ?_
            refine V_get (v := .ref (wad w 915 0)) G fgX8_45 rfl eX8_frame_73 ?_
            refine V_iload_n (i := 3) G eX8_frame_76 rfl rfl ?_
            refine V_iload G eX8_frame_77 rfl ?_
            obtain ⟨x11, hj, h⟩ := bdS h
            have J : Vj p l e R s m args below meth c w 5 0 0 Q 109 [some (.ref (wad w 8 0)), some (.int v1), some (.int v2), some (.int v3), none] [.int x11, .int v3, .ref (wad w 915 0)] μ7 := by
              clear hj
              refine V_iast G al_915 (by decide) eX8_frame_109 h (fun μ12 h => ?_)
              refine V_aload_n (i := 0) G eX8_frame_110 rfl rfl ?_
              refine V_get (v := .ref (wad w 916 0)) G fgX8_48 rfl eX8_frame_111 ?_
              refine V_iload_n (i := 3) G eX8_frame_114 rfl rfl ?_
              refine V_iload_n (i := 2) G eX8_frame_115 rfl rfl ?_
              refine V_iast G al_916 (by decide) eX8_frame_116 h (fun μ13 h => ?_)
              refine V_iload_n (i := 2) G eX8_frame_117 rfl rfl ?_
              refine V_aload_n (i := 0) G eX8_frame_118 rfl rfl ?_
              refine V_get (v := .ref (wad w 915 0)) G fgX8_45 rfl eX8_frame_119 ?_
              refine V_iload_n (i := 3) G eX8_frame_122 rfl rfl ?_
              refine V_iald G al_915 (by decide) eX8_frame_123 h (fun x14 h => ?_)
              refine V_imul G eX8_frame_124 ?_
              refine V_istore_n (i := 2) (L' := (fun x15 => [some (.ref (wad w 8 0)), some (.int v1), some (.int x15), some (.int v3), none])) G rfl eX8_frame_125 (by decide) rfl (fun _ => rfl) h (fun x15 h => ?_)
              refine V_iinc (z := (-1)) (L' := (fun x16 => [some (.ref (wad w 8 0)), some (.int v1), some (.int x15), some (.int x16), none])) G eX8_frame_126 rfl rfl (by decide) rfl (fun _ => rfl) h (fun x16 h => ?_)
              refine V_goto G eX8_frame_129 ?_
              exact (ih h K)
            replace h := hj
            clear hj
            refine V_if_eq G eX8_frame_79 h (fun h => ?_) (fun h => ?_)
            · refine V_aload_n (i := 0) G eX8_frame_105 rfl rfl ?_
              refine V_get (v := .int (mI μ7 903 0 0)) G fgX8_9 rfl eX8_frame_106 ?_
              cases h; exact V_sub (lS_s (lS_s (lS_s (lS_s (lS_n lS_0))))) J
            · refine V_aload_n (i := 0) G eX8_frame_82 rfl rfl ?_
              refine V_get (v := .ref (wad w 6 0)) G fgX8_57 rfl eX8_frame_83 ?_
              refine V_get (v := .ref (wad w 10705 0)) G fgX8_118 rfl eX8_frame_86 ?_
              refine V_iload_n (i := 1) G eX8_frame_89 rfl rfl ?_
              refine V_aaldI (id := 705) G al_10705 eX8_frame_90 h (fun r8 hr8 h => ?_)
              refine V_iload_n (i := 3) G eX8_frame_91 rfl rfl ?_
              refine V_iald G al_705 hr8 eX8_frame_92 h (fun x9 h => ?_)
              refine V_aload_n (i := 0) G eX8_frame_93 rfl rfl ?_
              refine V_get (v := .ref (wad w 914 0)) G fgX8_42 rfl eX8_frame_94 ?_
              refine V_iload_n (i := 3) G eX8_frame_97 rfl rfl ?_
              refine V_iald G al_914 (by decide) eX8_frame_98 h (fun x10 h => ?_)
              refine V_isub G eX8_frame_99 ?_
              refine V_iconst (n := 1) (v := (nI 1)) G eX8_frame_100 rfl ?_
              refine V_iadd G eX8_frame_101 ?_
              refine V_goto G eX8_frame_102 ?_
              cases h; exact V_sub (lS_s (lS_s (lS_s (lS_s (lS_n lS_0))))) J
          replace h := hj
          clear hj
          refine V_if_eq G eX8_frame_53 h (fun h => ?_) (fun h => ?_)
          · refine V_iconst (n := 1) (v := (nI 1)) G eX8_frame_70 rfl ?_
            cases h; exact J
          · refine V_aload_n (i := 0) G eX8_frame_56 rfl rfl ?_
            refine V_get (v := .ref (wad w 6 0)) G fgX8_57 rfl eX8_frame_57 ?_
            refine V_get (v := .ref (wad w 10704 0)) G fgX8_115 rfl eX8_frame_60 ?_
            refine V_iload_n (i := 1) G eX8_frame_63 rfl rfl ?_
            refine V_aaldI (id := 704) G al_10704 eX8_frame_64 h (fun r4 hr4 h => ?_)
            refine V_iload_n (i := 3) G eX8_frame_65 rfl rfl ?_
            refine V_iald G al_704 hr4 eX8_frame_66 h (fun x5 h => ?_)
            refine V_goto G eX8_frame_67 ?_
            cases h; exact J
        replace h := hj
        clear hj
        refine V_if_le G eX8_frame_36 h (fun h => ?_) (fun h => ?_)
        · refine V_iconst (n := 0) (v := (nI 0)) G eX8_frame_43 rfl ?_
          cases h; exact J
        · refine V_iconst (n := 1) (v := (nI 1)) G eX8_frame_39 rfl ?_
          refine V_goto G eX8_frame_40 ?_
          cases h; exact J
set_option maxRecDepth 100000 in
set_option maxHeartbeats 4000000 in
theorem Pot_frame_l2_ok {p : Program} {l : Launch} {e : Env} {R : Room} {s : State} {m : MethodId} {args : Array Value} {below : List Frame} {meth : Method} {c : Code} {w : Wld} {Q : State → Prop} (G : Cxt p R s m args meth c w cX8_frame 5 "PotBook$Pot" 1 0 0) {v1 : Int32} {v2 : Int32} {μo : Mem} : ∀ {n : Nat} {v3 : Int32} {μ : Mem}, Pot_frame_l2 v1 v2 n v3 μ = some μo → Vj p l e R s m args below meth c w 5 0 0 Q 164 [some (.ref (wad w 8 0)), some (.int v1), some (.int v2), none, none] [] μo → Vj p l e R s m args below meth c w 5 0 0 Q 134 [some (.ref (wad w 8 0)), some (.int v1), some (.int v2), some (.int v3), none] [] μ := by
  intro n
  induction n with
  | zero => intro v3 μ h K; exact noS h
  | succ n ih =>
    intro v3 μ h K
    replace h : Pot_frame_l2b v1 v2 (Pot_frame_l2 v1 v2 n) v3 μ = some μo := h
    unfold Pot_frame_l2b at h
    refine V_iload_n (i := 3) G eX8_frame_134 rfl rfl ?_
    refine V_iconst (n := 4) (v := (nI 4)) G eX8_frame_135 rfl ?_
    refine V_icmp_ge G eX8_frame_136 h (fun h => ?_) (fun h => ?_)
    · cases h; exact V_sub (lS_s (lS_s (lS_s (lS_n (lS_n lS_0))))) K
    · refine V_aload_n (i := 0) G eX8_frame_139 rfl rfl ?_
      refine V_get (v := .ref (wad w 918 0)) G fgX8_54 rfl eX8_frame_140 ?_
      refine V_iconst (n := 4) (v := (nI 4)) G eX8_frame_143 rfl ?_
      refine V_iload_n (i := 3) G eX8_frame_144 rfl rfl ?_
      refine V_iadd G eX8_frame_145 ?_
      refine V_aload_n (i := 0) G eX8_frame_146 rfl rfl ?_
      refine V_get (v := .ref (wad w 6 0)) G fgX8_57 rfl eX8_frame_147 ?_
      refine V_get (v := .ref (wad w 10710 0)) G fgX8_121 rfl eX8_frame_150 ?_
      refine V_iload_n (i := 1) G eX8_frame_153 rfl rfl ?_
      refine V_aaldI (id := 710) G al_10710 eX8_frame_154 h (fun r1 hr1 h => ?_)
      refine V_iload_n (i := 3) G eX8_frame_155 rfl rfl ?_
      refine V_iald G al_710 hr1 eX8_frame_156 h (fun x2 h => ?_)
      refine V_iast G al_918 (by decide) eX8_frame_157 h (fun μ3 h => ?_)
      refine V_iinc (z := (nI 1)) (L' := (fun x4 => [some (.ref (wad w 8 0)), some (.int v1), some (.int v2), some (.int x4), none])) G eX8_frame_158 rfl rfl (by decide) rfl (fun _ => rfl) h (fun x4 h => ?_)
      refine V_goto G eX8_frame_161 ?_
      exact (ih h K)
set_option maxRecDepth 100000 in
set_option maxHeartbeats 4000000 in
theorem Pot_frame_run {p : Program} {l : Launch} {e : Env} {R : Room} {s : State} {m : MethodId} {args : Array Value} {below : List Frame} {meth : Method} {c : Code} {w : Wld} (G : Cxt p R s m args meth c w cX8_frame 5 "PotBook$Pot" 1 0 0) (hr : meth.sig.returnType = some .int) {a1 : Int32} {μ : Mem} {r : Int32} {μ' : Mem} (h : Pot_frame a1 μ = some (r, μ')) : Vj p l e R s m args below meth c w 5 0 0 (MQ below (QI w r μ') args s 0 0 w.2.2.2) 0 [some (.ref (wad w 8 0)), some (.int a1), none, none, none] [] μ := by
  unfold Pot_frame at h
  refine V_iconst (n := 1) (v := (nI 1)) G eX8_frame_0 rfl ?_
  refine V_istoreA_n (i := 2) (L' := [some (.ref (wad w 8 0)), some (.int a1), some (.int (nI 1)), none, none]) G rfl eX8_frame_1 (by decide) rfl rfl ?_
  refine V_aload_n (i := 0) G eX8_frame_2 rfl rfl ?_
  refine V_get (v := .ref (wad w 6 0)) G fgX8_57 rfl eX8_frame_3 ?_
  refine V_get (v := .ref (wad w 702 0)) G fgX8_110 rfl eX8_frame_6 ?_
  refine V_iload_n (i := 1) G eX8_frame_9 rfl rfl ?_
  refine V_iald G al_702 (by decide) eX8_frame_10 h (fun x1 h => ?_)
  refine V_iconst (n := 1) (v := (nI 1)) G eX8_frame_11 rfl ?_
  refine V_isub G eX8_frame_12 ?_
  refine V_istore_n (i := 3) (L' := (fun x2 => [some (.ref (wad w 8 0)), some (.int a1), some (.int (nI 1)), some (.int x2), none])) G rfl eX8_frame_13 (by decide) rfl (fun _ => rfl) h (fun x2 h => ?_)
  obtain ⟨⟨x3, μ4⟩, h1, h⟩ := bdS h
  refine Pot_frame_l1_ok G h1 ?_
  refine V_iconst (n := 0) (v := (nI 0)) G eX8_frame_132 rfl ?_
  refine V_istoreA_n (i := 3) (L' := [some (.ref (wad w 8 0)), some (.int a1), some (.int x3), some (.int (nI 0)), none]) G rfl eX8_frame_133 (by decide) rfl rfl ?_
  obtain ⟨μ5, h1, h⟩ := bdS h
  refine Pot_frame_l2_ok G h1 ?_
  refine V_aload_n (i := 0) G eX8_frame_164 rfl rfl ?_
  refine V_get (v := .ref (wad w 918 0)) G fgX8_54 rfl eX8_frame_165 ?_
  refine V_bipush (n := 8) (v := (nI 8)) G eX8_frame_168 rfl ?_
  refine V_aload_n (i := 0) G eX8_frame_170 rfl rfl ?_
  refine V_get (v := .ref (wad w 6 0)) G fgX8_57 rfl eX8_frame_171 ?_
  refine V_get (v := .ref (wad w 706 0)) G fgX8_124 rfl eX8_frame_174 ?_
  refine V_iload_n (i := 1) G eX8_frame_177 rfl rfl ?_
  refine V_iald G al_706 (by decide) eX8_frame_178 h (fun x6 h => ?_)
  refine V_aload_n (i := 0) G eX8_frame_179 rfl rfl ?_
  refine V_get (v := .ref (wad w 7 0)) G fgX8_61 rfl eX8_frame_180 ?_
  refine V_get (v := .int (mI μ5 807 0 0)) G fgX8_127 rfl eX8_frame_183 ?_
  refine V_iand G eX8_frame_186 ?_
  refine V_if_eq G eX8_frame_187 h (fun h => ?_) (fun h => ?_)
  · refine V_iconst (n := 0) (v := (nI 0)) G eX8_frame_194 rfl ?_
    refine V_iast G al_918 (by decide) eX8_frame_195 h (fun μ7 h => ?_)
    refine V_iload_n (i := 2) G eX8_frame_196 rfl rfl ?_
    exact V_riM G hr eX8_frame_197 h
  · refine V_iconst (n := 1) (v := (nI 1)) G eX8_frame_190 rfl ?_
    refine V_goto G eX8_frame_191 ?_
    refine V_iast G al_918 (by decide) eX8_frame_195 h (fun μ8 h => ?_)
    refine V_iload_n (i := 2) G eX8_frame_196 rfl rfl ?_
    exact V_riM G hr eX8_frame_197 h
theorem Pot_frame_ok {l : Launch} {w : Wld} {a1 : Int32} {μ : Mem} {r : Int32} {μ' : Mem} (h : Pot_frame a1 μ = some (r, μ')) : CtI l w yX8_frame cX8_frame 5 .int 1 [.ref (wad w 8 0), .int a1] μ r μ' :=
  Ct_of (own := "PotBook$Pot") [some (.ref (wad w 8 0)), some (.int a1), none, none, none] (by decide +kernel) rfl rfl (Nat.le_of_ble_eq_true rfl) fun p e s m args below meth c G hr => Pot_frame_run G hr h
set_option maxRecDepth 100000 in
set_option maxHeartbeats 4000000 in
theorem Pot_partsIn_run {p : Program} {l : Launch} {e : Env} {R : Room} {s : State} {m : MethodId} {args : Array Value} {below : List Frame} {meth : Method} {c : Code} {w : Wld} (G : Cxt p R s m args meth c w cX8_partsIn 4 "PotBook$Pot" 1 0 0) (hr : meth.sig.returnType = some .int) {a1 : Int32} {a2 : Int32} {μ : Mem} {r : Int32} (h : Pot_partsIn a1 a2 μ = some r) : Vj p l e R s m args below meth c w 4 0 0 (MQ below (QI w r μ) args s 0 0 w.2.2.2) 0 [some (.ref (wad w 8 0)), some (.int a1), some (.int a2), none] [] μ := by
  unfold Pot_partsIn at h
  refine V_aload_n (i := 0) G eX8_partsIn_0 rfl rfl ?_
  refine V_get (v := .ref (wad w 916 0)) G fgX8_48 rfl eX8_partsIn_1 ?_
  refine V_iload_n (i := 2) G eX8_partsIn_4 rfl rfl ?_
  refine V_iald G al_916 (by decide) eX8_partsIn_5 h (fun x1 h => ?_)
  obtain ⟨x3, hj, h⟩ := bdS h
  have J : Vj p l e R s m args below meth c w 4 0 0 (MQ below (QI w r μ) args s 0 0 w.2.2.2) 23 [some (.ref (wad w 8 0)), some (.int a1), some (.int a2), none] [.int x3] μ := by
    clear hj
    refine V_istoreA_n (i := 3) (L' := [some (.ref (wad w 8 0)), some (.int a1), some (.int a2), some (.int x3)]) G rfl eX8_partsIn_23 (by decide) rfl rfl ?_
    refine V_iload_n (i := 3) G eX8_partsIn_24 rfl rfl ?_
    refine V_if_eq G eX8_partsIn_25 h (fun h => ?_) (fun h => ?_)
    · refine V_aload_n (i := 0) G eX8_partsIn_53 rfl rfl ?_
      refine V_get (v := .ref (wad w 914 0)) G fgX8_42 rfl eX8_partsIn_54 ?_
      refine V_iload_n (i := 2) G eX8_partsIn_57 rfl rfl ?_
      refine V_iald G al_914 (by decide) eX8_partsIn_58 h (fun x4 h => ?_)
      exact V_ri G hr eX8_partsIn_59 h
    · refine V_aload_n (i := 0) G eX8_partsIn_28 rfl rfl ?_
      refine V_get (v := .ref (wad w 914 0)) G fgX8_42 rfl eX8_partsIn_29 ?_
      refine V_iload_n (i := 2) G eX8_partsIn_32 rfl rfl ?_
      refine V_iald G al_914 (by decide) eX8_partsIn_33 h (fun x5 h => ?_)
      refine V_iload_n (i := 1) G eX8_partsIn_34 rfl rfl ?_
      refine V_aload_n (i := 0) G eX8_partsIn_35 rfl rfl ?_
      refine V_get (v := .ref (wad w 916 0)) G fgX8_48 rfl eX8_partsIn_36 ?_
      refine V_iload_n (i := 2) G eX8_partsIn_39 rfl rfl ?_
      refine V_iald G al_916 (by decide) eX8_partsIn_40 h (fun x6 h => ?_)
      refine V_idiv G eX8_partsIn_41 h (fun x7 h => ?_)
      refine V_aload_n (i := 0) G eX8_partsIn_42 rfl rfl ?_
      refine V_get (v := .ref (wad w 915 0)) G fgX8_45 rfl eX8_partsIn_43 ?_
      refine V_iload_n (i := 2) G eX8_partsIn_46 rfl rfl ?_
      refine V_iald G al_915 (by decide) eX8_partsIn_47 h (fun x8 h => ?_)
      refine V_irem G eX8_partsIn_48 h (fun x9 h => ?_)
      refine V_iadd G eX8_partsIn_49 ?_
      refine V_goto G eX8_partsIn_50 ?_
      exact V_ri G hr eX8_partsIn_59 h
  replace h := hj
  clear hj
  refine V_if_le G eX8_partsIn_6 h (fun h => ?_) (fun h => ?_)
  · refine V_iconst (n := 0) (v := (nI 0)) G eX8_partsIn_22 rfl ?_
    cases h; exact J
  · refine V_aload_n (i := 0) G eX8_partsIn_9 rfl rfl ?_
    refine V_get (v := .ref (wad w 915 0)) G fgX8_45 rfl eX8_partsIn_10 ?_
    refine V_iload_n (i := 2) G eX8_partsIn_13 rfl rfl ?_
    refine V_iald G al_915 (by decide) eX8_partsIn_14 h (fun x2 h => ?_)
    refine V_if_le G eX8_partsIn_15 h (fun h => ?_) (fun h => ?_)
    · refine V_iconst (n := 0) (v := (nI 0)) G eX8_partsIn_22 rfl ?_
      cases h; exact J
    · refine V_iconst (n := 1) (v := (nI 1)) G eX8_partsIn_18 rfl ?_
      refine V_goto G eX8_partsIn_19 ?_
      cases h; exact J
theorem Pot_partsIn_ok {l : Launch} {w : Wld} {a1 : Int32} {a2 : Int32} {μ : Mem} {r : Int32} (h : Pot_partsIn a1 a2 μ = some r) : CtI l w yX8_partsIn cX8_partsIn 4 .int 1 [.ref (wad w 8 0), .int a1, .int a2] μ r μ :=
  Ct_of (own := "PotBook$Pot") [some (.ref (wad w 8 0)), some (.int a1), some (.int a2), none] (by decide +kernel) rfl rfl (Nat.le_of_ble_eq_true rfl) fun p e s m args below meth c G hr => Pot_partsIn_run G hr h
set_option maxRecDepth 100000 in
set_option maxHeartbeats 4000000 in
theorem Pot_spread_l1_ok {p : Program} {l : Launch} {e : Env} {R : Room} {s : State} {m : MethodId} {args : Array Value} {below : List Frame} {meth : Method} {c : Code} {w : Wld} {Q : State → Prop} (G : Cxt p R s m args meth c w cX8_spread 9 "PotBook$Pot" 2 0 0) {v1 : Int32} {o1 : Int32} {o2 : Int32} {o3 : Int32} {o4 : Int32} {μo : Mem} : ∀ {n : Nat} {v2 : Int32} {v3 : Int32} {v4 : Int32} {v5 : Int32} {v6 : Int32} {μ : Mem}, Pot_spread_l1 v1 n v2 v3 v4 v5 v6 μ = some (o1, o2, o3, o4, μo) → Vj p l e R s m args below meth c w 9 0 0 Q 128 [some (.ref (wad w 8 0)), none, some (.int o1), some (.int o2), some (.int o3), some (.int o4), none, none, none] [] μo → Vj p l e R s m args below meth c w 9 0 0 Q 13 [some (.ref (wad w 8 0)), some (.int v1), some (.int v2), some (.int v3), some (.int v4), some (.int v5), some (.int v6), none, none] [] μ := by
  intro n
  induction n with
  | zero => intro v2 v3 v4 v5 v6 μ h K; exact noS h
  | succ n ih =>
    intro v2 v3 v4 v5 v6 μ h K
    replace h : Pot_spread_l1b v1 (Pot_spread_l1 v1 n) v2 v3 v4 v5 v6 μ = some (o1, o2, o3, o4, μo) := h
    unfold Pot_spread_l1b at h
    refine V_iload G eX8_spread_13 rfl ?_
    refine V_aload_n (i := 0) G eX8_spread_15 rfl rfl ?_
    refine V_get (v := .ref (wad w 6 0)) G fgX8_57 rfl eX8_spread_16 ?_
    refine V_get (v := .ref (wad w 702 0)) G fgX8_110 rfl eX8_spread_19 ?_
    refine V_aload_n (i := 0) G eX8_spread_22 rfl rfl ?_
    refine V_get (v := .int (mI μ 912 0 0)) G fgX8_36 rfl eX8_spread_23 ?_
    refine V_iald G al_702 (by decide) eX8_spread_26 h (fun x1 h => ?_)
    refine V_icmp_ge G eX8_spread_27 h (fun h => ?_) (fun h => ?_)
    · cases h; exact V_sub (lS_s (lS_n (lS_s (lS_s (lS_s (lS_s (lS_n (lS_n (lS_n lS_0))))))))) K
    · refine V_aload_n (i := 0) G eX8_spread_30 rfl rfl ?_
      refine V_get (v := .ref (wad w 6 0)) G fgX8_57 rfl eX8_spread_31 ?_
      refine V_get (v := .ref (wad w 10703 0)) G fgX8_141 rfl eX8_spread_34 ?_
      refine V_aload_n (i := 0) G eX8_spread_37 rfl rfl ?_
      refine V_get (v := .int (mI μ 912 0 0)) G fgX8_36 rfl eX8_spread_38 ?_
      refine V_aaldI (id := 703) G al_10703 eX8_spread_41 h (fun r2 hr2 h => ?_)
      refine V_iload G eX8_spread_42 rfl ?_
      refine V_iald G al_703 hr2 eX8_spread_44 h (fun x3 h => ?_)
      refine V_istoreA (i := 7) (L' := [some (.ref (wad w 8 0)), some (.int v1), some (.int v2), some (.int v3), some (.int v4), some (.int v5), some (.int v6), some (.int x3), none]) G eX8_spread_45 (by decide) rfl rfl ?_
      refine V_aload_n (i := 0) G eX8_spread_47 rfl rfl ?_
      refine V_iload_n (i := 1) G eX8_spread_48 rfl rfl ?_
      refine V_iload G eX8_spread_49 rfl ?_
      obtain ⟨x4, h1, h⟩ := bdS h
      refine V_callI (As := [.int v1, .int v6]) (st := []) G lkX8_144 (Pot_partsIn_ok h1) (by decide) rfl rfl (Nat.le_of_ble_eq_true rfl) eX8_spread_51 ?_
      refine V_istoreA (i := 8) (L' := [some (.ref (wad w 8 0)), some (.int v1), some (.int v2), some (.int v3), some (.int v4), some (.int v5), some (.int v6), some (.int x3), some (.int x4)]) G eX8_spread_54 (by decide) rfl rfl ?_
      refine V_aload_n (i := 0) G eX8_spread_56 rfl rfl ?_
      refine V_get (v := .ref (wad w 917 0)) G fgX8_51 rfl eX8_spread_57 ?_
      refine V_iload G eX8_spread_60 rfl ?_
      refine V_iload G eX8_spread_62 rfl ?_
      refine V_iast G al_917 (by decide) eX8_spread_64 h (fun μ5 h => ?_)
      refine V_iload_n (i := 2) G eX8_spread_65 rfl rfl ?_
      refine V_iload G eX8_spread_66 rfl ?_
      refine V_aload_n (i := 0) G eX8_spread_68 rfl rfl ?_
      refine V_get (v := .ref (wad w 7 0)) G fgX8_61 rfl eX8_spread_69 ?_
      refine V_get (v := .ref (wad w 800 0)) G fgX8_147 rfl eX8_spread_72 ?_
      refine V_iload G eX8_spread_75 rfl ?_
      refine V_iald G al_800 (by decide) eX8_spread_77 h (fun x6 h => ?_)
      refine V_imul G eX8_spread_78 ?_
      refine V_iadd G eX8_spread_79 ?_
      refine V_istore_n (i := 2) (L' := (fun x7 => [some (.ref (wad w 8 0)), some (.int v1), some (.int x7), some (.int v3), some (.int v4), some (.int v5), some (.int v6), some (.int x3), some (.int x4)])) G rfl eX8_spread_80 (by decide) rfl (fun _ => rfl) h (fun x7 h => ?_)
      refine V_iload_n (i := 3) G eX8_spread_81 rfl rfl ?_
      refine V_iload G eX8_spread_82 rfl ?_
      refine V_aload_n (i := 0) G eX8_spread_84 rfl rfl ?_
      refine V_get (v := .ref (wad w 7 0)) G fgX8_61 rfl eX8_spread_85 ?_
      refine V_get (v := .ref (wad w 801 0)) G fgX8_150 rfl eX8_spread_88 ?_
      refine V_iload G eX8_spread_91 rfl ?_
      refine V_iald G al_801 (by decide) eX8_spread_93 h (fun x8 h => ?_)
      refine V_imul G eX8_spread_94 ?_
      refine V_iadd G eX8_spread_95 ?_
      refine V_istore_n (i := 3) (L' := (fun x9 => [some (.ref (wad w 8 0)), some (.int v1), some (.int x7), some (.int x9), some (.int v4), some (.int v5), some (.int v6), some (.int x3), some (.int x4)])) G rfl eX8_spread_96 (by decide) rfl (fun _ => rfl) h (fun x9 h => ?_)
      refine V_iload G eX8_spread_97 rfl ?_
      refine V_iload G eX8_spread_99 rfl ?_
      refine V_aload_n (i := 0) G eX8_spread_101 rfl rfl ?_
      refine V_get (v := .ref (wad w 7 0)) G fgX8_61 rfl eX8_spread_102 ?_
      refine V_get (v := .ref (wad w 802 0)) G fgX8_153 rfl eX8_spread_105 ?_
      refine V_iload G eX8_spread_108 rfl ?_
      refine V_iald G al_802 (by decide) eX8_spread_110 h (fun x10 h => ?_)
      refine V_imul G eX8_spread_111 ?_
      refine V_iadd G eX8_spread_112 ?_
      refine V_istore (i := 4) (L' := (fun x11 => [some (.ref (wad w 8 0)), some (.int v1), some (.int x7), some (.int x9), some (.int x11), some (.int v5), some (.int v6), some (.int x3), some (.int x4)])) G eX8_spread_113 (by decide) rfl (fun _ => rfl) h (fun x11 h => ?_)
      refine V_iload G eX8_spread_115 rfl ?_
      refine V_iload G eX8_spread_117 rfl ?_
      refine V_iadd G eX8_spread_119 ?_
      refine V_istore (i := 5) (L' := (fun x12 => [some (.ref (wad w 8 0)), some (.int v1), some (.int x7), some (.int x9), some (.int x11), some (.int x12), some (.int v6), some (.int x3), some (.int x4)])) G eX8_spread_120 (by decide) rfl (fun _ => rfl) h (fun x12 h => ?_)
      refine V_iinc (z := (nI 1)) (L' := (fun x13 => [some (.ref (wad w 8 0)), some (.int v1), some (.int x7), some (.int x9), some (.int x11), some (.int x12), some (.int x13), some (.int x3), some (.int x4)])) G eX8_spread_122 rfl rfl (by decide) rfl (fun _ => rfl) h (fun x13 h => ?_)
      refine V_goto G eX8_spread_125 ?_
      exact V_sub (lS_s (lS_s (lS_s (lS_s (lS_s (lS_s (lS_s (lS_n (lS_n lS_0))))))))) (ih h K)
set_option maxRecDepth 100000 in
set_option maxHeartbeats 4000000 in
theorem Pot_spread_run {p : Program} {l : Launch} {e : Env} {R : Room} {s : State} {m : MethodId} {args : Array Value} {below : List Frame} {meth : Method} {c : Code} {w : Wld} (G : Cxt p R s m args meth c w cX8_spread 9 "PotBook$Pot" 2 0 0) (hr : meth.sig.returnType = none) {a1 : Int32} {μ : Mem} {μ' : Mem} (h : Pot_spread a1 μ = some μ') : Vj p l e R s m args below meth c w 9 0 0 (MQ below (QV w μ') args s 0 0 w.2.2.2) 0 [some (.ref (wad w 8 0)), some (.int a1), none, none, none, none, none, none, none] [] μ := by
  unfold Pot_spread at h
  refine V_iconst (n := 0) (v := (nI 0)) G eX8_spread_0 rfl ?_
  refine V_istoreA_n (i := 2) (L' := [some (.ref (wad w 8 0)), some (.int a1), some (.int (nI 0)), none, none, none, none, none, none]) G rfl eX8_spread_1 (by decide) rfl rfl ?_
  refine V_iconst (n := 0) (v := (nI 0)) G eX8_spread_2 rfl ?_
  refine V_istoreA_n (i := 3) (L' := [some (.ref (wad w 8 0)), some (.int a1), some (.int (nI 0)), some (.int (nI 0)), none, none, none, none, none]) G rfl eX8_spread_3 (by decide) rfl rfl ?_
  refine V_iconst (n := 0) (v := (nI 0)) G eX8_spread_4 rfl ?_
  refine V_istoreA (i := 4) (L' := [some (.ref (wad w 8 0)), some (.int a1), some (.int (nI 0)), some (.int (nI 0)), some (.int (nI 0)), none, none, none, none]) G eX8_spread_5 (by decide) rfl rfl ?_
  refine V_iconst (n := 0) (v := (nI 0)) G eX8_spread_7 rfl ?_
  refine V_istoreA (i := 5) (L' := [some (.ref (wad w 8 0)), some (.int a1), some (.int (nI 0)), some (.int (nI 0)), some (.int (nI 0)), some (.int (nI 0)), none, none, none]) G eX8_spread_8 (by decide) rfl rfl ?_
  refine V_iconst (n := 0) (v := (nI 0)) G eX8_spread_10 rfl ?_
  refine V_istoreA (i := 6) (L' := [some (.ref (wad w 8 0)), some (.int a1), some (.int (nI 0)), some (.int (nI 0)), some (.int (nI 0)), some (.int (nI 0)), some (.int (nI 0)), none, none]) G eX8_spread_11 (by decide) rfl rfl ?_
  obtain ⟨⟨x1, x2, x3, x4, μ5⟩, h1, h⟩ := bdS h
  refine Pot_spread_l1_ok G h1 ?_
  refine V_aload_n (i := 0) G eX8_spread_128 rfl rfl ?_
  refine V_get (v := .ref (wad w 918 0)) G fgX8_54 rfl eX8_spread_129 ?_
  refine V_iconst (n := 0) (v := (nI 0)) G eX8_spread_132 rfl ?_
  refine V_iload_n (i := 2) G eX8_spread_133 rfl rfl ?_
  refine V_iast G al_918 (by decide) eX8_spread_134 h (fun μ6 h => ?_)
  refine V_aload_n (i := 0) G eX8_spread_135 rfl rfl ?_
  refine V_get (v := .ref (wad w 918 0)) G fgX8_54 rfl eX8_spread_136 ?_
  refine V_iconst (n := 1) (v := (nI 1)) G eX8_spread_139 rfl ?_
  refine V_iload_n (i := 3) G eX8_spread_140 rfl rfl ?_
  refine V_iast G al_918 (by decide) eX8_spread_141 h (fun μ7 h => ?_)
  refine V_aload_n (i := 0) G eX8_spread_142 rfl rfl ?_
  refine V_get (v := .ref (wad w 918 0)) G fgX8_54 rfl eX8_spread_143 ?_
  refine V_iconst (n := 2) (v := (nI 2)) G eX8_spread_146 rfl ?_
  refine V_iload G eX8_spread_147 rfl ?_
  refine V_iast G al_918 (by decide) eX8_spread_149 h (fun μ8 h => ?_)
  refine V_aload_n (i := 0) G eX8_spread_150 rfl rfl ?_
  refine V_get (v := .ref (wad w 918 0)) G fgX8_54 rfl eX8_spread_151 ?_
  refine V_iconst (n := 3) (v := (nI 3)) G eX8_spread_154 rfl ?_
  refine V_iload G eX8_spread_155 rfl ?_
  refine V_iast G al_918 (by decide) eX8_spread_157 h (fun μ9 h => ?_)
  exact V_rvM G hr eX8_spread_158 h
theorem Pot_spread_ok {l : Launch} {w : Wld} {a1 : Int32} {μ : Mem} {μ' : Mem} (h : Pot_spread a1 μ = some μ') : CtV l w yX8_spread cX8_spread 9 2 [.ref (wad w 8 0), .int a1] μ μ' :=
  Ct_of (own := "PotBook$Pot") [some (.ref (wad w 8 0)), some (.int a1), none, none, none, none, none, none, none] (by decide +kernel) rfl rfl (Nat.le_of_ble_eq_true rfl) fun p e s m args below meth c G hr => Pot_spread_run G hr h
set_option maxRecDepth 100000 in
set_option maxHeartbeats 4000000 in
theorem Laws_push_run {p : Program} {l : Launch} {e : Env} {R : Room} {s : State} {m : MethodId} {args : Array Value} {below : List Frame} {meth : Method} {c : Code} {w : Wld} (G : Cxt p R s m args meth c w cX4_push 2 "PotBook$Laws" 1 0 0) (hr : meth.sig.returnType = none) {a1 : Int32} {μ : Mem} {μ' : Mem} (h : Laws_push a1 μ = some μ') : Vj p l e R s m args below meth c w 2 0 0 (MQ below (QV w μ') args s 0 0 w.2.2.2) 0 [some (.ref (wad w 4 0)), some (.int a1)] [] μ := by
  unfold Laws_push at h
  refine V_aload_n (i := 0) G eX4_push_0 rfl rfl ?_
  refine V_get (v := .int (mI μ 503 0 0)) G fgX4_37 rfl eX4_push_1 ?_
  refine V_bipush (n := 64) (v := (nI 64)) G eX4_push_4 rfl ?_
  refine V_icmp_ge G eX4_push_6 h (fun h => ?_) (fun h => ?_)
  · exact V_rvM G hr eX4_push_29 h
  · refine V_aload_n (i := 0) G eX4_push_9 rfl rfl ?_
    refine V_get (v := .ref (wad w 502 0)) G fgX4_20 rfl eX4_push_10 ?_
    refine V_aload_n (i := 0) G eX4_push_13 rfl rfl ?_
    refine V_get (v := .int (mI μ 503 0 0)) G fgX4_37 rfl eX4_push_14 ?_
    refine V_iload_n (i := 1) G eX4_push_17 rfl rfl ?_
    refine V_iast G al_502 (by decide) eX4_push_18 h (fun μ1 h => ?_)
    refine V_aload_n (i := 0) G eX4_push_19 rfl rfl ?_
    refine V_dup G eX4_push_20 rfl ?_
    refine V_get (v := .int (mI μ1 503 0 0)) G fgX4_37 rfl eX4_push_21 ?_
    refine V_iconst (n := 1) (v := (nI 1)) G eX4_push_24 rfl ?_
    refine V_iadd G eX4_push_25 ?_
    refine V_put G fgX4_37 fp_4_3 eX4_push_26 h (fun μ2 h => ?_)
    exact V_rvM G hr eX4_push_29 h
theorem Laws_push_ok {l : Launch} {w : Wld} {a1 : Int32} {μ : Mem} {μ' : Mem} (h : Laws_push a1 μ = some μ') : CtV l w yX4_push cX4_push 2 1 [.ref (wad w 4 0), .int a1] μ μ' :=
  Ct_of (own := "PotBook$Laws") [some (.ref (wad w 4 0)), some (.int a1)] (by decide +kernel) rfl rfl (Nat.le_of_ble_eq_true rfl) fun p e s m args below meth c G hr => Laws_push_run G hr h
set_option maxRecDepth 100000 in
set_option maxHeartbeats 4000000 in
theorem Laws_pop_run {p : Program} {l : Launch} {e : Env} {R : Room} {s : State} {m : MethodId} {args : Array Value} {below : List Frame} {meth : Method} {c : Code} {w : Wld} (G : Cxt p R s m args meth c w cX4_pop 1 "PotBook$Laws" 1 0 0) (hr : meth.sig.returnType = some .int) {μ : Mem} {r : Int32} {μ' : Mem} (h : Laws_pop μ = some (r, μ')) : Vj p l e R s m args below meth c w 1 0 0 (MQ below (QI w r μ') args s 0 0 w.2.2.2) 0 [some (.ref (wad w 4 0))] [] μ := by
  unfold Laws_pop at h
  refine V_aload_n (i := 0) G eX4_pop_0 rfl rfl ?_
  refine V_get (v := .int (mI μ 503 0 0)) G fgX4_37 rfl eX4_pop_1 ?_
  refine V_if_gt G eX4_pop_4 h (fun h => ?_) (fun h => ?_)
  · refine V_aload_n (i := 0) G eX4_pop_9 rfl rfl ?_
    refine V_dup G eX4_pop_10 rfl ?_
    refine V_get (v := .int (mI μ 503 0 0)) G fgX4_37 rfl eX4_pop_11 ?_
    refine V_iconst (n := 1) (v := (nI 1)) G eX4_pop_14 rfl ?_
    refine V_isub G eX4_pop_15 ?_
    refine V_put G fgX4_37 fp_4_3 eX4_pop_16 h (fun μ1 h => ?_)
    refine V_aload_n (i := 0) G eX4_pop_19 rfl rfl ?_
    refine V_get (v := .ref (wad w 502 0)) G fgX4_20 rfl eX4_pop_20 ?_
    refine V_aload_n (i := 0) G eX4_pop_23 rfl rfl ?_
    refine V_get (v := .int (mI μ1 503 0 0)) G fgX4_37 rfl eX4_pop_24 ?_
    refine V_iald G al_502 (by decide) eX4_pop_27 h (fun x2 h => ?_)
    exact V_riM G hr eX4_pop_28 h
  · refine V_iconst (n := 0) (v := (nI 0)) G eX4_pop_7 rfl ?_
    exact V_riM G hr eX4_pop_8 h
theorem Laws_pop_ok {l : Launch} {w : Wld} {μ : Mem} {r : Int32} {μ' : Mem} (h : Laws_pop μ = some (r, μ')) : CtI l w yX4_pop cX4_pop 1 .int 1 [.ref (wad w 4 0)] μ r μ' :=
  Ct_of (own := "PotBook$Laws") [some (.ref (wad w 4 0))] (by decide +kernel) rfl rfl (Nat.le_of_ble_eq_true rfl) fun p e s m args below meth c G hr => Laws_pop_run G hr h
set_option maxRecDepth 100000 in
set_option maxHeartbeats 4000000 in
theorem Laws_joined_run {p : Program} {l : Launch} {e : Env} {R : Room} {s : State} {m : MethodId} {args : Array Value} {below : List Frame} {meth : Method} {c : Code} {w : Wld} (G : Cxt p R s m args meth c w cX4_joined 5 "PotBook$Laws" 1 0 0) (hr : meth.sig.returnType = some .long) {a1 : Int32} {a2 : Int64} {a3 : Int64} {μ : Mem} {r : Int64} (h : Laws_joined a1 a2 a3 = some r) : Vj p l e R s m args below meth c w 5 0 0 (MQ below (QL w r μ) args s 0 0 w.2.2.2) 0 [some (.int a1), some (.long a2), none, some (.long a3), none] [] μ := by
  unfold Laws_joined at h
  refine V_iload_n (i := 0) G eX4_joined_0 rfl rfl ?_
  by_cases c0 : a1 = (nI 10100)
  · rw [if_pos c0] at h
    refine V_tswIn (v := (nI 10100)) (off := 47) (tgt := 48) G eX4_joined_1 c0 (by decide) (by decide) rfl rfl ?_
    refine V_lload_n (i := 1) G eX4_joined_48 rfl rfl ?_
    refine V_lload_n (i := 3) G eX4_joined_49 rfl rfl ?_
    refine V_ladd G eX4_joined_50 ?_
    exact V_rl G hr eX4_joined_51 h
  · rw [if_neg c0] at h
    by_cases c1 : a1 = (nI 10101)
    · rw [if_pos c1] at h
      refine V_tswIn (v := (nI 10101)) (off := 51) (tgt := 52) G eX4_joined_1 c1 (by decide) (by decide) rfl rfl ?_
      refine V_lload_n (i := 1) G eX4_joined_52 rfl rfl ?_
      refine V_lload_n (i := 3) G eX4_joined_53 rfl rfl ?_
      refine V_lsub G eX4_joined_54 ?_
      exact V_rl G hr eX4_joined_55 h
    · rw [if_neg c1] at h
      by_cases c2 : a1 = (nI 10102)
      · rw [if_pos c2] at h
        refine V_tswIn (v := (nI 10102)) (off := 55) (tgt := 56) G eX4_joined_1 c2 (by decide) (by decide) rfl rfl ?_
        refine V_lload_n (i := 1) G eX4_joined_56 rfl rfl ?_
        refine V_lload_n (i := 3) G eX4_joined_57 rfl rfl ?_
        refine V_lmul G eX4_joined_58 ?_
        exact V_rl G hr eX4_joined_59 h
      · rw [if_neg c2] at h
        by_cases c3 : a1 = (nI 10103)
        · rw [if_pos c3] at h
          refine V_tswIn (v := (nI 10103)) (off := 59) (tgt := 60) G eX4_joined_1 c3 (by decide) (by decide) rfl rfl ?_
          refine V_lload_n (i := 3) G eX4_joined_60 rfl rfl ?_
          refine V_lconst (v := 0) G eX4_joined_61 rfl ?_
          refine V_lcmp G eX4_joined_62 ?_
          refine V_if_ne G eX4_joined_63 h (fun h => ?_) (fun h => ?_)
          · refine V_lload_n (i := 1) G eX4_joined_70 rfl rfl ?_
            refine V_lload_n (i := 3) G eX4_joined_71 rfl rfl ?_
            refine V_ldiv G eX4_joined_72 h (fun x1 h => ?_)
            exact V_rl G hr eX4_joined_73 h
          · refine V_lconst (v := 0) G eX4_joined_66 rfl ?_
            refine V_goto G eX4_joined_67 ?_
            exact V_rl G hr eX4_joined_73 h
        · rw [if_neg c3] at h
          by_cases c4 : a1 = (nI 10104)
          · rw [if_pos c4] at h
            refine V_tswIn (v := (nI 10104)) (off := 73) (tgt := 74) G eX4_joined_1 c4 (by decide) (by decide) rfl rfl ?_
            refine V_lload_n (i := 1) G eX4_joined_74 rfl rfl ?_
            refine V_lload_n (i := 3) G eX4_joined_75 rfl rfl ?_
            refine V_lcmp G eX4_joined_76 ?_
            refine V_if_ne G eX4_joined_77 h (fun h => ?_) (fun h => ?_)
            · refine V_lconst (v := 0) G eX4_joined_84 rfl ?_
              exact V_rl G hr eX4_joined_85 h
            · refine V_lconst (v := 1) G eX4_joined_80 rfl ?_
              refine V_goto G eX4_joined_81 ?_
              exact V_rl G hr eX4_joined_85 h
          · rw [if_neg c4] at h
            by_cases c5 : a1 = (nI 10105)
            · rw [if_pos c5] at h
              refine V_tswIn (v := (nI 10105)) (off := 85) (tgt := 86) G eX4_joined_1 c5 (by decide) (by decide) rfl rfl ?_
              refine V_lload_n (i := 1) G eX4_joined_86 rfl rfl ?_
              refine V_lload_n (i := 3) G eX4_joined_87 rfl rfl ?_
              refine V_lcmp G eX4_joined_88 ?_
              refine V_if_ge G eX4_joined_89 h (fun h => ?_) (fun h => ?_)
              · refine V_lconst (v := 0) G eX4_joined_96 rfl ?_
                exact V_rl G hr eX4_joined_97 h
              · refine V_lconst (v := 1) G eX4_joined_92 rfl ?_
                refine V_goto G eX4_joined_93 ?_
                exact V_rl G hr eX4_joined_97 h
            · rw [if_neg c5] at h
              by_cases c6 : a1 = (nI 10106)
              · rw [if_pos c6] at h
                refine V_tswIn (v := (nI 10106)) (off := 97) (tgt := 98) G eX4_joined_1 c6 (by decide) (by decide) rfl rfl ?_
                refine V_lload_n (i := 1) G eX4_joined_98 rfl rfl ?_
                refine V_lload_n (i := 3) G eX4_joined_99 rfl rfl ?_
                refine V_lcmp G eX4_joined_100 ?_
                refine V_if_le G eX4_joined_101 h (fun h => ?_) (fun h => ?_)
                · refine V_lconst (v := 0) G eX4_joined_108 rfl ?_
                  exact V_rl G hr eX4_joined_109 h
                · refine V_lconst (v := 1) G eX4_joined_104 rfl ?_
                  refine V_goto G eX4_joined_105 ?_
                  exact V_rl G hr eX4_joined_109 h
              · rw [if_neg c6] at h
                by_cases c7 : a1 = (nI 10107)
                · rw [if_pos c7] at h
                  refine V_tswIn (v := (nI 10107)) (off := 109) (tgt := 110) G eX4_joined_1 c7 (by decide) (by decide) rfl rfl ?_
                  refine V_lload_n (i := 1) G eX4_joined_110 rfl rfl ?_
                  refine V_lload_n (i := 3) G eX4_joined_111 rfl rfl ?_
                  refine V_land G eX4_joined_112 ?_
                  exact V_rl G hr eX4_joined_113 h
                · rw [if_neg c7] at h
                  refine V_tswOut G eX4_joined_1 (fun k h1 h2 q => ?_) (tgt := 114) rfl ?_
                  · rcases (show k = 10100 ∨ k = 10101 ∨ k = 10102 ∨ k = 10103 ∨ k = 10104 ∨ k = 10105 ∨ k = 10106 ∨ k = 10107 by omega) with rfl | rfl | rfl | rfl | rfl | rfl | rfl | rfl
                    · exact c0 q
                    · exact c1 q
                    · exact c2 q
                    · exact c3 q
                    · exact c4 q
                    · exact c5 q
                    · exact c6 q
                    · exact c7 q
                  · refine V_lload_n (i := 1) G eX4_joined_114 rfl rfl ?_
                    refine V_lload_n (i := 3) G eX4_joined_115 rfl rfl ?_
                    refine V_lor G eX4_joined_116 ?_
                    exact V_rl G hr eX4_joined_117 h
theorem Laws_joined_ok {l : Launch} {w : Wld} {a1 : Int32} {a2 : Int64} {a3 : Int64} {μ : Mem} {r : Int64} (h : Laws_joined a1 a2 a3 = some r) : CtL l w yX4_joined cX4_joined 5 .long 1 [.int a1, .long a2, .long a3] μ r μ :=
  Ct_of (own := "PotBook$Laws") [some (.int a1), some (.long a2), none, some (.long a3), none] (by decide +kernel) rfl rfl (Nat.le_of_ble_eq_true rfl) fun p e s m args below meth c G hr => Laws_joined_run G hr h
set_option maxRecDepth 100000 in
set_option maxHeartbeats 4000000 in
theorem Laws_bounded_run {p : Program} {l : Launch} {e : Env} {R : Room} {s : State} {m : MethodId} {args : Array Value} {below : List Frame} {meth : Method} {c : Code} {w : Wld} (G : Cxt p R s m args meth c w cX4_bounded 2 "PotBook$Laws" 1 0 0) (hr : meth.sig.returnType = some .int) {a1 : Int64} {μ : Mem} {r : Int32} (h : Laws_bounded a1 = some r) : Vj p l e R s m args below meth c w 2 0 0 (MQ below (QI w r μ) args s 0 0 w.2.2.2) 0 [some (.long a1), none] [] μ := by
  unfold Laws_bounded at h
  refine V_lload_n (i := 0) G eX4_bounded_0 rfl rfl ?_
  refine V_ldc2 (v := 1000000) G cnJ_X4_56 eX4_bounded_1 ?_
  refine V_lcmp G eX4_bounded_4 ?_
  refine V_if_le G eX4_bounded_5 h (fun h => ?_) (fun h => ?_)
  · refine V_lload_n (i := 0) G eX4_bounded_11 rfl rfl ?_
    refine V_ldc2 (v := (-1000000)) G cnJ_X4_59 eX4_bounded_12 ?_
    refine V_lcmp G eX4_bounded_15 ?_
    refine V_if_ge G eX4_bounded_16 h (fun h => ?_) (fun h => ?_)
    · refine V_lload_n (i := 0) G eX4_bounded_24 rfl rfl ?_
      refine V_l2i G eX4_bounded_25 ?_
      exact V_ri G hr eX4_bounded_26 h
    · refine V_ldc (v := (-1000000)) G cnI_X4_61 eX4_bounded_19 ?_
      refine V_goto G eX4_bounded_21 ?_
      exact V_ri G hr eX4_bounded_26 h
  · refine V_ldc (v := (nI 1000000)) G cnI_X4_58 eX4_bounded_8 ?_
    exact V_ri G hr eX4_bounded_10 h
theorem Laws_bounded_ok {l : Launch} {w : Wld} {a1 : Int64} {μ : Mem} {r : Int32} (h : Laws_bounded a1 = some r) : CtI l w yX4_bounded cX4_bounded 2 .int 1 [.long a1] μ r μ :=
  Ct_of (own := "PotBook$Laws") [some (.long a1), none] (by decide +kernel) rfl rfl (Nat.le_of_ble_eq_true rfl) fun p e s m args below meth c G hr => Laws_bounded_run G hr h
set_option maxRecDepth 100000 in
set_option maxHeartbeats 4000000 in
theorem Laws_valueOf_l1_ok {p : Program} {l : Launch} {e : Env} {R : Room} {s : State} {m : MethodId} {args : Array Value} {below : List Frame} {meth : Method} {c : Code} {w : Wld} (G : Cxt p R s m args meth c w cX4_valueOf 8 "PotBook$Laws" 2 0 0) (hr : meth.sig.returnType = some .int) {v1 : Int32} {v3 : Int32} {r : Int32} {μ' : Mem} : ∀ {n : Nat} {v4 : Int32} {v5 : Int32} {μ : Mem}, Laws_valueOf_l1 v1 v3 n v4 v5 μ = some (r, μ') → Vj p l e R s m args below meth c w 8 0 0 (MQ below (QI w r μ') args s 0 0 w.2.2.2) 18 [some (.ref (wad w 4 0)), some (.int v1), some (.ref (wad w 918 0)), some (.int v3), some (.int v4), some (.int v5), none, none] [] μ := by
  intro n
  induction n with
  | zero => intro v4 v5 μ h; exact noS h
  | succ n ih =>
    intro v4 v5 μ h
    replace h : Laws_valueOf_l1b v1 v3 (Laws_valueOf_l1 v1 v3 n) v4 v5 μ = some (r, μ') := h
    unfold Laws_valueOf_l1b at h
    refine V_iload G eX4_valueOf_18 rfl ?_
    refine V_iload_n (i := 3) G eX4_valueOf_20 rfl rfl ?_
    refine V_icmp_ge G eX4_valueOf_21 h (fun h => ?_) (fun h => ?_)
    · refine V_iconst (n := 0) (v := (nI 0)) G eX4_valueOf_207 rfl ?_
      exact V_riM G hr eX4_valueOf_208 h
    · refine V_iload G eX4_valueOf_24 rfl ?_
      refine V_iload_n (i := 3) G eX4_valueOf_26 rfl rfl ?_
      refine V_icmp_ge G eX4_valueOf_27 h (fun h => ?_) (fun h => ?_)
      · refine V_iconst (n := 0) (v := (nI 0)) G eX4_valueOf_207 rfl ?_
        exact V_riM G hr eX4_valueOf_208 h
      · refine V_aload_n (i := 0) G eX4_valueOf_30 rfl rfl ?_
        refine V_get (v := .ref (wad w 10500 0)) G fgX4_11 rfl eX4_valueOf_31 ?_
        refine V_iload_n (i := 1) G eX4_valueOf_34 rfl rfl ?_
        refine V_aaldI (id := 500) G al_10500 eX4_valueOf_35 h (fun r1 hr1 h => ?_)
        refine V_iload G eX4_valueOf_36 rfl ?_
        refine V_iald G al_500 hr1 eX4_valueOf_38 h (fun x2 h => ?_)
        refine V_istoreA (i := 6) (L' := [some (.ref (wad w 4 0)), some (.int v1), some (.ref (wad w 918 0)), some (.int v3), some (.int v4), some (.int v5), some (.int x2), none]) G eX4_valueOf_39 (by decide) rfl rfl ?_
        refine V_iinc (z := (nI 1)) (L' := (fun x3 => [some (.ref (wad w 4 0)), some (.int v1), some (.ref (wad w 918 0)), some (.int v3), some (.int x3), some (.int v5), some (.int x2), none])) G eX4_valueOf_41 rfl rfl (by decide) rfl (fun _ => rfl) h (fun x3 h => ?_)
        refine V_iload G eX4_valueOf_44 rfl ?_
        refine V_sipush (n := 10000) (v := (nI 10000)) G eX4_valueOf_46 rfl ?_
        refine V_icmp_ge G eX4_valueOf_49 h (fun h => ?_) (fun h => ?_)
        · refine V_iload G eX4_valueOf_61 rfl ?_
          refine V_sipush (n := 10100) (v := (nI 10100)) G eX4_valueOf_63 rfl ?_
          refine V_icmp_ge G eX4_valueOf_66 h (fun h => ?_) (fun h => ?_)
          · refine V_iload G eX4_valueOf_99 rfl ?_
            refine V_sipush (n := 10110) (v := (nI 10110)) G eX4_valueOf_101 rfl ?_
            refine V_icmp_ne G eX4_valueOf_104 h (fun h => ?_) (fun h => ?_)
            · refine V_iload G eX4_valueOf_141 rfl ?_
              refine V_sipush (n := 10111) (v := (nI 10111)) G eX4_valueOf_143 rfl ?_
              refine V_icmp_ne G eX4_valueOf_146 h (fun h => ?_) (fun h => ?_)
              · refine V_iload G eX4_valueOf_154 rfl ?_
                refine V_sipush (n := 10109) (v := (nI 10109)) G eX4_valueOf_156 rfl ?_
                obtain ⟨μ14, hj, h⟩ := bdS h
                have J : Vj p l e R s m args below meth c w 8 0 0 (MQ below (QI w r μ') args s 0 0 w.2.2.2) 201 [some (.ref (wad w 4 0)), some (.int v1), some (.ref (wad w 918 0)), some (.int v3), some (.int x3), some (.int v5), none, none] [] μ14 := by
                  clear hj
                  refine V_iinc (z := (nI 1)) (L' := (fun x15 => [some (.ref (wad w 4 0)), some (.int v1), some (.ref (wad w 918 0)), some (.int v3), some (.int x3), some (.int x15), none, none])) G eX4_valueOf_201 rfl rfl (by decide) rfl (fun _ => rfl) h (fun x15 h => ?_)
                  refine V_goto G eX4_valueOf_204 ?_
                  exact (ih h)
                replace h := hj
                clear hj
                refine V_icmp_ne G eX4_valueOf_159 h (fun h => ?_) (fun h => ?_)
                · refine V_aload_n (i := 0) G eX4_valueOf_175 rfl rfl ?_
                  obtain ⟨⟨x4, μ5⟩, h1, h⟩ := bdS h
                  refine V_callI (As := []) (st := []) G lkX4_44 (Laws_pop_ok h1) (by decide) rfl rfl (Nat.le_of_ble_eq_true rfl) eX4_valueOf_176 ?_
                  refine V_istoreA (i := 7) (L' := [some (.ref (wad w 4 0)), some (.int v1), some (.ref (wad w 918 0)), some (.int v3), some (.int x3), some (.int v5), some (.int x2), some (.int x4)]) G eX4_valueOf_179 (by decide) rfl rfl ?_
                  refine V_aload_n (i := 0) G eX4_valueOf_181 rfl rfl ?_
                  refine V_iload G eX4_valueOf_182 rfl ?_
                  refine V_aload_n (i := 0) G eX4_valueOf_184 rfl rfl ?_
                  obtain ⟨⟨x6, μ7⟩, h1, h⟩ := bdS h
                  refine V_callI (As := []) (st := [.int x2, .ref (wad w 4 0)]) G lkX4_44 (Laws_pop_ok h1) (by decide) rfl rfl (Nat.le_of_ble_eq_true rfl) eX4_valueOf_185 ?_
                  refine V_i2l G eX4_valueOf_188 ?_
                  refine V_iload G eX4_valueOf_189 rfl ?_
                  refine V_i2l G eX4_valueOf_191 ?_
                  obtain ⟨x8, h1, h⟩ := bdS h
                  refine V_callLS (As := [.int x2, .long (x6.toInt64), .long (x4.toInt64)]) (st := [.ref (wad w 4 0)]) G lkX4_48 (Laws_joined_ok (μ := μ7) h1) (by decide) rfl rfl (Nat.le_of_ble_eq_true rfl) eX4_valueOf_192 ?_
                  obtain ⟨x9, h1, h⟩ := bdS h
                  refine V_callIS (As := [.long x8]) (st := [.ref (wad w 4 0)]) G lkX4_52 (Laws_bounded_ok (μ := μ7) h1) (by decide) rfl rfl (Nat.le_of_ble_eq_true rfl) eX4_valueOf_195 ?_
                  obtain ⟨μ10, h1, h⟩ := bdS h
                  refine V_callV (As := [.int x9]) (st := []) G lkX4_40 (Laws_push_ok h1) (by decide) rfl rfl (Nat.le_of_ble_eq_true rfl) eX4_valueOf_198 ?_
                  cases h; exact V_sub (lS_s (lS_s (lS_s (lS_s (lS_s (lS_s (lS_n (lS_n lS_0)))))))) J
                · refine V_aload_n (i := 0) G eX4_valueOf_162 rfl rfl ?_
                  refine V_iconst (n := 1) (v := (nI 1)) G eX4_valueOf_163 rfl ?_
                  refine V_aload_n (i := 0) G eX4_valueOf_164 rfl rfl ?_
                  obtain ⟨⟨x11, μ12⟩, h1, h⟩ := bdS h
                  refine V_callI (As := []) (st := [.int (nI 1), .ref (wad w 4 0)]) G lkX4_44 (Laws_pop_ok h1) (by decide) rfl rfl (Nat.le_of_ble_eq_true rfl) eX4_valueOf_165 ?_
                  refine V_isub G eX4_valueOf_168 ?_
                  obtain ⟨μ13, h1, h⟩ := bdS h
                  refine V_callV (As := [.int ((nI 1) - x11)]) (st := []) G lkX4_40 (Laws_push_ok h1) (by decide) rfl rfl (Nat.le_of_ble_eq_true rfl) eX4_valueOf_169 ?_
                  refine V_goto G eX4_valueOf_172 ?_
                  cases h; exact V_sub (lS_s (lS_s (lS_s (lS_s (lS_s (lS_s (lS_n (lS_n lS_0)))))))) J
              · refine V_aload_n (i := 0) G eX4_valueOf_149 rfl rfl ?_
                obtain ⟨⟨x16, μ17⟩, h1, h⟩ := bdS h
                refine V_callI (As := []) (st := []) G lkX4_44 (Laws_pop_ok h1) (by decide) rfl rfl (Nat.le_of_ble_eq_true rfl) eX4_valueOf_150 ?_
                exact V_riM G hr eX4_valueOf_153 h
            · refine V_aload_n (i := 0) G eX4_valueOf_107 rfl rfl ?_
              obtain ⟨⟨x18, μ19⟩, h1, h⟩ := bdS h
              refine V_callI (As := []) (st := []) G lkX4_44 (Laws_pop_ok h1) (by decide) rfl rfl (Nat.le_of_ble_eq_true rfl) eX4_valueOf_108 ?_
              obtain ⟨x22, hj, h⟩ := bdS h
              have J : Vj p l e R s m args below meth c w 8 0 0 (MQ below (QI w r μ') args s 0 0 w.2.2.2) 136 [some (.ref (wad w 4 0)), some (.int v1), some (.ref (wad w 918 0)), some (.int v3), none, some (.int v5), none, none] [.int x22] μ19 := by
                clear hj
                refine V_istoreA (i := 4) (L' := [some (.ref (wad w 4 0)), some (.int v1), some (.ref (wad w 918 0)), some (.int v3), some (.int x22), some (.int v5), none, none]) G eX4_valueOf_136 (by decide) rfl rfl ?_
                refine V_goto G eX4_valueOf_138 ?_
                refine V_iinc (z := (nI 1)) (L' := (fun x23 => [some (.ref (wad w 4 0)), some (.int v1), some (.ref (wad w 918 0)), some (.int v3), some (.int x22), some (.int x23), none, none])) G eX4_valueOf_201 rfl rfl (by decide) rfl (fun _ => rfl) h (fun x23 h => ?_)
                refine V_goto G eX4_valueOf_204 ?_
                exact (ih h)
              replace h := hj
              clear hj
              refine V_if_ne G eX4_valueOf_111 h (fun h => ?_) (fun h => ?_)
              · refine V_iload G eX4_valueOf_132 rfl ?_
                refine V_iconst (n := 1) (v := (nI 1)) G eX4_valueOf_134 rfl ?_
                refine V_iadd G eX4_valueOf_135 ?_
                cases h; exact V_sub (lS_s (lS_s (lS_s (lS_s (lS_n (lS_s (lS_n (lS_n lS_0)))))))) J
              · refine V_iload G eX4_valueOf_114 rfl ?_
                refine V_iload_n (i := 3) G eX4_valueOf_116 rfl rfl ?_
                refine V_icmp_ge G eX4_valueOf_117 h (fun h => ?_) (fun h => ?_)
                · refine V_iload G eX4_valueOf_132 rfl ?_
                  refine V_iconst (n := 1) (v := (nI 1)) G eX4_valueOf_134 rfl ?_
                  refine V_iadd G eX4_valueOf_135 ?_
                  cases h; exact V_sub (lS_s (lS_s (lS_s (lS_s (lS_n (lS_s (lS_n (lS_n lS_0)))))))) J
                · refine V_aload_n (i := 0) G eX4_valueOf_120 rfl rfl ?_
                  refine V_get (v := .ref (wad w 10500 0)) G fgX4_11 rfl eX4_valueOf_121 ?_
                  refine V_iload_n (i := 1) G eX4_valueOf_124 rfl rfl ?_
                  refine V_aaldI (id := 500) G al_10500 eX4_valueOf_125 h (fun r20 hr20 h => ?_)
                  refine V_iload G eX4_valueOf_126 rfl ?_
                  refine V_iald G al_500 hr20 eX4_valueOf_128 h (fun x21 h => ?_)
                  refine V_goto G eX4_valueOf_129 ?_
                  cases h; exact V_sub (lS_s (lS_s (lS_s (lS_s (lS_n (lS_s (lS_n (lS_n lS_0)))))))) J
          · refine V_aload_n (i := 0) G eX4_valueOf_69 rfl rfl ?_
            refine V_iload G eX4_valueOf_70 rfl ?_
            refine V_sipush (n := 10000) (v := (nI 10000)) G eX4_valueOf_72 rfl ?_
            refine V_isub G eX4_valueOf_75 ?_
            refine V_aload_n (i := 2) G eX4_valueOf_76 rfl rfl ?_
            refine V_alen (v := nI 9) G al_918 (by decide) rfl eX4_valueOf_77 ?_
            obtain ⟨x25, hj, h⟩ := bdS h
            have J : Vj p l e R s m args below meth c w 8 0 0 (MQ below (QI w r μ') args s 0 0 w.2.2.2) 93 [some (.ref (wad w 4 0)), some (.int v1), some (.ref (wad w 918 0)), some (.int v3), some (.int x3), some (.int v5), none, none] [.int x25, .ref (wad w 4 0)] μ := by
              clear hj
              obtain ⟨μ26, h1, h⟩ := bdS h
              refine V_callV (As := [.int x25]) (st := []) G lkX4_40 (Laws_push_ok h1) (by decide) rfl rfl (Nat.le_of_ble_eq_true rfl) eX4_valueOf_93 ?_
              refine V_goto G eX4_valueOf_96 ?_
              refine V_iinc (z := (nI 1)) (L' := (fun x27 => [some (.ref (wad w 4 0)), some (.int v1), some (.ref (wad w 918 0)), some (.int v3), some (.int x3), some (.int x27), none, none])) G eX4_valueOf_201 rfl rfl (by decide) rfl (fun _ => rfl) h (fun x27 h => ?_)
              refine V_goto G eX4_valueOf_204 ?_
              exact (ih h)
            replace h := hj
            clear hj
            refine V_icmp_ge G eX4_valueOf_78 h (fun h => ?_) (fun h => ?_)
            · refine V_iconst (n := 0) (v := (nI 0)) G eX4_valueOf_92 rfl ?_
              cases h; exact V_sub (lS_s (lS_s (lS_s (lS_s (lS_s (lS_s (lS_n (lS_n lS_0)))))))) J
            · refine V_aload_n (i := 2) G eX4_valueOf_81 rfl rfl ?_
              refine V_iload G eX4_valueOf_82 rfl ?_
              refine V_sipush (n := 10000) (v := (nI 10000)) G eX4_valueOf_84 rfl ?_
              refine V_isub G eX4_valueOf_87 ?_
              refine V_iald G al_918 (by decide) eX4_valueOf_88 h (fun x24 h => ?_)
              refine V_goto G eX4_valueOf_89 ?_
              cases h; exact V_sub (lS_s (lS_s (lS_s (lS_s (lS_s (lS_s (lS_n (lS_n lS_0)))))))) J
        · refine V_aload_n (i := 0) G eX4_valueOf_52 rfl rfl ?_
          refine V_iload G eX4_valueOf_53 rfl ?_
          obtain ⟨μ28, h1, h⟩ := bdS h
          refine V_callV (As := [.int x2]) (st := []) G lkX4_40 (Laws_push_ok h1) (by decide) rfl rfl (Nat.le_of_ble_eq_true rfl) eX4_valueOf_55 ?_
          refine V_goto G eX4_valueOf_58 ?_
          refine V_iinc (z := (nI 1)) (L' := (fun x29 => [some (.ref (wad w 4 0)), some (.int v1), some (.ref (wad w 918 0)), some (.int v3), some (.int x3), some (.int x29), some (.int x2), none])) G eX4_valueOf_201 rfl rfl (by decide) rfl (fun _ => rfl) h (fun x29 h => ?_)
          refine V_goto G eX4_valueOf_204 ?_
          exact V_sub (lS_s (lS_s (lS_s (lS_s (lS_s (lS_s (lS_n (lS_n lS_0)))))))) (ih h)
set_option maxRecDepth 100000 in
set_option maxHeartbeats 4000000 in
theorem Laws_valueOf_run {p : Program} {l : Launch} {e : Env} {R : Room} {s : State} {m : MethodId} {args : Array Value} {below : List Frame} {meth : Method} {c : Code} {w : Wld} (G : Cxt p R s m args meth c w cX4_valueOf 8 "PotBook$Laws" 2 0 0) (hr : meth.sig.returnType = some .int) {a1 : Int32} {μ : Mem} {r : Int32} {μ' : Mem} (h : Laws_valueOf a1 μ = some (r, μ')) : Vj p l e R s m args below meth c w 8 0 0 (MQ below (QI w r μ') args s 0 0 w.2.2.2) 0 [some (.ref (wad w 4 0)), some (.int a1), some (.ref (wad w 918 0)), none, none, none, none, none] [] μ := by
  unfold Laws_valueOf at h
  refine V_aload_n (i := 0) G eX4_valueOf_0 rfl rfl ?_
  refine V_get (v := .ref (wad w 501 0)) G fgX4_16 rfl eX4_valueOf_1 ?_
  refine V_iload_n (i := 1) G eX4_valueOf_4 rfl rfl ?_
  refine V_iald G al_501 (by decide) eX4_valueOf_5 h (fun x1 h => ?_)
  refine V_istoreA_n (i := 3) (L' := [some (.ref (wad w 4 0)), some (.int a1), some (.ref (wad w 918 0)), some (.int x1), none, none, none, none]) G rfl eX4_valueOf_6 (by decide) rfl rfl ?_
  refine V_iconst (n := 0) (v := (nI 0)) G eX4_valueOf_7 rfl ?_
  refine V_istoreA (i := 4) (L' := [some (.ref (wad w 4 0)), some (.int a1), some (.ref (wad w 918 0)), some (.int x1), some (.int (nI 0)), none, none, none]) G eX4_valueOf_8 (by decide) rfl rfl ?_
  refine V_aload_n (i := 0) G eX4_valueOf_10 rfl rfl ?_
  refine V_iconst (n := 0) (v := (nI 0)) G eX4_valueOf_11 rfl ?_
  refine V_put G fgX4_37 fp_4_3 eX4_valueOf_12 h (fun μ2 h => ?_)
  refine V_iconst (n := 0) (v := (nI 0)) G eX4_valueOf_15 rfl ?_
  refine V_istoreA (i := 5) (L' := [some (.ref (wad w 4 0)), some (.int a1), some (.ref (wad w 918 0)), some (.int x1), some (.int (nI 0)), some (.int (nI 0)), none, none]) G eX4_valueOf_16 (by decide) rfl rfl ?_
  exact Laws_valueOf_l1_ok G hr h
theorem Laws_valueOf_ok {l : Launch} {w : Wld} {a1 : Int32} {μ : Mem} {r : Int32} {μ' : Mem} (h : Laws_valueOf a1 μ = some (r, μ')) : CtI l w yX4_valueOf cX4_valueOf 8 .int 2 [.ref (wad w 4 0), .int a1, .ref (wad w 918 0)] μ r μ' :=
  Ct_of (own := "PotBook$Laws") [some (.ref (wad w 4 0)), some (.int a1), some (.ref (wad w 918 0)), none, none, none, none, none] (by decide +kernel) rfl rfl (Nat.le_of_ble_eq_true rfl) fun p e s m args below meth c G hr => Laws_valueOf_run G hr h
set_option maxRecDepth 100000 in
set_option maxHeartbeats 4000000 in
theorem Pot_keepsHolds_l1_ok {p : Program} {l : Launch} {e : Env} {R : Room} {s : State} {m : MethodId} {args : Array Value} {below : List Frame} {meth : Method} {c : Code} {w : Wld} (G : Cxt p R s m args meth c w cX8_keepsHolds 4 "PotBook$Pot" 3 0 0) (hr : meth.sig.returnType = some .boolean) {v1 : Int32} {r : Int32} {μ' : Mem} : ∀ {n : Nat} {v2 : Int32} {μ : Mem}, Pot_keepsHolds_l1 v1 n v2 μ = some (r, μ') → Vj p l e R s m args below meth c w 4 0 0 (MQ below (QI w r μ') args s 0 0 w.2.2.2) 2 [some (.ref (wad w 8 0)), some (.int v1), some (.int v2), none] [] μ := by
  intro n
  induction n with
  | zero => intro v2 μ h; exact noS h
  | succ n ih =>
    intro v2 μ h
    replace h : Pot_keepsHolds_l1b v1 (Pot_keepsHolds_l1 v1 n) v2 μ = some (r, μ') := h
    unfold Pot_keepsHolds_l1b at h
    refine V_iload_n (i := 2) G eX8_keepsHolds_2 rfl rfl ?_
    refine V_aload_n (i := 0) G eX8_keepsHolds_3 rfl rfl ?_
    refine V_get (v := .ref (wad w 4 0)) G fgX8_65 rfl eX8_keepsHolds_4 ?_
    refine V_get (v := .int (mI μ 504 0 0)) G fgX8_132 rfl eX8_keepsHolds_7 ?_
    refine V_icmp_ge G eX8_keepsHolds_10 h (fun h => ?_) (fun h => ?_)
    · refine V_iconst (n := 1) (v := (nI 1)) G eX8_keepsHolds_71 rfl ?_
      exact V_rzM G hr eX8_keepsHolds_72 h
    · refine V_aload_n (i := 0) G eX8_keepsHolds_13 rfl rfl ?_
      refine V_get (v := .ref (wad w 905 0)) G fgX8_15 rfl eX8_keepsHolds_14 ?_
      refine V_iload_n (i := 1) G eX8_keepsHolds_17 rfl rfl ?_
      refine V_iald G al_905 (by decide) eX8_keepsHolds_18 h (fun x1 h => ?_)
      refine V_iload_n (i := 2) G eX8_keepsHolds_19 rfl rfl ?_
      obtain ⟨x2, h1, h⟩ := bdS h
      refine V_callIS (As := [.int x1, .int v2]) (st := []) G lkX8_75 (B_holdsBit_ok (μ := μ) h1) (by decide) rfl rfl (Nat.le_of_ble_eq_true rfl) eX8_keepsHolds_20 ?_
      refine V_if_eq G eX8_keepsHolds_23 h (fun h => ?_) (fun h => ?_)
      · refine V_iinc (z := (nI 1)) (L' := (fun x3 => [some (.ref (wad w 8 0)), some (.int v1), some (.int x3), none])) G eX8_keepsHolds_65 rfl rfl (by decide) rfl (fun _ => rfl) h (fun x3 h => ?_)
        refine V_goto G eX8_keepsHolds_68 ?_
        exact (ih h)
      · refine V_aload_n (i := 0) G eX8_keepsHolds_26 rfl rfl ?_
        refine V_get (v := .ref (wad w 4 0)) G fgX8_65 rfl eX8_keepsHolds_27 ?_
        refine V_iload_n (i := 2) G eX8_keepsHolds_30 rfl rfl ?_
        refine V_aload_n (i := 0) G eX8_keepsHolds_31 rfl rfl ?_
        refine V_get (v := .ref (wad w 918 0)) G fgX8_54 rfl eX8_keepsHolds_32 ?_
        obtain ⟨⟨x4, μ5⟩, h1, h⟩ := bdS h
        refine V_callI (As := [.int v2, .ref (wad w 918 0)]) (st := []) G lkX8_137 (Laws_valueOf_ok h1) (by decide) rfl rfl (Nat.le_of_ble_eq_true rfl) eX8_keepsHolds_35 ?_
        refine V_istoreA_n (i := 3) (L' := [some (.ref (wad w 8 0)), some (.int v1), some (.int v2), some (.int x4)]) G rfl eX8_keepsHolds_38 (by decide) rfl rfl ?_
        refine V_iload_n (i := 3) G eX8_keepsHolds_39 rfl rfl ?_
        refine V_aload_n (i := 0) G eX8_keepsHolds_40 rfl rfl ?_
        refine V_get (v := .ref (wad w 10906 0)) G fgX8_21 rfl eX8_keepsHolds_41 ?_
        refine V_iload_n (i := 1) G eX8_keepsHolds_44 rfl rfl ?_
        refine V_aaldI (id := 906) G al_10906 eX8_keepsHolds_45 h (fun r6 hr6 h => ?_)
        refine V_iload_n (i := 2) G eX8_keepsHolds_46 rfl rfl ?_
        refine V_iald G al_906 hr6 eX8_keepsHolds_47 h (fun x7 h => ?_)
        refine V_icmp_lt G eX8_keepsHolds_48 h (fun h => ?_) (fun h => ?_)
        · refine V_iconst (n := 0) (v := (nI 0)) G eX8_keepsHolds_63 rfl ?_
          exact V_rzM G hr eX8_keepsHolds_64 h
        · refine V_iload_n (i := 3) G eX8_keepsHolds_51 rfl rfl ?_
          refine V_aload_n (i := 0) G eX8_keepsHolds_52 rfl rfl ?_
          refine V_get (v := .ref (wad w 10907 0)) G fgX8_24 rfl eX8_keepsHolds_53 ?_
          refine V_iload_n (i := 1) G eX8_keepsHolds_56 rfl rfl ?_
          refine V_aaldI (id := 907) G al_10907 eX8_keepsHolds_57 h (fun r8 hr8 h => ?_)
          refine V_iload_n (i := 2) G eX8_keepsHolds_58 rfl rfl ?_
          refine V_iald G al_907 hr8 eX8_keepsHolds_59 h (fun x9 h => ?_)
          refine V_icmp_le G eX8_keepsHolds_60 h (fun h => ?_) (fun h => ?_)
          · refine V_iinc (z := (nI 1)) (L' := (fun x10 => [some (.ref (wad w 8 0)), some (.int v1), some (.int x10), some (.int x4)])) G eX8_keepsHolds_65 rfl rfl (by decide) rfl (fun _ => rfl) h (fun x10 h => ?_)
            refine V_goto G eX8_keepsHolds_68 ?_
            exact V_sub (lS_s (lS_s (lS_s (lS_n lS_0)))) (ih h)
          · refine V_iconst (n := 0) (v := (nI 0)) G eX8_keepsHolds_63 rfl ?_
            exact V_rzM G hr eX8_keepsHolds_64 h
set_option maxRecDepth 100000 in
set_option maxHeartbeats 4000000 in
theorem Pot_keepsHolds_run {p : Program} {l : Launch} {e : Env} {R : Room} {s : State} {m : MethodId} {args : Array Value} {below : List Frame} {meth : Method} {c : Code} {w : Wld} (G : Cxt p R s m args meth c w cX8_keepsHolds 4 "PotBook$Pot" 3 0 0) (hr : meth.sig.returnType = some .boolean) {a1 : Int32} {μ : Mem} {r : Int32} {μ' : Mem} (h : Pot_keepsHolds a1 μ = some (r, μ')) : Vj p l e R s m args below meth c w 4 0 0 (MQ below (QI w r μ') args s 0 0 w.2.2.2) 0 [some (.ref (wad w 8 0)), some (.int a1), none, none] [] μ := by
  unfold Pot_keepsHolds at h
  refine V_iconst (n := 0) (v := (nI 0)) G eX8_keepsHolds_0 rfl ?_
  refine V_istoreA_n (i := 2) (L' := [some (.ref (wad w 8 0)), some (.int a1), some (.int (nI 0)), none]) G rfl eX8_keepsHolds_1 (by decide) rfl rfl ?_
  exact Pot_keepsHolds_l1_ok G hr h
theorem Pot_keepsHolds_ok {l : Launch} {w : Wld} {a1 : Int32} {μ : Mem} {r : Int32} {μ' : Mem} (h : Pot_keepsHolds a1 μ = some (r, μ')) : CtI l w yX8_keepsHolds cX8_keepsHolds 4 .boolean 3 [.ref (wad w 8 0), .int a1] μ r μ' :=
  Ct_of (own := "PotBook$Pot") [some (.ref (wad w 8 0)), some (.int a1), none, none] (by decide +kernel) rfl rfl (Nat.le_of_ble_eq_true rfl) fun p e s m args below meth c G hr => Pot_keepsHolds_run G hr h
set_option maxRecDepth 100000 in
set_option maxHeartbeats 4000000 in
theorem Pot_keep_run {p : Program} {l : Launch} {e : Env} {R : Room} {s : State} {m : MethodId} {args : Array Value} {below : List Frame} {meth : Method} {c : Code} {w : Wld} (G : Cxt p R s m args meth c w cX8_keep 4 "PotBook$Pot" 1 0 0) (hr : meth.sig.returnType = none) {a1 : Int32} {a2 : Int32} {μ : Mem} {μ' : Mem} (h : Pot_keep a1 a2 μ = some μ') : Vj p l e R s m args below meth c w 4 0 0 (MQ below (QV w μ') args s 0 0 w.2.2.2) 0 [some (.ref (wad w 8 0)), some (.int a1), some (.int a2), none] [] μ := by
  unfold Pot_keep at h
  refine V_aload_n (i := 0) G eX8_keep_0 rfl rfl ?_
  refine V_get (v := .ref (wad w 910 0)) G fgX8_30 rfl eX8_keep_1 ?_
  refine V_iload_n (i := 1) G eX8_keep_4 rfl rfl ?_
  refine V_iald G al_910 (by decide) eX8_keep_5 h (fun x1 h => ?_)
  refine V_istoreA_n (i := 3) (L' := [some (.ref (wad w 8 0)), some (.int a1), some (.int a2), some (.int x1)]) G rfl eX8_keep_6 (by decide) rfl rfl ?_
  refine V_iload_n (i := 3) G eX8_keep_7 rfl rfl ?_
  obtain ⟨μ4, hj, h⟩ := bdS h
  have J : Vj p l e R s m args below meth c w 4 0 0 (MQ below (QV w μ') args s 0 0 w.2.2.2) 28 [some (.ref (wad w 8 0)), some (.int a1), some (.int a2), some (.int x1)] [] μ4 := by
    clear hj
    refine V_aload_n (i := 0) G eX8_keep_28 rfl rfl ?_
    refine V_get (v := .ref (wad w 913 0)) G fgX8_39 rfl eX8_keep_29 ?_
    refine V_iload_n (i := 3) G eX8_keep_32 rfl rfl ?_
    refine V_iload_n (i := 2) G eX8_keep_33 rfl rfl ?_
    refine V_iast G al_913 (by decide) eX8_keep_34 h (fun μ5 h => ?_)
    refine V_aload_n (i := 0) G eX8_keep_35 rfl rfl ?_
    refine V_get (v := .ref (wad w 910 0)) G fgX8_30 rfl eX8_keep_36 ?_
    refine V_iload_n (i := 1) G eX8_keep_39 rfl rfl ?_
    refine V_iload_n (i := 3) G eX8_keep_40 rfl rfl ?_
    refine V_iconst (n := 1) (v := (nI 1)) G eX8_keep_41 rfl ?_
    refine V_iadd G eX8_keep_42 ?_
    refine V_iast G al_910 (by decide) eX8_keep_43 h (fun μ6 h => ?_)
    exact V_rvM G hr eX8_keep_44 h
  replace h := hj
  clear hj
  refine V_if_ne G eX8_keep_8 h (fun h => ?_) (fun h => ?_)
  · cases h; exact J
  · refine V_aload_n (i := 0) G eX8_keep_11 rfl rfl ?_
    refine V_get (v := .ref (wad w 917 0)) G fgX8_51 rfl eX8_keep_12 ?_
    refine V_iconst (n := 0) (v := (nI 0)) G eX8_keep_15 rfl ?_
    refine V_aload_n (i := 0) G eX8_keep_16 rfl rfl ?_
    refine V_get (v := .ref (wad w 10911 0)) G fgX8_33 rfl eX8_keep_17 ?_
    refine V_iload_n (i := 1) G eX8_keep_20 rfl rfl ?_
    refine V_aaldI (id := 911) G al_10911 eX8_keep_21 h (fun r2 hr2 h => ?_)
    refine V_iconst (n := 0) (v := (nI 0)) G eX8_keep_22 rfl ?_
    refine V_bipush (n := 8) (v := (nI 8)) G eX8_keep_23 rfl ?_
    refine V_copy (v := 917) (r := 0) (v' := 911) (r' := r2) G al_917 (by decide) al_911 hr2 cpyX8_104 (by decide) (by decide) (by decide) (by decide) (by decide) eX8_keep_25 h (fun μ3 h => ?_)
    cases h; exact J
theorem Pot_keep_ok {l : Launch} {w : Wld} {a1 : Int32} {a2 : Int32} {μ : Mem} {μ' : Mem} (h : Pot_keep a1 a2 μ = some μ') : CtV l w yX8_keep cX8_keep 4 1 [.ref (wad w 8 0), .int a1, .int a2] μ μ' :=
  Ct_of (own := "PotBook$Pot") [some (.ref (wad w 8 0)), some (.int a1), some (.int a2), none] (by decide +kernel) rfl rfl (Nat.le_of_ble_eq_true rfl) fun p e s m args below meth c G hr => Pot_keep_run G hr h
set_option maxRecDepth 100000 in
set_option maxHeartbeats 4000000 in
theorem Pot_lay_l1_ok {p : Program} {l : Launch} {e : Env} {R : Room} {s : State} {m : MethodId} {args : Array Value} {below : List Frame} {meth : Method} {c : Code} {w : Wld} {Q : State → Prop} (G : Cxt p R s m args meth c w cX8_lay 4 "PotBook$Pot" 4 0 0) {v1 : Int32} {v2 : Int32} {μo : Mem} : ∀ {n : Nat} {v3 : Int32} {μ : Mem}, Pot_lay_l1 v1 v2 n v3 μ = some μo → Vj p l e R s m args below meth c w 4 0 0 Q 106 [some (.ref (wad w 8 0)), some (.int v1), none, none] [] μo → Vj p l e R s m args below meth c w 4 0 0 Q 69 [some (.ref (wad w 8 0)), some (.int v1), some (.int v2), some (.int v3)] [] μ := by
  intro n
  induction n with
  | zero => intro v3 μ h K; exact noS h
  | succ n ih =>
    intro v3 μ h K
    replace h : Pot_lay_l1b v1 v2 (Pot_lay_l1 v1 v2 n) v3 μ = some μo := h
    unfold Pot_lay_l1b at h
    refine V_iload_n (i := 3) G eX8_lay_69 rfl rfl ?_
    refine V_iload_n (i := 2) G eX8_lay_70 rfl rfl ?_
    refine V_icmp_ge G eX8_lay_71 h (fun h => ?_) (fun h => ?_)
    · cases h; exact V_sub (lS_s (lS_s (lS_n (lS_n lS_0)))) K
    · refine V_iload_n (i := 2) G eX8_lay_74 rfl rfl ?_
      refine V_sipush (n := 5000) (v := (nI 5000)) G eX8_lay_75 rfl ?_
      refine V_icmp_gt G eX8_lay_78 h (fun h => ?_) (fun h => ?_)
      · cases h; exact V_sub (lS_s (lS_s (lS_n (lS_n lS_0)))) K
      · refine V_aload_n (i := 0) G eX8_lay_81 rfl rfl ?_
        refine V_iload_n (i := 3) G eX8_lay_82 rfl rfl ?_
        obtain ⟨μ1, h1, h⟩ := bdS h
        refine V_callV (As := [.int v3]) (st := []) G lkX8_92 (Pot_spread_ok h1) (by decide) rfl rfl (Nat.le_of_ble_eq_true rfl) eX8_lay_83 ?_
        refine V_aload_n (i := 0) G eX8_lay_86 rfl rfl ?_
        refine V_iload_n (i := 1) G eX8_lay_87 rfl rfl ?_
        obtain ⟨⟨x2, μ3⟩, h1, h⟩ := bdS h
        refine V_callI (As := [.int v1]) (st := []) G lkX8_96 (Pot_keepsHolds_ok h1) (by decide) rfl rfl (Nat.le_of_ble_eq_true rfl) eX8_lay_88 ?_
        obtain ⟨μ5, hj, h⟩ := bdS h
        have J : Vj p l e R s m args below meth c w 4 0 0 Q 100 [some (.ref (wad w 8 0)), some (.int v1), some (.int v2), some (.int v3)] [] μ5 := by
          clear hj
          refine V_iinc (z := (nI 1)) (L' := (fun x6 => [some (.ref (wad w 8 0)), some (.int v1), some (.int v2), some (.int x6)])) G eX8_lay_100 rfl rfl (by decide) rfl (fun _ => rfl) h (fun x6 h => ?_)
          refine V_goto G eX8_lay_103 ?_
          exact (ih h K)
        replace h := hj
        clear hj
        refine V_if_eq G eX8_lay_91 h (fun h => ?_) (fun h => ?_)
        · cases h; exact J
        · refine V_aload_n (i := 0) G eX8_lay_94 rfl rfl ?_
          refine V_iload_n (i := 1) G eX8_lay_95 rfl rfl ?_
          refine V_iload_n (i := 3) G eX8_lay_96 rfl rfl ?_
          obtain ⟨μ4, h1, h⟩ := bdS h
          refine V_callV (As := [.int v1, .int v3]) (st := []) G lkX8_100 (Pot_keep_ok h1) (by decide) rfl rfl (Nat.le_of_ble_eq_true rfl) eX8_lay_97 ?_
          cases h; exact J
set_option maxRecDepth 100000 in
set_option maxHeartbeats 4000000 in
theorem Pot_lay_run {p : Program} {l : Launch} {e : Env} {R : Room} {s : State} {m : MethodId} {args : Array Value} {below : List Frame} {meth : Method} {c : Code} {w : Wld} (G : Cxt p R s m args meth c w cX8_lay 4 "PotBook$Pot" 4 0 0) (hr : meth.sig.returnType = some .int) {a1 : Int32} {μ : Mem} {r : Int32} {μ' : Mem} (h : Pot_lay a1 μ = some (r, μ')) : Vj p l e R s m args below meth c w 4 0 0 (MQ below (QI w r μ') args s 0 0 w.2.2.2) 0 [some (.ref (wad w 8 0)), some (.int a1), none, none] [] μ := by
  unfold Pot_lay at h
  refine V_aload_n (i := 0) G eX8_lay_0 rfl rfl ?_
  refine V_get (v := .int (mI μ 912 0 0)) G fgX8_36 rfl eX8_lay_1 ?_
  refine V_iload_n (i := 1) G eX8_lay_4 rfl rfl ?_
  obtain ⟨k3, hkk3, h⟩ := kE h
  have Jk3 :  k3 () = some (r, μ') → Vj p l e R s m args below meth c w 4 0 0 (MQ below (QI w r μ') args s 0 0 w.2.2.2) 28 [some (.ref (wad w 8 0)), some (.int a1), none, none] [] μ := by
    clear h
    intro h
    rw [hkk3] at h
    clear hkk3
    refine V_aload_n (i := 0) G eX8_lay_28 rfl rfl ?_
    refine V_iload_n (i := 1) G eX8_lay_29 rfl rfl ?_
    refine V_put G fgX8_36 fp_8_12 eX8_lay_30 h (fun μ4 h => ?_)
    refine V_aload_n (i := 0) G eX8_lay_33 rfl rfl ?_
    refine V_get (v := .ref (wad w 909 0)) G fgX8_27 rfl eX8_lay_34 ?_
    refine V_iload_n (i := 1) G eX8_lay_37 rfl rfl ?_
    refine V_aload_n (i := 0) G eX8_lay_38 rfl rfl ?_
    refine V_get (v := .int (mI μ4 908 0 0)) G fgX8_69 rfl eX8_lay_39 ?_
    refine V_iast G al_909 (by decide) eX8_lay_42 h (fun μ5 h => ?_)
    refine V_aload_n (i := 0) G eX8_lay_43 rfl rfl ?_
    refine V_iload_n (i := 1) G eX8_lay_44 rfl rfl ?_
    obtain ⟨⟨x6, μ7⟩, h1, h⟩ := bdS h
    refine V_callI (As := [.int a1]) (st := []) G lkX8_88 (Pot_frame_ok h1) (by decide) rfl rfl (Nat.le_of_ble_eq_true rfl) eX8_lay_45 ?_
    refine V_istoreA_n (i := 2) (L' := [some (.ref (wad w 8 0)), some (.int a1), some (.int x6), none]) G rfl eX8_lay_48 (by decide) rfl rfl ?_
    refine V_aload_n (i := 0) G eX8_lay_49 rfl rfl ?_
    refine V_get (v := .ref (wad w 910 0)) G fgX8_30 rfl eX8_lay_50 ?_
    refine V_iload_n (i := 1) G eX8_lay_53 rfl rfl ?_
    refine V_iload_n (i := 2) G eX8_lay_54 rfl rfl ?_
    refine V_sipush (n := 5000) (v := (nI 5000)) G eX8_lay_55 rfl ?_
    obtain ⟨x8, hj, h⟩ := bdS h
    have J : Vj p l e R s m args below meth c w 4 0 0 (MQ below (QI w r μ') args s 0 0 w.2.2.2) 66 [some (.ref (wad w 8 0)), some (.int a1), some (.int x6), none] [.int x8, .int a1, .ref (wad w 910 0)] μ7 := by
      clear hj
      refine V_iast G al_910 (by decide) eX8_lay_66 h (fun μ9 h => ?_)
      refine V_iconst (n := 0) (v := (nI 0)) G eX8_lay_67 rfl ?_
      refine V_istoreA_n (i := 3) (L' := [some (.ref (wad w 8 0)), some (.int a1), some (.int x6), some (.int (nI 0))]) G rfl eX8_lay_68 (by decide) rfl rfl ?_
      obtain ⟨μ10, h1, h⟩ := bdS h
      refine Pot_lay_l1_ok G h1 ?_
      refine V_aload_n (i := 0) G eX8_lay_106 rfl rfl ?_
      refine V_get (v := .ref (wad w 910 0)) G fgX8_30 rfl eX8_lay_107 ?_
      refine V_iload_n (i := 1) G eX8_lay_110 rfl rfl ?_
      refine V_iald G al_910 (by decide) eX8_lay_111 h (fun x11 h => ?_)
      exact V_riM G hr eX8_lay_112 h
    replace h := hj
    clear hj
    refine V_icmp_le G eX8_lay_58 h (fun h => ?_) (fun h => ?_)
    · refine V_iconst (n := 0) (v := (nI 0)) G eX8_lay_65 rfl ?_
      cases h; exact J
    · refine V_iconst (n := -1) (v := (-1)) G eX8_lay_61 rfl ?_
      refine V_goto G eX8_lay_62 ?_
      cases h; exact J
  refine V_icmp_ne G eX8_lay_5 h (fun h => ?_) (fun h => ?_)
  · exact (Jk3 h)
  · refine V_aload_n (i := 0) G eX8_lay_8 rfl rfl ?_
    refine V_get (v := .ref (wad w 909 0)) G fgX8_27 rfl eX8_lay_9 ?_
    refine V_iload_n (i := 1) G eX8_lay_12 rfl rfl ?_
    refine V_iald G al_909 (by decide) eX8_lay_13 h (fun x1 h => ?_)
    refine V_aload_n (i := 0) G eX8_lay_14 rfl rfl ?_
    refine V_get (v := .int (mI μ 908 0 0)) G fgX8_69 rfl eX8_lay_15 ?_
    refine V_icmp_ne G eX8_lay_18 h (fun h => ?_) (fun h => ?_)
    · exact (Jk3 h)
    · refine V_aload_n (i := 0) G eX8_lay_21 rfl rfl ?_
      refine V_get (v := .ref (wad w 910 0)) G fgX8_30 rfl eX8_lay_22 ?_
      refine V_iload_n (i := 1) G eX8_lay_25 rfl rfl ?_
      refine V_iald G al_910 (by decide) eX8_lay_26 h (fun x2 h => ?_)
      exact V_riM G hr eX8_lay_27 h
theorem Pot_lay_ok {l : Launch} {w : Wld} {a1 : Int32} {μ : Mem} {r : Int32} {μ' : Mem} (h : Pot_lay a1 μ = some (r, μ')) : CtI l w yX8_lay cX8_lay 4 .int 4 [.ref (wad w 8 0), .int a1] μ r μ' :=
  Ct_of (own := "PotBook$Pot") [some (.ref (wad w 8 0)), some (.int a1), none, none] (by decide +kernel) rfl rfl (Nat.le_of_ble_eq_true rfl) fun p e s m args below meth c G hr => Pot_lay_run G hr h
set_option maxRecDepth 100000 in
set_option maxHeartbeats 4000000 in
theorem B_laid_run {p : Program} {l : Launch} {e : Env} {R : Room} {s : State} {m : MethodId} {args : Array Value} {below : List Frame} {meth : Method} {c : Code} {w : Wld} (G : Cxt p R s m args meth c w cX11_laid 2 "PotBook" 5 0 0) (hr : meth.sig.returnType = some .int) {a1 : Int32} {μ : Mem} {r : Int32} {μ' : Mem} (h : B_laid a1 μ = some (r, μ')) : Vj p l e R s m args below meth c w 2 0 0 (MQ below (QI w r μ') args s 0 0 w.2.2.2) 0 [some (.ref (wad w 11 0)), some (.int a1)] [] μ := by
  unfold B_laid at h
  refine V_aload_n (i := 0) G eX11_laid_0 rfl rfl ?_
  refine V_get (v := .ref (wad w 6 0)) G fgX11_28 rfl eX11_laid_1 ?_
  refine V_iload_n (i := 1) G eX11_laid_4 rfl rfl ?_
  obtain ⟨x1, h1, h⟩ := bdS h
  refine V_callI (As := [.int a1]) (st := []) G lkX11_156 (Pages_has_ok h1) (by decide) rfl rfl (Nat.le_of_ble_eq_true rfl) eX11_laid_5 ?_
  refine V_if_eq G eX11_laid_8 h (fun h => ?_) (fun h => ?_)
  · refine V_iconst (n := -1) (v := (-1)) G eX11_laid_22 rfl ?_
    exact V_riM G hr eX11_laid_23 h
  · refine V_aload_n (i := 0) G eX11_laid_11 rfl rfl ?_
    refine V_get (v := .ref (wad w 8 0)) G fgX11_53 rfl eX11_laid_12 ?_
    refine V_iload_n (i := 1) G eX11_laid_15 rfl rfl ?_
    obtain ⟨⟨x2, μ3⟩, h1, h⟩ := bdS h
    refine V_callI (As := [.int a1]) (st := []) G lkX11_356 (Pot_lay_ok h1) (by decide) rfl rfl (Nat.le_of_ble_eq_true rfl) eX11_laid_16 ?_
    refine V_goto G eX11_laid_19 ?_
    exact V_riM G hr eX11_laid_23 h
theorem B_laid_ok {l : Launch} {w : Wld} {a1 : Int32} {μ : Mem} {r : Int32} {μ' : Mem} (h : B_laid a1 μ = some (r, μ')) : CtI l w yX11_laid cX11_laid 2 .int 5 [.ref (wad w 11 0), .int a1] μ r μ' :=
  Ct_of (own := "PotBook") [some (.ref (wad w 11 0)), some (.int a1)] (by decide +kernel) rfl rfl (Nat.le_of_ble_eq_true rfl) fun p e s m args below meth c G hr => B_laid_run G hr h
set_option maxRecDepth 100000 in
set_option maxHeartbeats 4000000 in
theorem B_dishes_run {p : Program} {l : Launch} {e : Env} {R : Room} {s : State} {m : MethodId} {args : Array Value} {below : List Frame} {meth : Method} {c : Code} {w : Wld} (G : Cxt p R s m args meth c w cX11_dishes 2 "PotBook" 6 0 0) (hr : meth.sig.returnType = some .int) {a1 : Int32} {μ : Mem} {r : Int32} {μ' : Mem} (h : B_dishes a1 μ = some (r, μ')) : Vj p l e R s m args below meth c w 2 0 0 (MQ below (QI w r μ') args s 0 0 w.2.2.2) 0 [some (.ref (wad w 11 0)), some (.int a1)] [] μ := by
  unfold B_dishes at h
  refine V_aload_n (i := 0) G eX11_dishes_0 rfl rfl ?_
  refine V_iload_n (i := 1) G eX11_dishes_1 rfl rfl ?_
  obtain ⟨⟨x1, μ2⟩, h1, h⟩ := bdS h
  refine V_callI (As := [.int a1]) (st := []) G lkX11_187 (B_laid_ok h1) (by decide) rfl rfl (Nat.le_of_ble_eq_true rfl) eX11_dishes_2 ?_
  exact V_riM G hr eX11_dishes_5 h
theorem B_dishes_ok {l : Launch} {w : Wld} {a1 : Int32} {μ : Mem} {r : Int32} {μ' : Mem} (h : B_dishes a1 μ = some (r, μ')) : CtI l w yX11_dishes cX11_dishes 2 .int 6 [.ref (wad w 11 0), .int a1] μ r μ' :=
  Ct_of (own := "PotBook") [some (.ref (wad w 11 0)), some (.int a1)] (by decide +kernel) rfl rfl (Nat.le_of_ble_eq_true rfl) fun p e s m args below meth c G hr => B_dishes_run G hr h
set_option maxRecDepth 100000 in
set_option maxHeartbeats 4000000 in
theorem Pot_show_run {p : Program} {l : Launch} {e : Env} {R : Room} {s : State} {m : MethodId} {args : Array Value} {below : List Frame} {meth : Method} {c : Code} {w : Wld} (G : Cxt p R s m args meth c w cX8_show 2 "PotBook$Pot" 3 0 0) (hr : meth.sig.returnType = none) {a1 : Int32} {μ : Mem} {μ' : Mem} (h : Pot_show a1 μ = some μ') : Vj p l e R s m args below meth c w 2 0 0 (MQ below (QV w μ') args s 0 0 w.2.2.2) 0 [some (.ref (wad w 8 0)), some (.int a1)] [] μ := by
  unfold Pot_show at h
  refine V_iload_n (i := 1) G eX8_show_0 rfl rfl ?_
  refine V_if_lt G eX8_show_1 h (fun h => ?_) (fun h => ?_)
  · exact V_rvM G hr eX8_show_21 h
  · refine V_iload_n (i := 1) G eX8_show_4 rfl rfl ?_
    refine V_sipush (n := 5000) (v := (nI 5000)) G eX8_show_5 rfl ?_
    refine V_icmp_ge G eX8_show_8 h (fun h => ?_) (fun h => ?_)
    · exact V_rvM G hr eX8_show_21 h
    · refine V_aload_n (i := 0) G eX8_show_11 rfl rfl ?_
      refine V_aload_n (i := 0) G eX8_show_12 rfl rfl ?_
      refine V_get (v := .ref (wad w 913 0)) G fgX8_39 rfl eX8_show_13 ?_
      refine V_iload_n (i := 1) G eX8_show_16 rfl rfl ?_
      refine V_iald G al_913 (by decide) eX8_show_17 h (fun x1 h => ?_)
      obtain ⟨μ2, h1, h⟩ := bdS h
      refine V_callV (As := [.int x1]) (st := []) G lkX8_92 (Pot_spread_ok h1) (by decide) rfl rfl (Nat.le_of_ble_eq_true rfl) eX8_show_18 ?_
      exact V_rvM G hr eX8_show_21 h
theorem Pot_show_ok {l : Launch} {w : Wld} {a1 : Int32} {μ : Mem} {μ' : Mem} (h : Pot_show a1 μ = some μ') : CtV l w yX8_show cX8_show 2 3 [.ref (wad w 8 0), .int a1] μ μ' :=
  Ct_of (own := "PotBook$Pot") [some (.ref (wad w 8 0)), some (.int a1)] (by decide +kernel) rfl rfl (Nat.le_of_ble_eq_true rfl) fun p e s m args below meth c G hr => Pot_show_run G hr h
set_option maxRecDepth 100000 in
set_option maxHeartbeats 4000000 in
theorem B_shows_run {p : Program} {l : Launch} {e : Env} {R : Room} {s : State} {m : MethodId} {args : Array Value} {below : List Frame} {meth : Method} {c : Code} {w : Wld} (G : Cxt p R s m args meth c w cX11_shows 3 "PotBook" 6 0 0) (hr : meth.sig.returnType = some .boolean) {a1 : Int32} {a2 : Int32} {μ : Mem} {r : Int32} {μ' : Mem} (h : B_shows a1 a2 μ = some (r, μ')) : Vj p l e R s m args below meth c w 3 0 0 (MQ below (QI w r μ') args s 0 0 w.2.2.2) 0 [some (.ref (wad w 11 0)), some (.int a1), some (.int a2)] [] μ := by
  unfold B_shows at h
  refine V_iload_n (i := 2) G eX11_shows_0 rfl rfl ?_
  refine V_if_lt G eX11_shows_1 h (fun h => ?_) (fun h => ?_)
  · refine V_iconst (n := 0) (v := (nI 0)) G eX11_shows_13 rfl ?_
    exact V_rzM G hr eX11_shows_14 h
  · refine V_iload_n (i := 2) G eX11_shows_4 rfl rfl ?_
    refine V_aload_n (i := 0) G eX11_shows_5 rfl rfl ?_
    refine V_iload_n (i := 1) G eX11_shows_6 rfl rfl ?_
    obtain ⟨⟨x1, μ2⟩, h1, h⟩ := bdS h
    refine V_callI (As := [.int a1]) (st := [.int a2]) G lkX11_187 (B_laid_ok h1) (by decide) rfl rfl (Nat.le_of_ble_eq_true rfl) eX11_shows_7 ?_
    refine V_icmp_lt G eX11_shows_10 h (fun h => ?_) (fun h => ?_)
    · refine V_aload_n (i := 0) G eX11_shows_15 rfl rfl ?_
      refine V_get (v := .ref (wad w 8 0)) G fgX11_53 rfl eX11_shows_16 ?_
      refine V_iload_n (i := 2) G eX11_shows_19 rfl rfl ?_
      obtain ⟨μ3, h1, h⟩ := bdS h
      refine V_callV (As := [.int a2]) (st := []) G lkX11_359 (Pot_show_ok h1) (by decide) rfl rfl (Nat.le_of_ble_eq_true rfl) eX11_shows_20 ?_
      refine V_iconst (n := 1) (v := (nI 1)) G eX11_shows_23 rfl ?_
      exact V_rzM G hr eX11_shows_24 h
    · refine V_iconst (n := 0) (v := (nI 0)) G eX11_shows_13 rfl ?_
      exact V_rzM G hr eX11_shows_14 h
theorem B_shows_ok {l : Launch} {w : Wld} {a1 : Int32} {a2 : Int32} {μ : Mem} {r : Int32} {μ' : Mem} (h : B_shows a1 a2 μ = some (r, μ')) : CtI l w yX11_shows cX11_shows 3 .boolean 6 [.ref (wad w 11 0), .int a1, .int a2] μ r μ' :=
  Ct_of (own := "PotBook") [some (.ref (wad w 11 0)), some (.int a1), some (.int a2)] (by decide +kernel) rfl rfl (Nat.le_of_ble_eq_true rfl) fun p e s m args below meth c G hr => B_shows_run G hr h
set_option maxRecDepth 100000 in
set_option maxHeartbeats 4000000 in
theorem Pages_placeOf_l1_ok {p : Program} {l : Launch} {e : Env} {R : Room} {s : State} {m : MethodId} {args : Array Value} {below : List Frame} {meth : Method} {c : Code} {w : Wld} (G : Cxt p R s m args meth c w cX6_placeOf 4 "PotBook$Pages" 1 0 0) (hr : meth.sig.returnType = some .int) {v1 : Int32} {v2 : Int32} {μ : Mem} {r : Int32} : ∀ {n : Nat} {v3 : Int32}, Pages_placeOf_l1 v1 v2 μ n v3 = some r → Vj p l e R s m args below meth c w 4 0 0 (MQ below (QI w r μ) args s 0 0 w.2.2.2) 2 [some (.ref (wad w 6 0)), some (.int v1), some (.int v2), some (.int v3)] [] μ := by
  intro n
  induction n with
  | zero => intro v3 h; exact noS h
  | succ n ih =>
    intro v3 h
    replace h : Pages_placeOf_l1b v1 v2 μ (Pages_placeOf_l1 v1 v2 μ n) v3 = some r := h
    unfold Pages_placeOf_l1b at h
    refine V_iload_n (i := 3) G eX6_placeOf_2 rfl rfl ?_
    refine V_aload_n (i := 0) G eX6_placeOf_3 rfl rfl ?_
    refine V_get (v := .ref (wad w 702 0)) G fgX6_9 rfl eX6_placeOf_4 ?_
    refine V_iload_n (i := 1) G eX6_placeOf_7 rfl rfl ?_
    refine V_iald G al_702 (by decide) eX6_placeOf_8 h (fun x1 h => ?_)
    refine V_icmp_ge G eX6_placeOf_9 h (fun h => ?_) (fun h => ?_)
    · refine V_iconst (n := -1) (v := (-1)) G eX6_placeOf_32 rfl ?_
      exact V_ri G hr eX6_placeOf_33 h
    · refine V_aload_n (i := 0) G eX6_placeOf_12 rfl rfl ?_
      refine V_get (v := .ref (wad w 10703 0)) G fgX6_17 rfl eX6_placeOf_13 ?_
      refine V_iload_n (i := 1) G eX6_placeOf_16 rfl rfl ?_
      refine V_aaldI (id := 703) G al_10703 eX6_placeOf_17 h (fun r2 hr2 h => ?_)
      refine V_iload_n (i := 3) G eX6_placeOf_18 rfl rfl ?_
      refine V_iald G al_703 hr2 eX6_placeOf_19 h (fun x3 h => ?_)
      refine V_iload_n (i := 2) G eX6_placeOf_20 rfl rfl ?_
      refine V_icmp_ne G eX6_placeOf_21 h (fun h => ?_) (fun h => ?_)
      · refine V_iinc (z := (nI 1)) (L' := (fun x4 => [some (.ref (wad w 6 0)), some (.int v1), some (.int v2), some (.int x4)])) G eX6_placeOf_26 rfl rfl (by decide) rfl (fun _ => rfl) h (fun x4 h => ?_)
        refine V_goto G eX6_placeOf_29 ?_
        exact (ih h)
      · refine V_iload_n (i := 3) G eX6_placeOf_24 rfl rfl ?_
        exact V_ri G hr eX6_placeOf_25 h
set_option maxRecDepth 100000 in
set_option maxHeartbeats 4000000 in
theorem Pages_placeOf_run {p : Program} {l : Launch} {e : Env} {R : Room} {s : State} {m : MethodId} {args : Array Value} {below : List Frame} {meth : Method} {c : Code} {w : Wld} (G : Cxt p R s m args meth c w cX6_placeOf 4 "PotBook$Pages" 1 0 0) (hr : meth.sig.returnType = some .int) {a1 : Int32} {a2 : Int32} {μ : Mem} {r : Int32} (h : Pages_placeOf a1 a2 μ = some r) : Vj p l e R s m args below meth c w 4 0 0 (MQ below (QI w r μ) args s 0 0 w.2.2.2) 0 [some (.ref (wad w 6 0)), some (.int a1), some (.int a2), none] [] μ := by
  unfold Pages_placeOf at h
  refine V_iconst (n := 0) (v := (nI 0)) G eX6_placeOf_0 rfl ?_
  refine V_istoreA_n (i := 3) (L' := [some (.ref (wad w 6 0)), some (.int a1), some (.int a2), some (.int (nI 0))]) G rfl eX6_placeOf_1 (by decide) rfl rfl ?_
  exact Pages_placeOf_l1_ok G hr h
theorem Pages_placeOf_ok {l : Launch} {w : Wld} {a1 : Int32} {a2 : Int32} {μ : Mem} {r : Int32} (h : Pages_placeOf a1 a2 μ = some r) : CtI l w yX6_placeOf cX6_placeOf 4 .int 1 [.ref (wad w 6 0), .int a1, .int a2] μ r μ :=
  Ct_of (own := "PotBook$Pages") [some (.ref (wad w 6 0)), some (.int a1), some (.int a2), none] (by decide +kernel) rfl rfl (Nat.le_of_ble_eq_true rfl) fun p e s m args below meth c G hr => Pages_placeOf_run G hr h
set_option maxRecDepth 100000 in
set_option maxHeartbeats 4000000 in
theorem Pot_partsOf_run {p : Program} {l : Launch} {e : Env} {R : Room} {s : State} {m : MethodId} {args : Array Value} {below : List Frame} {meth : Method} {c : Code} {w : Wld} (G : Cxt p R s m args meth c w cX8_partsOf 3 "PotBook$Pot" 2 0 0) (hr : meth.sig.returnType = some .int) {a1 : Int32} {μ : Mem} {r : Int32} (h : Pot_partsOf a1 μ = some r) : Vj p l e R s m args below meth c w 3 0 0 (MQ below (QI w r μ) args s 0 0 w.2.2.2) 0 [some (.ref (wad w 8 0)), some (.int a1), none] [] μ := by
  unfold Pot_partsOf at h
  refine V_aload_n (i := 0) G eX8_partsOf_0 rfl rfl ?_
  refine V_get (v := .int (mI μ 912 0 0)) G fgX8_36 rfl eX8_partsOf_1 ?_
  refine V_iconst (n := -1) (v := (-1)) G eX8_partsOf_4 rfl ?_
  obtain ⟨x2, hj, h⟩ := bdS h
  have J : Vj p l e R s m args below meth c w 3 0 0 (MQ below (QI w r μ) args s 0 0 w.2.2.2) 24 [some (.ref (wad w 8 0)), none, none] [.int x2] μ := by
    clear hj
    refine V_istoreA_n (i := 2) (L' := [some (.ref (wad w 8 0)), none, some (.int x2)]) G rfl eX8_partsOf_24 (by decide) rfl rfl ?_
    refine V_iload_n (i := 2) G eX8_partsOf_25 rfl rfl ?_
    refine V_iconst (n := -1) (v := (-1)) G eX8_partsOf_26 rfl ?_
    refine V_icmp_ne G eX8_partsOf_27 h (fun h => ?_) (fun h => ?_)
    · refine V_aload_n (i := 0) G eX8_partsOf_34 rfl rfl ?_
      refine V_get (v := .ref (wad w 917 0)) G fgX8_51 rfl eX8_partsOf_35 ?_
      refine V_iload_n (i := 2) G eX8_partsOf_38 rfl rfl ?_
      refine V_iald G al_917 (by decide) eX8_partsOf_39 h (fun x3 h => ?_)
      exact V_ri G hr eX8_partsOf_40 h
    · refine V_iconst (n := 0) (v := (nI 0)) G eX8_partsOf_30 rfl ?_
      refine V_goto G eX8_partsOf_31 ?_
      exact V_ri G hr eX8_partsOf_40 h
  replace h := hj
  clear hj
  refine V_icmp_ne G eX8_partsOf_5 h (fun h => ?_) (fun h => ?_)
  · refine V_aload_n (i := 0) G eX8_partsOf_12 rfl rfl ?_
    refine V_get (v := .ref (wad w 6 0)) G fgX8_57 rfl eX8_partsOf_13 ?_
    refine V_aload_n (i := 0) G eX8_partsOf_16 rfl rfl ?_
    refine V_get (v := .int (mI μ 912 0 0)) G fgX8_36 rfl eX8_partsOf_17 ?_
    refine V_iload_n (i := 1) G eX8_partsOf_20 rfl rfl ?_
    obtain ⟨x1, h1, h⟩ := bdS h
    refine V_callI (As := [.int (mI μ 912 0 0), .int a1]) (st := []) G lkX8_156 (Pages_placeOf_ok h1) (by decide) rfl rfl (Nat.le_of_ble_eq_true rfl) eX8_partsOf_21 ?_
    cases h; exact V_sub (lS_s (lS_n (lS_n lS_0))) J
  · refine V_iconst (n := -1) (v := (-1)) G eX8_partsOf_8 rfl ?_
    refine V_goto G eX8_partsOf_9 ?_
    cases h; exact V_sub (lS_s (lS_n (lS_n lS_0))) J
theorem Pot_partsOf_ok {l : Launch} {w : Wld} {a1 : Int32} {μ : Mem} {r : Int32} (h : Pot_partsOf a1 μ = some r) : CtI l w yX8_partsOf cX8_partsOf 3 .int 2 [.ref (wad w 8 0), .int a1] μ r μ :=
  Ct_of (own := "PotBook$Pot") [some (.ref (wad w 8 0)), some (.int a1), none] (by decide +kernel) rfl rfl (Nat.le_of_ble_eq_true rfl) fun p e s m args below meth c G hr => Pot_partsOf_run G hr h
set_option maxRecDepth 100000 in
set_option maxHeartbeats 4000000 in
theorem B_dish_run {p : Program} {l : Launch} {e : Env} {R : Room} {s : State} {m : MethodId} {args : Array Value} {below : List Frame} {meth : Method} {c : Code} {w : Wld} (G : Cxt p R s m args meth c w cX11_dish 4 "PotBook" 7 0 0) (hr : meth.sig.returnType = some .int) {a1 : Int32} {a2 : Int32} {a3 : Int32} {μ : Mem} {r : Int32} {μ' : Mem} (h : B_dish a1 a2 a3 μ = some (r, μ')) : Vj p l e R s m args below meth c w 4 0 0 (MQ below (QI w r μ') args s 0 0 w.2.2.2) 0 [some (.ref (wad w 11 0)), some (.int a1), some (.int a2), some (.int a3)] [] μ := by
  unfold B_dish at h
  refine V_aload_n (i := 0) G eX11_dish_0 rfl rfl ?_
  refine V_get (v := .ref (wad w 7 0)) G fgX11_19 rfl eX11_dish_1 ?_
  refine V_iload_n (i := 3) G eX11_dish_4 rfl rfl ?_
  obtain ⟨x1, h1, h⟩ := bdS h
  refine V_callI (As := [.int a3]) (st := []) G lkX11_142 (Pantry_has_ok h1) (by decide) rfl rfl (Nat.le_of_ble_eq_true rfl) eX11_dish_5 ?_
  refine V_if_eq G eX11_dish_8 h (fun h => ?_) (fun h => ?_)
  · refine V_iconst (n := -1) (v := (-1)) G eX11_dish_20 rfl ?_
    exact V_riM G hr eX11_dish_21 h
  · refine V_aload_n (i := 0) G eX11_dish_11 rfl rfl ?_
    refine V_iload_n (i := 1) G eX11_dish_12 rfl rfl ?_
    refine V_iload_n (i := 2) G eX11_dish_13 rfl rfl ?_
    obtain ⟨⟨x2, μ3⟩, h1, h⟩ := bdS h
    refine V_callI (As := [.int a1, .int a2]) (st := []) G lkX11_190 (B_shows_ok h1) (by decide) rfl rfl (Nat.le_of_ble_eq_true rfl) eX11_dish_14 ?_
    refine V_if_ne G eX11_dish_17 h (fun h => ?_) (fun h => ?_)
    · refine V_aload_n (i := 0) G eX11_dish_22 rfl rfl ?_
      refine V_get (v := .ref (wad w 8 0)) G fgX11_53 rfl eX11_dish_23 ?_
      refine V_iload_n (i := 3) G eX11_dish_26 rfl rfl ?_
      obtain ⟨x4, h1, h⟩ := bdS h
      refine V_callI (As := [.int a3]) (st := []) G lkX11_194 (Pot_partsOf_ok h1) (by decide) rfl rfl (Nat.le_of_ble_eq_true rfl) eX11_dish_27 ?_
      exact V_riM G hr eX11_dish_30 h
    · refine V_iconst (n := -1) (v := (-1)) G eX11_dish_20 rfl ?_
      exact V_riM G hr eX11_dish_21 h
theorem B_dish_ok {l : Launch} {w : Wld} {a1 : Int32} {a2 : Int32} {a3 : Int32} {μ : Mem} {r : Int32} {μ' : Mem} (h : B_dish a1 a2 a3 μ = some (r, μ')) : CtI l w yX11_dish cX11_dish 4 .int 7 [.ref (wad w 11 0), .int a1, .int a2, .int a3] μ r μ' :=
  Ct_of (own := "PotBook") [some (.ref (wad w 11 0)), some (.int a1), some (.int a2), some (.int a3)] (by decide +kernel) rfl rfl (Nat.le_of_ble_eq_true rfl) fun p e s m args below meth c G hr => B_dish_run G hr h
set_option maxRecDepth 100000 in
set_option maxHeartbeats 4000000 in
theorem Pot_partsAt_run {p : Program} {l : Launch} {e : Env} {R : Room} {s : State} {m : MethodId} {args : Array Value} {below : List Frame} {meth : Method} {c : Code} {w : Wld} (G : Cxt p R s m args meth c w cX8_partsAt 3 "PotBook$Pot" 2 0 0) (hr : meth.sig.returnType = some .int) {a1 : Int32} {a2 : Int32} {μ : Mem} {r : Int32} (h : Pot_partsAt a1 a2 μ = some r) : Vj p l e R s m args below meth c w 3 0 0 (MQ below (QI w r μ) args s 0 0 w.2.2.2) 0 [some (.ref (wad w 8 0)), some (.int a1), some (.int a2)] [] μ := by
  unfold Pot_partsAt at h
  refine V_iload_n (i := 1) G eX8_partsAt_0 rfl rfl ?_
  refine V_if_lt G eX8_partsAt_1 h (fun h => ?_) (fun h => ?_)
  · refine V_iconst (n := 0) (v := (nI 0)) G eX8_partsAt_25 rfl ?_
    exact V_ri G hr eX8_partsAt_26 h
  · refine V_iload_n (i := 1) G eX8_partsAt_4 rfl rfl ?_
    refine V_sipush (n := 5000) (v := (nI 5000)) G eX8_partsAt_5 rfl ?_
    refine V_icmp_ge G eX8_partsAt_8 h (fun h => ?_) (fun h => ?_)
    · refine V_iconst (n := 0) (v := (nI 0)) G eX8_partsAt_25 rfl ?_
      exact V_ri G hr eX8_partsAt_26 h
    · refine V_aload_n (i := 0) G eX8_partsAt_11 rfl rfl ?_
      refine V_aload_n (i := 0) G eX8_partsAt_12 rfl rfl ?_
      refine V_get (v := .ref (wad w 913 0)) G fgX8_39 rfl eX8_partsAt_13 ?_
      refine V_iload_n (i := 1) G eX8_partsAt_16 rfl rfl ?_
      refine V_iald G al_913 (by decide) eX8_partsAt_17 h (fun x1 h => ?_)
      refine V_iload_n (i := 2) G eX8_partsAt_18 rfl rfl ?_
      obtain ⟨x2, h1, h⟩ := bdS h
      refine V_callI (As := [.int x1, .int a2]) (st := []) G lkX8_144 (Pot_partsIn_ok h1) (by decide) rfl rfl (Nat.le_of_ble_eq_true rfl) eX8_partsAt_19 ?_
      refine V_goto G eX8_partsAt_22 ?_
      exact V_ri G hr eX8_partsAt_26 h
theorem Pot_partsAt_ok {l : Launch} {w : Wld} {a1 : Int32} {a2 : Int32} {μ : Mem} {r : Int32} (h : Pot_partsAt a1 a2 μ = some r) : CtI l w yX8_partsAt cX8_partsAt 3 .int 2 [.ref (wad w 8 0), .int a1, .int a2] μ r μ :=
  Ct_of (own := "PotBook$Pot") [some (.ref (wad w 8 0)), some (.int a1), some (.int a2)] (by decide +kernel) rfl rfl (Nat.le_of_ble_eq_true rfl) fun p e s m args below meth c G hr => Pot_partsAt_run G hr h
set_option maxRecDepth 100000 in
set_option maxHeartbeats 4000000 in
theorem Pot_shownCount_run {p : Program} {l : Launch} {e : Env} {R : Room} {s : State} {m : MethodId} {args : Array Value} {below : List Frame} {meth : Method} {c : Code} {w : Wld} (G : Cxt p R s m args meth c w cX8_shownCount 1 "PotBook$Pot" 1 0 0) (hr : meth.sig.returnType = some .int) {μ : Mem} {r : Int32} (h : Pot_shownCount μ = some r) : Vj p l e R s m args below meth c w 1 0 0 (MQ below (QI w r μ) args s 0 0 w.2.2.2) 0 [some (.ref (wad w 8 0))] [] μ := by
  unfold Pot_shownCount at h
  refine V_aload_n (i := 0) G eX8_shownCount_0 rfl rfl ?_
  refine V_get (v := .int (mI μ 912 0 0)) G fgX8_36 rfl eX8_shownCount_1 ?_
  refine V_iconst (n := -1) (v := (-1)) G eX8_shownCount_4 rfl ?_
  refine V_icmp_ne G eX8_shownCount_5 h (fun h => ?_) (fun h => ?_)
  · refine V_aload_n (i := 0) G eX8_shownCount_12 rfl rfl ?_
    refine V_get (v := .ref (wad w 910 0)) G fgX8_30 rfl eX8_shownCount_13 ?_
    refine V_aload_n (i := 0) G eX8_shownCount_16 rfl rfl ?_
    refine V_get (v := .int (mI μ 912 0 0)) G fgX8_36 rfl eX8_shownCount_17 ?_
    refine V_iald G al_910 (by decide) eX8_shownCount_20 h (fun x1 h => ?_)
    exact V_ri G hr eX8_shownCount_21 h
  · refine V_iconst (n := 0) (v := (nI 0)) G eX8_shownCount_8 rfl ?_
    refine V_goto G eX8_shownCount_9 ?_
    exact V_ri G hr eX8_shownCount_21 h
theorem Pot_shownCount_ok {l : Launch} {w : Wld} {μ : Mem} {r : Int32} (h : Pot_shownCount μ = some r) : CtI l w yX8_shownCount cX8_shownCount 1 .int 1 [.ref (wad w 8 0)] μ r μ :=
  Ct_of (own := "PotBook$Pot") [some (.ref (wad w 8 0))] (by decide +kernel) rfl rfl (Nat.le_of_ble_eq_true rfl) fun p e s m args below meth c G hr => Pot_shownCount_run G hr h
set_option maxRecDepth 100000 in
set_option maxHeartbeats 4000000 in
theorem Taster_further_run {p : Program} {l : Launch} {e : Env} {R : Room} {s : State} {m : MethodId} {args : Array Value} {below : List Frame} {meth : Method} {c : Code} {w : Wld} (G : Cxt p R s m args meth c w cX10_further 3 "PotBook$Taster" 2 0 0) (hr : meth.sig.returnType = some .int) {a1 : Int32} {a2 : Int32} {a3 : Int32} {μ : Mem} {r : Int32} (h : Taster_further a1 a2 a3 = some r) : Vj p l e R s m args below meth c w 3 0 0 (MQ below (QI w r μ) args s 0 0 w.2.2.2) 0 [some (.int a1), some (.int a2), some (.int a3)] [] μ := by
  unfold Taster_further at h
  refine V_iload_n (i := 2) G eX10_further_0 rfl rfl ?_
  refine V_if_ne G eX10_further_1 h (fun h => ?_) (fun h => ?_)
  · refine V_iload_n (i := 0) G eX10_further_12 rfl rfl ?_
    refine V_iload_n (i := 1) G eX10_further_13 rfl rfl ?_
    refine V_jMax G mkX10_59 (by decide) (Nat.le_of_ble_eq_true rfl) eX10_further_14 ?_
    exact V_ri G hr eX10_further_17 h
  · refine V_iload_n (i := 0) G eX10_further_4 rfl rfl ?_
    refine V_iload_n (i := 1) G eX10_further_5 rfl rfl ?_
    refine V_jMin G mkX10_54 (by decide) (Nat.le_of_ble_eq_true rfl) eX10_further_6 ?_
    refine V_goto G eX10_further_9 ?_
    exact V_ri G hr eX10_further_17 h
theorem Taster_further_ok {l : Launch} {w : Wld} {a1 : Int32} {a2 : Int32} {a3 : Int32} {μ : Mem} {r : Int32} (h : Taster_further a1 a2 a3 = some r) : CtI l w yX10_further cX10_further 3 .int 2 [.int a1, .int a2, .int a3] μ r μ :=
  Ct_of (own := "PotBook$Taster") [some (.int a1), some (.int a2), some (.int a3)] (by decide +kernel) rfl rfl (Nat.le_of_ble_eq_true rfl) fun p e s m args below meth c G hr => Taster_further_run G hr h
set_option maxRecDepth 100000 in
set_option maxHeartbeats 4000000 in
theorem Taster_edge_l1_ok {p : Program} {l : Launch} {e : Env} {R : Room} {s : State} {m : MethodId} {args : Array Value} {below : List Frame} {meth : Method} {c : Code} {w : Wld} {Q : State → Prop} (G : Cxt p R s m args meth c w cX10_edge 5 "PotBook$Taster" 3 0 0) {v1 : Int32} {v2 : Int32} {μ : Mem} {o1 : Int32} : ∀ {n : Nat} {v3 : Int32} {v4 : Int32}, Taster_edge_l1 v1 v2 μ n v3 v4 = some o1 → Vj p l e R s m args below meth c w 5 0 0 Q 47 [none, none, none, some (.int o1), none] [] μ → Vj p l e R s m args below meth c w 5 0 0 Q 13 [some (.ref (wad w 10 0)), some (.int v1), some (.int v2), some (.int v3), some (.int v4)] [] μ := by
  intro n
  induction n with
  | zero => intro v3 v4 h K; exact noS h
  | succ n ih =>
    intro v3 v4 h K
    replace h : Taster_edge_l1b v1 v2 μ (Taster_edge_l1 v1 v2 μ n) v3 v4 = some o1 := h
    unfold Taster_edge_l1b at h
    refine V_iload G eX10_edge_13 rfl ?_
    refine V_aload_n (i := 0) G eX10_edge_15 rfl rfl ?_
    refine V_get (v := .ref (wad w 8 0)) G fgX10_36 rfl eX10_edge_16 ?_
    obtain ⟨x1, h1, h⟩ := bdS h
    refine V_callI (As := []) (st := [.int v4]) G lkX10_46 (Pot_shownCount_ok h1) (by decide) rfl rfl (Nat.le_of_ble_eq_true rfl) eX10_edge_19 ?_
    refine V_icmp_ge G eX10_edge_22 h (fun h => ?_) (fun h => ?_)
    · cases h; exact V_sub (lS_n (lS_n (lS_n (lS_s (lS_n lS_0))))) K
    · refine V_iload_n (i := 3) G eX10_edge_25 rfl rfl ?_
      refine V_aload_n (i := 0) G eX10_edge_26 rfl rfl ?_
      refine V_get (v := .ref (wad w 8 0)) G fgX10_36 rfl eX10_edge_27 ?_
      refine V_iload G eX10_edge_30 rfl ?_
      refine V_iload_n (i := 1) G eX10_edge_32 rfl rfl ?_
      obtain ⟨x2, h1, h⟩ := bdS h
      refine V_callI (As := [.int v4, .int v1]) (st := [.int v3]) G lkX10_40 (Pot_partsAt_ok h1) (by decide) rfl rfl (Nat.le_of_ble_eq_true rfl) eX10_edge_33 ?_
      refine V_iload_n (i := 2) G eX10_edge_36 rfl rfl ?_
      obtain ⟨x3, h1, h⟩ := bdS h
      refine V_callIS (As := [.int v3, .int x2, .int v2]) (st := []) G lkX10_50 (Taster_further_ok (μ := μ) h1) (by decide) rfl rfl (Nat.le_of_ble_eq_true rfl) eX10_edge_37 ?_
      refine V_istoreA_n (i := 3) (L' := [some (.ref (wad w 10 0)), some (.int v1), some (.int v2), some (.int x3), some (.int v4)]) G rfl eX10_edge_40 (by decide) rfl rfl ?_
      refine V_iinc (z := (nI 1)) (L' := (fun x4 => [some (.ref (wad w 10 0)), some (.int v1), some (.int v2), some (.int x3), some (.int x4)])) G eX10_edge_41 rfl rfl (by decide) rfl (fun _ => rfl) h (fun x4 h => ?_)
      refine V_goto G eX10_edge_44 ?_
      exact (ih h K)
set_option maxRecDepth 100000 in
set_option maxHeartbeats 4000000 in
theorem Taster_edge_run {p : Program} {l : Launch} {e : Env} {R : Room} {s : State} {m : MethodId} {args : Array Value} {below : List Frame} {meth : Method} {c : Code} {w : Wld} (G : Cxt p R s m args meth c w cX10_edge 5 "PotBook$Taster" 3 0 0) (hr : meth.sig.returnType = some .int) {a1 : Int32} {a2 : Int32} {μ : Mem} {r : Int32} (h : Taster_edge a1 a2 μ = some r) : Vj p l e R s m args below meth c w 5 0 0 (MQ below (QI w r μ) args s 0 0 w.2.2.2) 0 [some (.ref (wad w 10 0)), some (.int a1), some (.int a2), none, none] [] μ := by
  unfold Taster_edge at h
  refine V_aload_n (i := 0) G eX10_edge_0 rfl rfl ?_
  refine V_get (v := .ref (wad w 8 0)) G fgX10_36 rfl eX10_edge_1 ?_
  refine V_iconst (n := 0) (v := (nI 0)) G eX10_edge_4 rfl ?_
  refine V_iload_n (i := 1) G eX10_edge_5 rfl rfl ?_
  obtain ⟨x1, h1, h⟩ := bdS h
  refine V_callI (As := [.int (nI 0), .int a1]) (st := []) G lkX10_40 (Pot_partsAt_ok h1) (by decide) rfl rfl (Nat.le_of_ble_eq_true rfl) eX10_edge_6 ?_
  refine V_istoreA_n (i := 3) (L' := [some (.ref (wad w 10 0)), some (.int a1), some (.int a2), some (.int x1), none]) G rfl eX10_edge_9 (by decide) rfl rfl ?_
  refine V_iconst (n := 1) (v := (nI 1)) G eX10_edge_10 rfl ?_
  refine V_istoreA (i := 4) (L' := [some (.ref (wad w 10 0)), some (.int a1), some (.int a2), some (.int x1), some (.int (nI 1))]) G eX10_edge_11 (by decide) rfl rfl ?_
  obtain ⟨x2, h1, h⟩ := bdS h
  refine Taster_edge_l1_ok G h1 ?_
  refine V_iload_n (i := 3) G eX10_edge_47 rfl rfl ?_
  exact V_ri G hr eX10_edge_48 h
theorem Taster_edge_ok {l : Launch} {w : Wld} {a1 : Int32} {a2 : Int32} {μ : Mem} {r : Int32} (h : Taster_edge a1 a2 μ = some r) : CtI l w yX10_edge cX10_edge 5 .int 3 [.ref (wad w 10 0), .int a1, .int a2] μ r μ :=
  Ct_of (own := "PotBook$Taster") [some (.ref (wad w 10 0)), some (.int a1), some (.int a2), none, none] (by decide +kernel) rfl rfl (Nat.le_of_ble_eq_true rfl) fun p e s m args below meth c G hr => Taster_edge_run G hr h
set_option maxRecDepth 100000 in
set_option maxHeartbeats 4000000 in
theorem B_span_run {p : Program} {l : Launch} {e : Env} {R : Room} {s : State} {m : MethodId} {args : Array Value} {below : List Frame} {meth : Method} {c : Code} {w : Wld} (G : Cxt p R s m args meth c w cX11_span 4 "PotBook" 6 0 0) (hr : meth.sig.returnType = some .int) {a1 : Int32} {a2 : Int32} {a3 : Int32} {μ : Mem} {r : Int32} {μ' : Mem} (h : B_span a1 a2 a3 μ = some (r, μ')) : Vj p l e R s m args below meth c w 4 0 0 (MQ below (QI w r μ') args s 0 0 w.2.2.2) 0 [some (.ref (wad w 11 0)), some (.int a1), some (.int a2), some (.int a3)] [] μ := by
  unfold B_span at h
  refine V_iload_n (i := 3) G eX11_span_0 rfl rfl ?_
  refine V_iconst (n := 0) (v := (nI 0)) G eX11_span_1 rfl ?_
  refine V_iconst (n := 1) (v := (nI 1)) G eX11_span_2 rfl ?_
  obtain ⟨x1, h1, h⟩ := bdS h
  refine V_callIS (As := [.int a3, .int (nI 0), .int (nI 1)]) (st := []) G lkX11_127 (B_isWithin_ok (μ := μ) h1) (by decide) rfl rfl (Nat.le_of_ble_eq_true rfl) eX11_span_3 ?_
  refine V_if_eq G eX11_span_6 h (fun h => ?_) (fun h => ?_)
  · refine V_iconst (n := -1) (v := (-1)) G eX11_span_33 rfl ?_
    exact V_riM G hr eX11_span_34 h
  · refine V_aload_n (i := 0) G eX11_span_9 rfl rfl ?_
    refine V_get (v := .ref (wad w 6 0)) G fgX11_28 rfl eX11_span_10 ?_
    refine V_iload_n (i := 1) G eX11_span_13 rfl rfl ?_
    obtain ⟨x2, h1, h⟩ := bdS h
    refine V_callI (As := [.int a1]) (st := []) G lkX11_156 (Pages_has_ok h1) (by decide) rfl rfl (Nat.le_of_ble_eq_true rfl) eX11_span_14 ?_
    refine V_if_eq G eX11_span_17 h (fun h => ?_) (fun h => ?_)
    · refine V_iconst (n := -1) (v := (-1)) G eX11_span_33 rfl ?_
      exact V_riM G hr eX11_span_34 h
    · refine V_aload_n (i := 0) G eX11_span_20 rfl rfl ?_
      refine V_get (v := .ref (wad w 6 0)) G fgX11_28 rfl eX11_span_21 ?_
      refine V_iload_n (i := 1) G eX11_span_24 rfl rfl ?_
      refine V_iload_n (i := 2) G eX11_span_25 rfl rfl ?_
      obtain ⟨x3, h1, h⟩ := bdS h
      refine V_callI (As := [.int a1, .int a2]) (st := []) G lkX11_197 (Pages_placeOf_ok h1) (by decide) rfl rfl (Nat.le_of_ble_eq_true rfl) eX11_span_26 ?_
      refine V_iconst (n := -1) (v := (-1)) G eX11_span_29 rfl ?_
      refine V_icmp_ne G eX11_span_30 h (fun h => ?_) (fun h => ?_)
      · refine V_aload_n (i := 0) G eX11_span_35 rfl rfl ?_
        refine V_iload_n (i := 1) G eX11_span_36 rfl rfl ?_
        obtain ⟨⟨x4, μ5⟩, h1, h⟩ := bdS h
        refine V_callI (As := [.int a1]) (st := []) G lkX11_187 (B_laid_ok h1) (by decide) rfl rfl (Nat.le_of_ble_eq_true rfl) eX11_span_37 ?_
        refine V_if_le G eX11_span_40 h (fun h => ?_) (fun h => ?_)
        · refine V_iconst (n := -1) (v := (-1)) G eX11_span_63 rfl ?_
          exact V_riM G hr eX11_span_64 h
        · refine V_aload_n (i := 0) G eX11_span_43 rfl rfl ?_
          refine V_get (v := .ref (wad w 10 0)) G fgX11_62 rfl eX11_span_44 ?_
          refine V_aload_n (i := 0) G eX11_span_47 rfl rfl ?_
          refine V_get (v := .ref (wad w 6 0)) G fgX11_28 rfl eX11_span_48 ?_
          refine V_iload_n (i := 1) G eX11_span_51 rfl rfl ?_
          refine V_iload_n (i := 2) G eX11_span_52 rfl rfl ?_
          obtain ⟨x6, h1, h⟩ := bdS h
          refine V_callI (As := [.int a1, .int a2]) (st := [.ref (wad w 10 0)]) G lkX11_197 (Pages_placeOf_ok h1) (by decide) rfl rfl (Nat.le_of_ble_eq_true rfl) eX11_span_53 ?_
          refine V_iload_n (i := 3) G eX11_span_56 rfl rfl ?_
          obtain ⟨x7, h1, h⟩ := bdS h
          refine V_callI (As := [.int x6, .int a3]) (st := []) G lkX11_200 (Taster_edge_ok h1) (by decide) rfl rfl (Nat.le_of_ble_eq_true rfl) eX11_span_57 ?_
          refine V_goto G eX11_span_60 ?_
          exact V_riM G hr eX11_span_64 h
      · refine V_iconst (n := -1) (v := (-1)) G eX11_span_33 rfl ?_
        exact V_riM G hr eX11_span_34 h
theorem B_span_ok {l : Launch} {w : Wld} {a1 : Int32} {a2 : Int32} {a3 : Int32} {μ : Mem} {r : Int32} {μ' : Mem} (h : B_span a1 a2 a3 μ = some (r, μ')) : CtI l w yX11_span cX11_span 4 .int 6 [.ref (wad w 11 0), .int a1, .int a2, .int a3] μ r μ' :=
  Ct_of (own := "PotBook") [some (.ref (wad w 11 0)), some (.int a1), some (.int a2), some (.int a3)] (by decide +kernel) rfl rfl (Nat.le_of_ble_eq_true rfl) fun p e s m args below meth c G hr => B_span_run G hr h
set_option maxRecDepth 100000 in
set_option maxHeartbeats 4000000 in
theorem Taster_sameInAll_l1_ok {p : Program} {l : Launch} {e : Env} {R : Room} {s : State} {m : MethodId} {args : Array Value} {below : List Frame} {meth : Method} {c : Code} {w : Wld} {Q : State → Prop} (G : Cxt p R s m args meth c w cX10_sameInAll 4 "PotBook$Taster" 4 0 0) {v1 : Int32} {μ : Mem} {o1 : Int32} : ∀ {n : Nat} {v2 : Int32} {v3 : Int32}, Taster_sameInAll_l1 v1 μ n v2 v3 = some o1 → Vj p l e R s m args below meth c w 4 0 0 Q 54 [none, none, some (.int o1), none] [] μ → Vj p l e R s m args below meth c w 4 0 0 Q 4 [some (.ref (wad w 10 0)), some (.int v1), some (.int v2), some (.int v3)] [] μ := by
  intro n
  induction n with
  | zero => intro v2 v3 h K; exact noS h
  | succ n ih =>
    intro v2 v3 h K
    replace h : Taster_sameInAll_l1b v1 μ (Taster_sameInAll_l1 v1 μ n) v2 v3 = some o1 := h
    unfold Taster_sameInAll_l1b at h
    refine V_iload_n (i := 3) G eX10_sameInAll_4 rfl rfl ?_
    refine V_aload_n (i := 0) G eX10_sameInAll_5 rfl rfl ?_
    refine V_get (v := .ref (wad w 6 0)) G fgX10_24 rfl eX10_sameInAll_6 ?_
    refine V_get (v := .ref (wad w 702 0)) G fgX10_62 rfl eX10_sameInAll_9 ?_
    refine V_iload_n (i := 1) G eX10_sameInAll_12 rfl rfl ?_
    refine V_iald G al_702 (by decide) eX10_sameInAll_13 h (fun x1 h => ?_)
    refine V_icmp_ge G eX10_sameInAll_14 h (fun h => ?_) (fun h => ?_)
    · cases h; exact V_sub (lS_n (lS_n (lS_s (lS_n lS_0)))) K
    · refine V_aload_n (i := 0) G eX10_sameInAll_17 rfl rfl ?_
      refine V_iload_n (i := 3) G eX10_sameInAll_18 rfl rfl ?_
      refine V_iconst (n := 0) (v := (nI 0)) G eX10_sameInAll_19 rfl ?_
      obtain ⟨x2, h1, h⟩ := bdS h
      refine V_callI (As := [.int v3, .int (nI 0)]) (st := []) G lkX10_67 (Taster_edge_ok h1) (by decide) rfl rfl (Nat.le_of_ble_eq_true rfl) eX10_sameInAll_20 ?_
      refine V_aload_n (i := 0) G eX10_sameInAll_23 rfl rfl ?_
      refine V_iload_n (i := 3) G eX10_sameInAll_24 rfl rfl ?_
      refine V_iconst (n := 1) (v := (nI 1)) G eX10_sameInAll_25 rfl ?_
      obtain ⟨x3, h1, h⟩ := bdS h
      refine V_callI (As := [.int v3, .int (nI 1)]) (st := [.int x2]) G lkX10_67 (Taster_edge_ok h1) (by decide) rfl rfl (Nat.le_of_ble_eq_true rfl) eX10_sameInAll_26 ?_
      obtain ⟨x7, hj, h⟩ := bdS h
      have J : Vj p l e R s m args below meth c w 4 0 0 Q 48 [some (.ref (wad w 10 0)), some (.int v1), some (.int x7), some (.int v3)] [] μ := by
        clear hj
        refine V_iinc (z := (nI 1)) (L' := (fun x8 => [some (.ref (wad w 10 0)), some (.int v1), some (.int x7), some (.int x8)])) G eX10_sameInAll_48 rfl rfl (by decide) rfl (fun _ => rfl) h (fun x8 h => ?_)
        refine V_goto G eX10_sameInAll_51 ?_
        exact (ih h K)
      replace h := hj
      clear hj
      refine V_icmp_ne G eX10_sameInAll_29 h (fun h => ?_) (fun h => ?_)
      · cases h; exact J
      · refine V_iload_n (i := 2) G eX10_sameInAll_32 rfl rfl ?_
        refine V_iconst (n := 1) (v := (nI 1)) G eX10_sameInAll_33 rfl ?_
        refine V_aload_n (i := 0) G eX10_sameInAll_34 rfl rfl ?_
        refine V_get (v := .ref (wad w 6 0)) G fgX10_24 rfl eX10_sameInAll_35 ?_
        refine V_get (v := .ref (wad w 10703 0)) G fgX10_70 rfl eX10_sameInAll_38 ?_
        refine V_iload_n (i := 1) G eX10_sameInAll_41 rfl rfl ?_
        refine V_aaldI (id := 703) G al_10703 eX10_sameInAll_42 h (fun r4 hr4 h => ?_)
        refine V_iload_n (i := 3) G eX10_sameInAll_43 rfl rfl ?_
        refine V_iald G al_703 hr4 eX10_sameInAll_44 h (fun x5 h => ?_)
        refine V_ishl G eX10_sameInAll_45 ?_
        refine V_ior G eX10_sameInAll_46 ?_
        refine V_istore_n (i := 2) (L' := (fun x6 => [some (.ref (wad w 10 0)), some (.int v1), some (.int x6), some (.int v3)])) G rfl eX10_sameInAll_47 (by decide) rfl (fun _ => rfl) h (fun x6 h => ?_)
        cases h; exact J
set_option maxRecDepth 100000 in
set_option maxHeartbeats 4000000 in
theorem Taster_sameInAll_run {p : Program} {l : Launch} {e : Env} {R : Room} {s : State} {m : MethodId} {args : Array Value} {below : List Frame} {meth : Method} {c : Code} {w : Wld} (G : Cxt p R s m args meth c w cX10_sameInAll 4 "PotBook$Taster" 4 0 0) (hr : meth.sig.returnType = some .int) {a1 : Int32} {μ : Mem} {r : Int32} (h : Taster_sameInAll a1 μ = some r) : Vj p l e R s m args below meth c w 4 0 0 (MQ below (QI w r μ) args s 0 0 w.2.2.2) 0 [some (.ref (wad w 10 0)), some (.int a1), none, none] [] μ := by
  unfold Taster_sameInAll at h
  refine V_iconst (n := 0) (v := (nI 0)) G eX10_sameInAll_0 rfl ?_
  refine V_istoreA_n (i := 2) (L' := [some (.ref (wad w 10 0)), some (.int a1), some (.int (nI 0)), none]) G rfl eX10_sameInAll_1 (by decide) rfl rfl ?_
  refine V_iconst (n := 0) (v := (nI 0)) G eX10_sameInAll_2 rfl ?_
  refine V_istoreA_n (i := 3) (L' := [some (.ref (wad w 10 0)), some (.int a1), some (.int (nI 0)), some (.int (nI 0))]) G rfl eX10_sameInAll_3 (by decide) rfl rfl ?_
  obtain ⟨x1, h1, h⟩ := bdS h
  refine Taster_sameInAll_l1_ok G h1 ?_
  refine V_iload_n (i := 2) G eX10_sameInAll_54 rfl rfl ?_
  exact V_ri G hr eX10_sameInAll_55 h
theorem Taster_sameInAll_ok {l : Launch} {w : Wld} {a1 : Int32} {μ : Mem} {r : Int32} (h : Taster_sameInAll a1 μ = some r) : CtI l w yX10_sameInAll cX10_sameInAll 4 .int 4 [.ref (wad w 10 0), .int a1] μ r μ :=
  Ct_of (own := "PotBook$Taster") [some (.ref (wad w 10 0)), some (.int a1), none, none] (by decide +kernel) rfl rfl (Nat.le_of_ble_eq_true rfl) fun p e s m args below meth c G hr => Taster_sameInAll_run G hr h
set_option maxRecDepth 100000 in
set_option maxHeartbeats 4000000 in
theorem B_shared_run {p : Program} {l : Launch} {e : Env} {R : Room} {s : State} {m : MethodId} {args : Array Value} {below : List Frame} {meth : Method} {c : Code} {w : Wld} (G : Cxt p R s m args meth c w cX11_shared 2 "PotBook" 6 0 0) (hr : meth.sig.returnType = some .int) {a1 : Int32} {μ : Mem} {r : Int32} {μ' : Mem} (h : B_shared a1 μ = some (r, μ')) : Vj p l e R s m args below meth c w 2 0 0 (MQ below (QI w r μ') args s 0 0 w.2.2.2) 0 [some (.ref (wad w 11 0)), some (.int a1)] [] μ := by
  unfold B_shared at h
  refine V_aload_n (i := 0) G eX11_shared_0 rfl rfl ?_
  refine V_iload_n (i := 1) G eX11_shared_1 rfl rfl ?_
  obtain ⟨⟨x1, μ2⟩, h1, h⟩ := bdS h
  refine V_callI (As := [.int a1]) (st := []) G lkX11_187 (B_laid_ok h1) (by decide) rfl rfl (Nat.le_of_ble_eq_true rfl) eX11_shared_2 ?_
  refine V_if_le G eX11_shared_5 h (fun h => ?_) (fun h => ?_)
  · refine V_iconst (n := -1) (v := (-1)) G eX11_shared_19 rfl ?_
    exact V_riM G hr eX11_shared_20 h
  · refine V_aload_n (i := 0) G eX11_shared_8 rfl rfl ?_
    refine V_get (v := .ref (wad w 10 0)) G fgX11_62 rfl eX11_shared_9 ?_
    refine V_iload_n (i := 1) G eX11_shared_12 rfl rfl ?_
    obtain ⟨x3, h1, h⟩ := bdS h
    refine V_callI (As := [.int a1]) (st := []) G lkX11_203 (Taster_sameInAll_ok h1) (by decide) rfl rfl (Nat.le_of_ble_eq_true rfl) eX11_shared_13 ?_
    refine V_goto G eX11_shared_16 ?_
    exact V_riM G hr eX11_shared_20 h
theorem B_shared_ok {l : Launch} {w : Wld} {a1 : Int32} {μ : Mem} {r : Int32} {μ' : Mem} (h : B_shared a1 μ = some (r, μ')) : CtI l w yX11_shared cX11_shared 2 .int 6 [.ref (wad w 11 0), .int a1] μ r μ' :=
  Ct_of (own := "PotBook") [some (.ref (wad w 11 0)), some (.int a1)] (by decide +kernel) rfl rfl (Nat.le_of_ble_eq_true rfl) fun p e s m args below meth c G hr => B_shared_run G hr h
set_option maxRecDepth 100000 in
set_option maxHeartbeats 4000000 in
theorem B_worth_run {p : Program} {l : Launch} {e : Env} {R : Room} {s : State} {m : MethodId} {args : Array Value} {below : List Frame} {meth : Method} {c : Code} {w : Wld} (G : Cxt p R s m args meth c w cX11_worth 4 "PotBook" 7 0 0) (hr : meth.sig.returnType = some .int) {a1 : Int32} {a2 : Int32} {a3 : Int32} {μ : Mem} {r : Int32} {μ' : Mem} (h : B_worth a1 a2 a3 μ = some (r, μ')) : Vj p l e R s m args below meth c w 4 0 0 (MQ below (QI w r μ') args s 0 0 w.2.2.2) 0 [some (.ref (wad w 11 0)), some (.int a1), some (.int a2), some (.int a3)] [] μ := by
  unfold B_worth at h
  refine V_aload_n (i := 0) G eX11_worth_0 rfl rfl ?_
  refine V_get (v := .ref (wad w 4 0)) G fgX11_35 rfl eX11_worth_1 ?_
  refine V_iload_n (i := 3) G eX11_worth_4 rfl rfl ?_
  obtain ⟨x1, h1, h⟩ := bdS h
  refine V_callI (As := [.int a3]) (st := []) G lkX11_180 (Laws_has_ok h1) (by decide) rfl rfl (Nat.le_of_ble_eq_true rfl) eX11_worth_5 ?_
  refine V_if_eq G eX11_worth_8 h (fun h => ?_) (fun h => ?_)
  · refine V_ldc (v := (-10000000)) G cnI_X11_213 eX11_worth_38 ?_
    exact V_riM G hr eX11_worth_40 h
  · refine V_aload_n (i := 0) G eX11_worth_11 rfl rfl ?_
    refine V_iload_n (i := 1) G eX11_worth_12 rfl rfl ?_
    refine V_iload_n (i := 2) G eX11_worth_13 rfl rfl ?_
    obtain ⟨⟨x2, μ3⟩, h1, h⟩ := bdS h
    refine V_callI (As := [.int a1, .int a2]) (st := []) G lkX11_190 (B_shows_ok h1) (by decide) rfl rfl (Nat.le_of_ble_eq_true rfl) eX11_worth_14 ?_
    refine V_if_eq G eX11_worth_17 h (fun h => ?_) (fun h => ?_)
    · refine V_ldc (v := (-10000000)) G cnI_X11_213 eX11_worth_38 ?_
      exact V_riM G hr eX11_worth_40 h
    · refine V_aload_n (i := 0) G eX11_worth_20 rfl rfl ?_
      refine V_get (v := .ref (wad w 4 0)) G fgX11_35 rfl eX11_worth_21 ?_
      refine V_iload_n (i := 3) G eX11_worth_24 rfl rfl ?_
      refine V_aload_n (i := 0) G eX11_worth_25 rfl rfl ?_
      refine V_get (v := .ref (wad w 8 0)) G fgX11_53 rfl eX11_worth_26 ?_
      refine V_get (v := .ref (wad w 918 0)) G fgX11_206 rfl eX11_worth_29 ?_
      obtain ⟨⟨x4, μ5⟩, h1, h⟩ := bdS h
      refine V_callI (As := [.int a3, .ref (wad w 918 0)]) (st := []) G lkX11_209 (Laws_valueOf_ok h1) (by decide) rfl rfl (Nat.le_of_ble_eq_true rfl) eX11_worth_32 ?_
      refine V_goto G eX11_worth_35 ?_
      exact V_riM G hr eX11_worth_40 h
theorem B_worth_ok {l : Launch} {w : Wld} {a1 : Int32} {a2 : Int32} {a3 : Int32} {μ : Mem} {r : Int32} {μ' : Mem} (h : B_worth a1 a2 a3 μ = some (r, μ')) : CtI l w yX11_worth cX11_worth 4 .int 7 [.ref (wad w 11 0), .int a1, .int a2, .int a3] μ r μ' :=
  Ct_of (own := "PotBook") [some (.ref (wad w 11 0)), some (.int a1), some (.int a2), some (.int a3)] (by decide +kernel) rfl rfl (Nat.le_of_ble_eq_true rfl) fun p e s m args below meth c G hr => B_worth_run G hr h
set_option maxRecDepth 100000 in
set_option maxHeartbeats 4000000 in
theorem Taster_worthEdge_l1_ok {p : Program} {l : Launch} {e : Env} {R : Room} {s : State} {m : MethodId} {args : Array Value} {below : List Frame} {meth : Method} {c : Code} {w : Wld} {Q : State → Prop} (G : Cxt p R s m args meth c w cX10_worthEdge 5 "PotBook$Taster" 4 0 0) {v1 : Int32} {v2 : Int32} {o1 : Int32} {μo : Mem} : ∀ {n : Nat} {v3 : Int32} {v4 : Int32} {μ : Mem}, Taster_worthEdge_l1 v1 v2 n v3 v4 μ = some (o1, μo) → Vj p l e R s m args below meth c w 5 0 0 Q 75 [none, none, none, some (.int o1), none] [] μo → Vj p l e R s m args below meth c w 5 0 0 Q 27 [some (.ref (wad w 10 0)), some (.int v1), some (.int v2), some (.int v3), some (.int v4)] [] μ := by
  intro n
  induction n with
  | zero => intro v3 v4 μ h K; exact noS h
  | succ n ih =>
    intro v3 v4 μ h K
    replace h : Taster_worthEdge_l1b v1 v2 (Taster_worthEdge_l1 v1 v2 n) v3 v4 μ = some (o1, μo) := h
    unfold Taster_worthEdge_l1b at h
    refine V_iload G eX10_worthEdge_27 rfl ?_
    refine V_aload_n (i := 0) G eX10_worthEdge_29 rfl rfl ?_
    refine V_get (v := .ref (wad w 8 0)) G fgX10_36 rfl eX10_worthEdge_30 ?_
    obtain ⟨x1, h1, h⟩ := bdS h
    refine V_callI (As := []) (st := [.int v4]) G lkX10_46 (Pot_shownCount_ok h1) (by decide) rfl rfl (Nat.le_of_ble_eq_true rfl) eX10_worthEdge_33 ?_
    refine V_icmp_ge G eX10_worthEdge_36 h (fun h => ?_) (fun h => ?_)
    · cases h; exact V_sub (lS_n (lS_n (lS_n (lS_s (lS_n lS_0))))) K
    · refine V_aload_n (i := 0) G eX10_worthEdge_39 rfl rfl ?_
      refine V_get (v := .ref (wad w 8 0)) G fgX10_36 rfl eX10_worthEdge_40 ?_
      refine V_iload G eX10_worthEdge_43 rfl ?_
      obtain ⟨μ2, h1, h⟩ := bdS h
      refine V_callV (As := [.int v4]) (st := []) G lkX10_74 (Pot_show_ok h1) (by decide) rfl rfl (Nat.le_of_ble_eq_true rfl) eX10_worthEdge_45 ?_
      refine V_iload_n (i := 3) G eX10_worthEdge_48 rfl rfl ?_
      refine V_aload_n (i := 0) G eX10_worthEdge_49 rfl rfl ?_
      refine V_get (v := .ref (wad w 4 0)) G fgX10_32 rfl eX10_worthEdge_50 ?_
      refine V_iload_n (i := 1) G eX10_worthEdge_53 rfl rfl ?_
      refine V_aload_n (i := 0) G eX10_worthEdge_54 rfl rfl ?_
      refine V_get (v := .ref (wad w 8 0)) G fgX10_36 rfl eX10_worthEdge_55 ?_
      refine V_get (v := .ref (wad w 918 0)) G fgX10_78 rfl eX10_worthEdge_58 ?_
      obtain ⟨⟨x3, μ4⟩, h1, h⟩ := bdS h
      refine V_callI (As := [.int v1, .ref (wad w 918 0)]) (st := [.int v3]) G lkX10_81 (Laws_valueOf_ok h1) (by decide) rfl rfl (Nat.le_of_ble_eq_true rfl) eX10_worthEdge_61 ?_
      refine V_iload_n (i := 2) G eX10_worthEdge_64 rfl rfl ?_
      obtain ⟨x5, h1, h⟩ := bdS h
      refine V_callIS (As := [.int v3, .int x3, .int v2]) (st := []) G lkX10_50 (Taster_further_ok (μ := μ4) h1) (by decide) rfl rfl (Nat.le_of_ble_eq_true rfl) eX10_worthEdge_65 ?_
      refine V_istoreA_n (i := 3) (L' := [some (.ref (wad w 10 0)), some (.int v1), some (.int v2), some (.int x5), some (.int v4)]) G rfl eX10_worthEdge_68 (by decide) rfl rfl ?_
      refine V_iinc (z := (nI 1)) (L' := (fun x6 => [some (.ref (wad w 10 0)), some (.int v1), some (.int v2), some (.int x5), some (.int x6)])) G eX10_worthEdge_69 rfl rfl (by decide) rfl (fun _ => rfl) h (fun x6 h => ?_)
      refine V_goto G eX10_worthEdge_72 ?_
      exact (ih h K)
set_option maxRecDepth 100000 in
set_option maxHeartbeats 4000000 in
theorem Taster_worthEdge_run {p : Program} {l : Launch} {e : Env} {R : Room} {s : State} {m : MethodId} {args : Array Value} {below : List Frame} {meth : Method} {c : Code} {w : Wld} (G : Cxt p R s m args meth c w cX10_worthEdge 5 "PotBook$Taster" 4 0 0) (hr : meth.sig.returnType = some .int) {a1 : Int32} {a2 : Int32} {μ : Mem} {r : Int32} {μ' : Mem} (h : Taster_worthEdge a1 a2 μ = some (r, μ')) : Vj p l e R s m args below meth c w 5 0 0 (MQ below (QI w r μ') args s 0 0 w.2.2.2) 0 [some (.ref (wad w 10 0)), some (.int a1), some (.int a2), none, none] [] μ := by
  unfold Taster_worthEdge at h
  refine V_aload_n (i := 0) G eX10_worthEdge_0 rfl rfl ?_
  refine V_get (v := .ref (wad w 8 0)) G fgX10_36 rfl eX10_worthEdge_1 ?_
  refine V_iconst (n := 0) (v := (nI 0)) G eX10_worthEdge_4 rfl ?_
  obtain ⟨μ1, h1, h⟩ := bdS h
  refine V_callV (As := [.int (nI 0)]) (st := []) G lkX10_74 (Pot_show_ok h1) (by decide) rfl rfl (Nat.le_of_ble_eq_true rfl) eX10_worthEdge_5 ?_
  refine V_aload_n (i := 0) G eX10_worthEdge_8 rfl rfl ?_
  refine V_get (v := .ref (wad w 4 0)) G fgX10_32 rfl eX10_worthEdge_9 ?_
  refine V_iload_n (i := 1) G eX10_worthEdge_12 rfl rfl ?_
  refine V_aload_n (i := 0) G eX10_worthEdge_13 rfl rfl ?_
  refine V_get (v := .ref (wad w 8 0)) G fgX10_36 rfl eX10_worthEdge_14 ?_
  refine V_get (v := .ref (wad w 918 0)) G fgX10_78 rfl eX10_worthEdge_17 ?_
  obtain ⟨⟨x2, μ3⟩, h1, h⟩ := bdS h
  refine V_callI (As := [.int a1, .ref (wad w 918 0)]) (st := []) G lkX10_81 (Laws_valueOf_ok h1) (by decide) rfl rfl (Nat.le_of_ble_eq_true rfl) eX10_worthEdge_20 ?_
  refine V_istoreA_n (i := 3) (L' := [some (.ref (wad w 10 0)), some (.int a1), some (.int a2), some (.int x2), none]) G rfl eX10_worthEdge_23 (by decide) rfl rfl ?_
  refine V_iconst (n := 1) (v := (nI 1)) G eX10_worthEdge_24 rfl ?_
  refine V_istoreA (i := 4) (L' := [some (.ref (wad w 10 0)), some (.int a1), some (.int a2), some (.int x2), some (.int (nI 1))]) G eX10_worthEdge_25 (by decide) rfl rfl ?_
  obtain ⟨⟨x4, μ5⟩, h1, h⟩ := bdS h
  refine Taster_worthEdge_l1_ok G h1 ?_
  refine V_iload_n (i := 3) G eX10_worthEdge_75 rfl rfl ?_
  exact V_riM G hr eX10_worthEdge_76 h
theorem Taster_worthEdge_ok {l : Launch} {w : Wld} {a1 : Int32} {a2 : Int32} {μ : Mem} {r : Int32} {μ' : Mem} (h : Taster_worthEdge a1 a2 μ = some (r, μ')) : CtI l w yX10_worthEdge cX10_worthEdge 5 .int 4 [.ref (wad w 10 0), .int a1, .int a2] μ r μ' :=
  Ct_of (own := "PotBook$Taster") [some (.ref (wad w 10 0)), some (.int a1), some (.int a2), none, none] (by decide +kernel) rfl rfl (Nat.le_of_ble_eq_true rfl) fun p e s m args below meth c G hr => Taster_worthEdge_run G hr h
set_option maxRecDepth 100000 in
set_option maxHeartbeats 4000000 in
theorem B_range_run {p : Program} {l : Launch} {e : Env} {R : Room} {s : State} {m : MethodId} {args : Array Value} {below : List Frame} {meth : Method} {c : Code} {w : Wld} (G : Cxt p R s m args meth c w cX11_range 4 "PotBook" 6 0 0) (hr : meth.sig.returnType = some .int) {a1 : Int32} {a2 : Int32} {a3 : Int32} {μ : Mem} {r : Int32} {μ' : Mem} (h : B_range a1 a2 a3 μ = some (r, μ')) : Vj p l e R s m args below meth c w 4 0 0 (MQ below (QI w r μ') args s 0 0 w.2.2.2) 0 [some (.ref (wad w 11 0)), some (.int a1), some (.int a2), some (.int a3)] [] μ := by
  unfold B_range at h
  refine V_aload_n (i := 0) G eX11_range_0 rfl rfl ?_
  refine V_get (v := .ref (wad w 4 0)) G fgX11_35 rfl eX11_range_1 ?_
  refine V_iload_n (i := 2) G eX11_range_4 rfl rfl ?_
  obtain ⟨x1, h1, h⟩ := bdS h
  refine V_callI (As := [.int a2]) (st := []) G lkX11_180 (Laws_has_ok h1) (by decide) rfl rfl (Nat.le_of_ble_eq_true rfl) eX11_range_5 ?_
  refine V_if_eq G eX11_range_8 h (fun h => ?_) (fun h => ?_)
  · refine V_ldc (v := (-10000000)) G cnI_X11_213 eX11_range_28 ?_
    exact V_riM G hr eX11_range_30 h
  · refine V_iload_n (i := 3) G eX11_range_11 rfl rfl ?_
    refine V_iconst (n := 0) (v := (nI 0)) G eX11_range_12 rfl ?_
    refine V_iconst (n := 1) (v := (nI 1)) G eX11_range_13 rfl ?_
    obtain ⟨x2, h1, h⟩ := bdS h
    refine V_callIS (As := [.int a3, .int (nI 0), .int (nI 1)]) (st := []) G lkX11_127 (B_isWithin_ok (μ := μ) h1) (by decide) rfl rfl (Nat.le_of_ble_eq_true rfl) eX11_range_14 ?_
    refine V_if_eq G eX11_range_17 h (fun h => ?_) (fun h => ?_)
    · refine V_ldc (v := (-10000000)) G cnI_X11_213 eX11_range_28 ?_
      exact V_riM G hr eX11_range_30 h
    · refine V_aload_n (i := 0) G eX11_range_20 rfl rfl ?_
      refine V_iload_n (i := 1) G eX11_range_21 rfl rfl ?_
      obtain ⟨⟨x3, μ4⟩, h1, h⟩ := bdS h
      refine V_callI (As := [.int a1]) (st := []) G lkX11_187 (B_laid_ok h1) (by decide) rfl rfl (Nat.le_of_ble_eq_true rfl) eX11_range_22 ?_
      refine V_if_gt G eX11_range_25 h (fun h => ?_) (fun h => ?_)
      · refine V_aload_n (i := 0) G eX11_range_31 rfl rfl ?_
        refine V_get (v := .ref (wad w 10 0)) G fgX11_62 rfl eX11_range_32 ?_
        refine V_iload_n (i := 2) G eX11_range_35 rfl rfl ?_
        refine V_iload_n (i := 3) G eX11_range_36 rfl rfl ?_
        obtain ⟨⟨x5, μ6⟩, h1, h⟩ := bdS h
        refine V_callI (As := [.int a2, .int a3]) (st := []) G lkX11_214 (Taster_worthEdge_ok h1) (by decide) rfl rfl (Nat.le_of_ble_eq_true rfl) eX11_range_37 ?_
        exact V_riM G hr eX11_range_40 h
      · refine V_ldc (v := (-10000000)) G cnI_X11_213 eX11_range_28 ?_
        exact V_riM G hr eX11_range_30 h
theorem B_range_ok {l : Launch} {w : Wld} {a1 : Int32} {a2 : Int32} {a3 : Int32} {μ : Mem} {r : Int32} {μ' : Mem} (h : B_range a1 a2 a3 μ = some (r, μ')) : CtI l w yX11_range cX11_range 4 .int 6 [.ref (wad w 11 0), .int a1, .int a2, .int a3] μ r μ' :=
  Ct_of (own := "PotBook") [some (.ref (wad w 11 0)), some (.int a1), some (.int a2), some (.int a3)] (by decide +kernel) rfl rfl (Nat.le_of_ble_eq_true rfl) fun p e s m args below meth c G hr => B_range_run G hr h
set_option maxRecDepth 100000 in
set_option maxHeartbeats 4000000 in
theorem Taster_mostAlike_l1_ok {p : Program} {l : Launch} {e : Env} {R : Room} {s : State} {m : MethodId} {args : Array Value} {below : List Frame} {meth : Method} {c : Code} {w : Wld} {Q : State → Prop} (G : Cxt p R s m args meth c w cX10_mostAlike 5 "PotBook$Taster" 3 0 0) {v1 : Int32} {μo : Mem} : ∀ {n : Nat} {v2 : Int32} {μ : Mem}, Taster_mostAlike_l1 v1 n v2 μ = some μo → Vj p l e R s m args below meth c w 5 0 0 Q 21 [some (.ref (wad w 10 0)), some (.int v1), none, none, none] [] μo → Vj p l e R s m args below meth c w 5 0 0 Q 2 [some (.ref (wad w 10 0)), some (.int v1), some (.int v2), none, none] [] μ := by
  intro n
  induction n with
  | zero => intro v2 μ h K; exact noS h
  | succ n ih =>
    intro v2 μ h K
    replace h : Taster_mostAlike_l1b v1 (Taster_mostAlike_l1 v1 n) v2 μ = some μo := h
    unfold Taster_mostAlike_l1b at h
    refine V_iload_n (i := 2) G eX10_mostAlike_2 rfl rfl ?_
    refine V_bipush (n := 99) (v := (nI 99)) G eX10_mostAlike_3 rfl ?_
    refine V_icmp_gt G eX10_mostAlike_5 h (fun h => ?_) (fun h => ?_)
    · cases h; exact V_sub (lS_s (lS_s (lS_n (lS_n (lS_n lS_0))))) K
    · refine V_aload_n (i := 0) G eX10_mostAlike_8 rfl rfl ?_
      refine V_get (v := .ref (wad w 1104 0)) G fgX10_9 rfl eX10_mostAlike_9 ?_
      refine V_iload_n (i := 2) G eX10_mostAlike_12 rfl rfl ?_
      refine V_iconst (n := 0) (v := (nI 0)) G eX10_mostAlike_13 rfl ?_
      refine V_iast G al_1104 (by decide) eX10_mostAlike_14 h (fun μ1 h => ?_)
      refine V_iinc (z := (nI 1)) (L' := (fun x2 => [some (.ref (wad w 10 0)), some (.int v1), some (.int x2), none, none])) G eX10_mostAlike_15 rfl rfl (by decide) rfl (fun _ => rfl) h (fun x2 h => ?_)
      refine V_goto G eX10_mostAlike_18 ?_
      exact (ih h K)
set_option maxRecDepth 100000 in
set_option maxHeartbeats 4000000 in
theorem Taster_mostAlike_l2_ok {p : Program} {l : Launch} {e : Env} {R : Room} {s : State} {m : MethodId} {args : Array Value} {below : List Frame} {meth : Method} {c : Code} {w : Wld} {Q : State → Prop} (G : Cxt p R s m args meth c w cX10_mostAlike 5 "PotBook$Taster" 3 0 0) {v1 : Int32} {o1 : Int32} {μo : Mem} : ∀ {n : Nat} {v2 : Int32} {v3 : Int32} {μ : Mem}, Taster_mostAlike_l2 v1 n v2 v3 μ = some (o1, μo) → Vj p l e R s m args below meth c w 5 0 0 Q 87 [none, none, some (.int o1), none, none] [] μo → Vj p l e R s m args below meth c w 5 0 0 Q 25 [some (.ref (wad w 10 0)), some (.int v1), some (.int v2), some (.int v3), none] [] μ := by
  intro n
  induction n with
  | zero => intro v2 v3 μ h K; exact noS h
  | succ n ih =>
    intro v2 v3 μ h K
    replace h : Taster_mostAlike_l2b v1 (Taster_mostAlike_l2 v1 n) v2 v3 μ = some (o1, μo) := h
    unfold Taster_mostAlike_l2b at h
    refine V_iload_n (i := 3) G eX10_mostAlike_25 rfl rfl ?_
    refine V_aload_n (i := 0) G eX10_mostAlike_26 rfl rfl ?_
    refine V_get (v := .ref (wad w 8 0)) G fgX10_36 rfl eX10_mostAlike_27 ?_
    obtain ⟨x1, h1, h⟩ := bdS h
    refine V_callI (As := []) (st := [.int v3]) G lkX10_46 (Pot_shownCount_ok h1) (by decide) rfl rfl (Nat.le_of_ble_eq_true rfl) eX10_mostAlike_30 ?_
    refine V_icmp_ge G eX10_mostAlike_33 h (fun h => ?_) (fun h => ?_)
    · cases h; exact V_sub (lS_n (lS_n (lS_s (lS_n (lS_n lS_0))))) K
    · refine V_aload_n (i := 0) G eX10_mostAlike_36 rfl rfl ?_
      refine V_get (v := .ref (wad w 8 0)) G fgX10_36 rfl eX10_mostAlike_37 ?_
      refine V_iload_n (i := 3) G eX10_mostAlike_40 rfl rfl ?_
      refine V_iload_n (i := 1) G eX10_mostAlike_41 rfl rfl ?_
      obtain ⟨x2, h1, h⟩ := bdS h
      refine V_callI (As := [.int v3, .int v1]) (st := []) G lkX10_40 (Pot_partsAt_ok h1) (by decide) rfl rfl (Nat.le_of_ble_eq_true rfl) eX10_mostAlike_42 ?_
      refine V_istoreA (i := 4) (L' := [some (.ref (wad w 10 0)), some (.int v1), some (.int v2), some (.int v3), some (.int x2)]) G eX10_mostAlike_45 (by decide) rfl rfl ?_
      refine V_iload G eX10_mostAlike_47 rfl ?_
      refine V_iconst (n := 0) (v := (nI 0)) G eX10_mostAlike_49 rfl ?_
      refine V_bipush (n := 99) (v := (nI 99)) G eX10_mostAlike_50 rfl ?_
      obtain ⟨x3, h1, h⟩ := bdS h
      refine V_callIS (As := [.int x2, .int (nI 0), .int (nI 99)]) (st := []) G lkX10_91 (B_isWithin_ok (μ := μ) h1) (by decide) rfl rfl (Nat.le_of_ble_eq_true rfl) eX10_mostAlike_52 ?_
      obtain ⟨⟨x8, μ9⟩, hj, h⟩ := bdS h
      have J : Vj p l e R s m args below meth c w 5 0 0 Q 81 [some (.ref (wad w 10 0)), some (.int v1), some (.int x8), some (.int v3), none] [] μ9 := by
        clear hj
        refine V_iinc (z := (nI 1)) (L' := (fun x10 => [some (.ref (wad w 10 0)), some (.int v1), some (.int x8), some (.int x10), none])) G eX10_mostAlike_81 rfl rfl (by decide) rfl (fun _ => rfl) h (fun x10 h => ?_)
        refine V_goto G eX10_mostAlike_84 ?_
        exact (ih h K)
      replace h := hj
      clear hj
      refine V_if_eq G eX10_mostAlike_55 h (fun h => ?_) (fun h => ?_)
      · cases h; exact V_sub (lS_s (lS_s (lS_s (lS_s (lS_n lS_0))))) J
      · refine V_aload_n (i := 0) G eX10_mostAlike_58 rfl rfl ?_
        refine V_get (v := .ref (wad w 1104 0)) G fgX10_9 rfl eX10_mostAlike_59 ?_
        refine V_iload G eX10_mostAlike_62 rfl ?_
        refine V_dup2_11 G eX10_mostAlike_64 rfl rfl ?_
        refine V_iald G al_1104 (by decide) eX10_mostAlike_65 h (fun x4 h => ?_)
        refine V_iconst (n := 1) (v := (nI 1)) G eX10_mostAlike_66 rfl ?_
        refine V_iadd G eX10_mostAlike_67 ?_
        refine V_iast G al_1104 (by decide) eX10_mostAlike_68 h (fun μ5 h => ?_)
        refine V_iload_n (i := 2) G eX10_mostAlike_69 rfl rfl ?_
        refine V_aload_n (i := 0) G eX10_mostAlike_70 rfl rfl ?_
        refine V_get (v := .ref (wad w 1104 0)) G fgX10_9 rfl eX10_mostAlike_71 ?_
        refine V_iload G eX10_mostAlike_74 rfl ?_
        refine V_iald G al_1104 (by decide) eX10_mostAlike_76 h (fun x6 h => ?_)
        refine V_jMax G mkX10_59 (by decide) (Nat.le_of_ble_eq_true rfl) eX10_mostAlike_77 ?_
        refine V_istore_n (i := 2) (L' := (fun x7 => [some (.ref (wad w 10 0)), some (.int v1), some (.int x7), some (.int v3), some (.int x2)])) G rfl eX10_mostAlike_80 (by decide) rfl (fun _ => rfl) h (fun x7 h => ?_)
        cases h; exact V_sub (lS_s (lS_s (lS_s (lS_s (lS_n lS_0))))) J
set_option maxRecDepth 100000 in
set_option maxHeartbeats 4000000 in
theorem Taster_mostAlike_run {p : Program} {l : Launch} {e : Env} {R : Room} {s : State} {m : MethodId} {args : Array Value} {below : List Frame} {meth : Method} {c : Code} {w : Wld} (G : Cxt p R s m args meth c w cX10_mostAlike 5 "PotBook$Taster" 3 0 0) (hr : meth.sig.returnType = some .int) {a1 : Int32} {μ : Mem} {r : Int32} {μ' : Mem} (h : Taster_mostAlike a1 μ = some (r, μ')) : Vj p l e R s m args below meth c w 5 0 0 (MQ below (QI w r μ') args s 0 0 w.2.2.2) 0 [some (.ref (wad w 10 0)), some (.int a1), none, none, none] [] μ := by
  unfold Taster_mostAlike at h
  refine V_iconst (n := 0) (v := (nI 0)) G eX10_mostAlike_0 rfl ?_
  refine V_istoreA_n (i := 2) (L' := [some (.ref (wad w 10 0)), some (.int a1), some (.int (nI 0)), none, none]) G rfl eX10_mostAlike_1 (by decide) rfl rfl ?_
  obtain ⟨μ1, h1, h⟩ := bdS h
  refine Taster_mostAlike_l1_ok G h1 ?_
  refine V_iconst (n := 0) (v := (nI 0)) G eX10_mostAlike_21 rfl ?_
  refine V_istoreA_n (i := 2) (L' := [some (.ref (wad w 10 0)), some (.int a1), some (.int (nI 0)), none, none]) G rfl eX10_mostAlike_22 (by decide) rfl rfl ?_
  refine V_iconst (n := 0) (v := (nI 0)) G eX10_mostAlike_23 rfl ?_
  refine V_istoreA_n (i := 3) (L' := [some (.ref (wad w 10 0)), some (.int a1), some (.int (nI 0)), some (.int (nI 0)), none]) G rfl eX10_mostAlike_24 (by decide) rfl rfl ?_
  obtain ⟨⟨x2, μ3⟩, h1, h⟩ := bdS h
  refine Taster_mostAlike_l2_ok G h1 ?_
  refine V_iload_n (i := 2) G eX10_mostAlike_87 rfl rfl ?_
  exact V_riM G hr eX10_mostAlike_88 h
theorem Taster_mostAlike_ok {l : Launch} {w : Wld} {a1 : Int32} {μ : Mem} {r : Int32} {μ' : Mem} (h : Taster_mostAlike a1 μ = some (r, μ')) : CtI l w yX10_mostAlike cX10_mostAlike 5 .int 3 [.ref (wad w 10 0), .int a1] μ r μ' :=
  Ct_of (own := "PotBook$Taster") [some (.ref (wad w 10 0)), some (.int a1), none, none, none] (by decide +kernel) rfl rfl (Nat.le_of_ble_eq_true rfl) fun p e s m args below meth c G hr => Taster_mostAlike_run G hr h
set_option maxRecDepth 100000 in
set_option maxHeartbeats 4000000 in
theorem Taster_mostTelling_l1_ok {p : Program} {l : Launch} {e : Env} {R : Room} {s : State} {m : MethodId} {args : Array Value} {below : List Frame} {meth : Method} {c : Code} {w : Wld} {Q : State → Prop} (G : Cxt p R s m args meth c w cX10_mostTelling 6 "PotBook$Taster" 4 0 0) {v1 : Int32} {o1 : Int32} {μo : Mem} : ∀ {n : Nat} {v2 : Int32} {v3 : Int32} {v4 : Int32} {μ : Mem}, Taster_mostTelling_l1 v1 n v2 v3 v4 μ = some (o1, μo) → Vj p l e R s m args below meth c w 6 0 0 Q 59 [none, none, some (.int o1), none, none, none] [] μo → Vj p l e R s m args below meth c w 6 0 0 Q 9 [some (.ref (wad w 10 0)), some (.int v1), some (.int v2), some (.int v3), some (.int v4), none] [] μ := by
  intro n
  induction n with
  | zero => intro v2 v3 v4 μ h K; exact noS h
  | succ n ih =>
    intro v2 v3 v4 μ h K
    replace h : Taster_mostTelling_l1b v1 (Taster_mostTelling_l1 v1 n) v2 v3 v4 μ = some (o1, μo) := h
    unfold Taster_mostTelling_l1b at h
    refine V_iload G eX10_mostTelling_9 rfl ?_
    refine V_aload_n (i := 0) G eX10_mostTelling_11 rfl rfl ?_
    refine V_get (v := .ref (wad w 6 0)) G fgX10_24 rfl eX10_mostTelling_12 ?_
    refine V_get (v := .ref (wad w 702 0)) G fgX10_62 rfl eX10_mostTelling_15 ?_
    refine V_iload_n (i := 1) G eX10_mostTelling_18 rfl rfl ?_
    refine V_iald G al_702 (by decide) eX10_mostTelling_19 h (fun x1 h => ?_)
    refine V_icmp_ge G eX10_mostTelling_20 h (fun h => ?_) (fun h => ?_)
    · cases h; exact V_sub (lS_n (lS_n (lS_s (lS_n (lS_n (lS_n lS_0)))))) K
    · refine V_aload_n (i := 0) G eX10_mostTelling_23 rfl rfl ?_
      refine V_iload G eX10_mostTelling_24 rfl ?_
      obtain ⟨⟨x2, μ3⟩, h1, h⟩ := bdS h
      refine V_callI (As := [.int v4]) (st := []) G lkX10_87 (Taster_mostAlike_ok h1) (by decide) rfl rfl (Nat.le_of_ble_eq_true rfl) eX10_mostTelling_26 ?_
      refine V_istoreA (i := 5) (L' := [some (.ref (wad w 10 0)), some (.int v1), some (.int v2), some (.int v3), some (.int v4), some (.int x2)]) G eX10_mostTelling_29 (by decide) rfl rfl ?_
      refine V_iload G eX10_mostTelling_31 rfl ?_
      refine V_iload_n (i := 3) G eX10_mostTelling_33 rfl rfl ?_
      obtain ⟨⟨x6, x7⟩, hj, h⟩ := bdS h
      have J : Vj p l e R s m args below meth c w 6 0 0 Q 53 [some (.ref (wad w 10 0)), some (.int v1), some (.int x6), some (.int x7), some (.int v4), none] [] μ3 := by
        clear hj
        refine V_iinc (z := (nI 1)) (L' := (fun x8 => [some (.ref (wad w 10 0)), some (.int v1), some (.int x6), some (.int x7), some (.int x8), none])) G eX10_mostTelling_53 rfl rfl (by decide) rfl (fun _ => rfl) h (fun x8 h => ?_)
        refine V_goto G eX10_mostTelling_56 ?_
        exact (ih h K)
      replace h := hj
      clear hj
      refine V_icmp_ge G eX10_mostTelling_34 h (fun h => ?_) (fun h => ?_)
      · cases h; exact V_sub (lS_s (lS_s (lS_s (lS_s (lS_s (lS_n lS_0)))))) J
      · refine V_iload G eX10_mostTelling_37 rfl ?_
        refine V_istoreA_n (i := 3) (L' := [some (.ref (wad w 10 0)), some (.int v1), some (.int v2), some (.int x2), some (.int v4), some (.int x2)]) G rfl eX10_mostTelling_39 (by decide) rfl rfl ?_
        refine V_aload_n (i := 0) G eX10_mostTelling_40 rfl rfl ?_
        refine V_get (v := .ref (wad w 6 0)) G fgX10_24 rfl eX10_mostTelling_41 ?_
        refine V_get (v := .ref (wad w 10703 0)) G fgX10_70 rfl eX10_mostTelling_44 ?_
        refine V_iload_n (i := 1) G eX10_mostTelling_47 rfl rfl ?_
        refine V_aaldI (id := 703) G al_10703 eX10_mostTelling_48 h (fun r4 hr4 h => ?_)
        refine V_iload G eX10_mostTelling_49 rfl ?_
        refine V_iald G al_703 hr4 eX10_mostTelling_51 h (fun x5 h => ?_)
        refine V_istoreA_n (i := 2) (L' := [some (.ref (wad w 10 0)), some (.int v1), some (.int x5), some (.int x2), some (.int v4), some (.int x2)]) G rfl eX10_mostTelling_52 (by decide) rfl rfl ?_
        cases h; exact V_sub (lS_s (lS_s (lS_s (lS_s (lS_s (lS_n lS_0)))))) J
set_option maxRecDepth 100000 in
set_option maxHeartbeats 4000000 in
theorem Taster_mostTelling_run {p : Program} {l : Launch} {e : Env} {R : Room} {s : State} {m : MethodId} {args : Array Value} {below : List Frame} {meth : Method} {c : Code} {w : Wld} (G : Cxt p R s m args meth c w cX10_mostTelling 6 "PotBook$Taster" 4 0 0) (hr : meth.sig.returnType = some .int) {a1 : Int32} {μ : Mem} {r : Int32} {μ' : Mem} (h : Taster_mostTelling a1 μ = some (r, μ')) : Vj p l e R s m args below meth c w 6 0 0 (MQ below (QI w r μ') args s 0 0 w.2.2.2) 0 [some (.ref (wad w 10 0)), some (.int a1), none, none, none, none] [] μ := by
  unfold Taster_mostTelling at h
  refine V_iconst (n := -1) (v := (-1)) G eX10_mostTelling_0 rfl ?_
  refine V_istoreA_n (i := 2) (L' := [some (.ref (wad w 10 0)), some (.int a1), some (.int (-1)), none, none, none]) G rfl eX10_mostTelling_1 (by decide) rfl rfl ?_
  refine V_sipush (n := 5001) (v := (nI 5001)) G eX10_mostTelling_2 rfl ?_
  refine V_istoreA_n (i := 3) (L' := [some (.ref (wad w 10 0)), some (.int a1), some (.int (-1)), some (.int (nI 5001)), none, none]) G rfl eX10_mostTelling_5 (by decide) rfl rfl ?_
  refine V_iconst (n := 0) (v := (nI 0)) G eX10_mostTelling_6 rfl ?_
  refine V_istoreA (i := 4) (L' := [some (.ref (wad w 10 0)), some (.int a1), some (.int (-1)), some (.int (nI 5001)), some (.int (nI 0)), none]) G eX10_mostTelling_7 (by decide) rfl rfl ?_
  obtain ⟨⟨x1, μ2⟩, h1, h⟩ := bdS h
  refine Taster_mostTelling_l1_ok G h1 ?_
  refine V_iload_n (i := 2) G eX10_mostTelling_59 rfl rfl ?_
  exact V_riM G hr eX10_mostTelling_60 h
theorem Taster_mostTelling_ok {l : Launch} {w : Wld} {a1 : Int32} {μ : Mem} {r : Int32} {μ' : Mem} (h : Taster_mostTelling a1 μ = some (r, μ')) : CtI l w yX10_mostTelling cX10_mostTelling 6 .int 4 [.ref (wad w 10 0), .int a1] μ r μ' :=
  Ct_of (own := "PotBook$Taster") [some (.ref (wad w 10 0)), some (.int a1), none, none, none, none] (by decide +kernel) rfl rfl (Nat.le_of_ble_eq_true rfl) fun p e s m args below meth c G hr => Taster_mostTelling_run G hr h
set_option maxRecDepth 100000 in
set_option maxHeartbeats 4000000 in
theorem B_weigh_run {p : Program} {l : Launch} {e : Env} {R : Room} {s : State} {m : MethodId} {args : Array Value} {below : List Frame} {meth : Method} {c : Code} {w : Wld} (G : Cxt p R s m args meth c w cX11_weigh 2 "PotBook" 6 0 0) (hr : meth.sig.returnType = some .int) {a1 : Int32} {μ : Mem} {r : Int32} {μ' : Mem} (h : B_weigh a1 μ = some (r, μ')) : Vj p l e R s m args below meth c w 2 0 0 (MQ below (QI w r μ') args s 0 0 w.2.2.2) 0 [some (.ref (wad w 11 0)), some (.int a1)] [] μ := by
  unfold B_weigh at h
  refine V_aload_n (i := 0) G eX11_weigh_0 rfl rfl ?_
  refine V_iload_n (i := 1) G eX11_weigh_1 rfl rfl ?_
  obtain ⟨⟨x1, μ2⟩, h1, h⟩ := bdS h
  refine V_callI (As := [.int a1]) (st := []) G lkX11_187 (B_laid_ok h1) (by decide) rfl rfl (Nat.le_of_ble_eq_true rfl) eX11_weigh_2 ?_
  refine V_if_le G eX11_weigh_5 h (fun h => ?_) (fun h => ?_)
  · refine V_iconst (n := -1) (v := (-1)) G eX11_weigh_19 rfl ?_
    exact V_riM G hr eX11_weigh_20 h
  · refine V_aload_n (i := 0) G eX11_weigh_8 rfl rfl ?_
    refine V_get (v := .ref (wad w 10 0)) G fgX11_62 rfl eX11_weigh_9 ?_
    refine V_iload_n (i := 1) G eX11_weigh_12 rfl rfl ?_
    obtain ⟨⟨x3, μ4⟩, h1, h⟩ := bdS h
    refine V_callI (As := [.int a1]) (st := []) G lkX11_217 (Taster_mostTelling_ok h1) (by decide) rfl rfl (Nat.le_of_ble_eq_true rfl) eX11_weigh_13 ?_
    refine V_goto G eX11_weigh_16 ?_
    exact V_riM G hr eX11_weigh_20 h
theorem B_weigh_ok {l : Launch} {w : Wld} {a1 : Int32} {μ : Mem} {r : Int32} {μ' : Mem} (h : B_weigh a1 μ = some (r, μ')) : CtI l w yX11_weigh cX11_weigh 2 .int 6 [.ref (wad w 11 0), .int a1] μ r μ' :=
  Ct_of (own := "PotBook") [some (.ref (wad w 11 0)), some (.int a1)] (by decide +kernel) rfl rfl (Nat.le_of_ble_eq_true rfl) fun p e s m args below meth c G hr => B_weigh_run G hr h
set_option maxRecDepth 100000 in
set_option maxHeartbeats 4000000 in
theorem Laws_tellTrial_run {p : Program} {l : Launch} {e : Env} {R : Room} {s : State} {m : MethodId} {args : Array Value} {below : List Frame} {meth : Method} {c : Code} {w : Wld} (G : Cxt p R s m args meth c w cX4_tellTrial 4 "PotBook$Laws" 2 0 0) (hr : meth.sig.returnType = none) {a1 : Int32} {a2 : Int32} {a3 : Int32} {μ : Mem} {μ' : Mem} (h : Laws_tellTrial a1 a2 a3 μ = some μ') : Vj p l e R s m args below meth c w 4 0 0 (MQ below (QV w μ') args s 0 0 w.2.2.2) 0 [some (.ref (wad w 4 0)), some (.int a1), some (.int a2), some (.int a3)] [] μ := by
  unfold Laws_tellTrial at h
  refine V_iload_n (i := 3) G eX4_tellTrial_0 rfl rfl ?_
  obtain ⟨μ5, hj, h⟩ := bdS h
  have J : Vj p l e R s m args below meth c w 4 0 0 (MQ below (QV w μ') args s 0 0 w.2.2.2) 39 [some (.ref (wad w 4 0)), none, none, none] [] μ5 := by
    clear hj
    refine V_aload_n (i := 0) G eX4_tellTrial_39 rfl rfl ?_
    refine V_dup G eX4_tellTrial_40 rfl ?_
    refine V_get (v := .int (mI μ5 507 0 0)) G fgX4_71 rfl eX4_tellTrial_41 ?_
    refine V_iconst (n := 1) (v := (nI 1)) G eX4_tellTrial_44 rfl ?_
    refine V_iadd G eX4_tellTrial_45 ?_
    refine V_put G fgX4_71 fp_4_7 eX4_tellTrial_46 h (fun μ6 h => ?_)
    exact V_rvM G hr eX4_tellTrial_49 h
  replace h := hj
  clear hj
  refine V_if_eq G eX4_tellTrial_1 h (fun h => ?_) (fun h => ?_)
  · refine V_aload_n (i := 0) G eX4_tellTrial_23 rfl rfl ?_
    refine V_get (v := .ref (wad w 506 0)) G fgX4_26 rfl eX4_tellTrial_24 ?_
    refine V_iload_n (i := 1) G eX4_tellTrial_27 rfl rfl ?_
    refine V_aload_n (i := 0) G eX4_tellTrial_28 rfl rfl ?_
    refine V_get (v := .ref (wad w 506 0)) G fgX4_26 rfl eX4_tellTrial_29 ?_
    refine V_iload_n (i := 1) G eX4_tellTrial_32 rfl rfl ?_
    refine V_iald G al_506 (by decide) eX4_tellTrial_33 h (fun x1 h => ?_)
    refine V_iload_n (i := 2) G eX4_tellTrial_34 rfl rfl ?_
    refine V_jMax G mkX4_68 (by decide) (Nat.le_of_ble_eq_true rfl) eX4_tellTrial_35 ?_
    refine V_iast G al_506 (by decide) eX4_tellTrial_38 h (fun μ2 h => ?_)
    cases h; exact V_sub (lS_s (lS_n (lS_n (lS_n lS_0)))) J
  · refine V_aload_n (i := 0) G eX4_tellTrial_4 rfl rfl ?_
    refine V_get (v := .ref (wad w 505 0)) G fgX4_23 rfl eX4_tellTrial_5 ?_
    refine V_iload_n (i := 1) G eX4_tellTrial_8 rfl rfl ?_
    refine V_aload_n (i := 0) G eX4_tellTrial_9 rfl rfl ?_
    refine V_get (v := .ref (wad w 505 0)) G fgX4_23 rfl eX4_tellTrial_10 ?_
    refine V_iload_n (i := 1) G eX4_tellTrial_13 rfl rfl ?_
    refine V_iald G al_505 (by decide) eX4_tellTrial_14 h (fun x3 h => ?_)
    refine V_iload_n (i := 2) G eX4_tellTrial_15 rfl rfl ?_
    refine V_jMin G mkX4_62 (by decide) (Nat.le_of_ble_eq_true rfl) eX4_tellTrial_16 ?_
    refine V_iast G al_505 (by decide) eX4_tellTrial_19 h (fun μ4 h => ?_)
    refine V_goto G eX4_tellTrial_20 ?_
    cases h; exact V_sub (lS_s (lS_n (lS_n (lS_n lS_0)))) J
theorem Laws_tellTrial_ok {l : Launch} {w : Wld} {a1 : Int32} {a2 : Int32} {a3 : Int32} {μ : Mem} {μ' : Mem} (h : Laws_tellTrial a1 a2 a3 μ = some μ') : CtV l w yX4_tellTrial cX4_tellTrial 4 2 [.ref (wad w 4 0), .int a1, .int a2, .int a3] μ μ' :=
  Ct_of (own := "PotBook$Laws") [some (.ref (wad w 4 0)), some (.int a1), some (.int a2), some (.int a3)] (by decide +kernel) rfl rfl (Nat.le_of_ble_eq_true rfl) fun p e s m args below meth c G hr => Laws_tellTrial_run G hr h
set_option maxRecDepth 100000 in
set_option maxHeartbeats 4000000 in
theorem B_trial_run {p : Program} {l : Launch} {e : Env} {R : Room} {s : State} {m : MethodId} {args : Array Value} {below : List Frame} {meth : Method} {c : Code} {w : Wld} (G : Cxt p R s m args meth c w cX11_trial 4 "PotBook" 3 0 0) (hr : meth.sig.returnType = some .int) {a1 : Int32} {a2 : Int32} {a3 : Int32} {μ : Mem} {r : Int32} {μ' : Mem} (h : B_trial a1 a2 a3 μ = some (r, μ')) : Vj p l e R s m args below meth c w 4 0 0 (MQ below (QI w r μ') args s 0 0 w.2.2.2) 0 [some (.ref (wad w 11 0)), some (.int a1), some (.int a2), some (.int a3)] [] μ := by
  unfold B_trial at h
  refine V_aload_n (i := 0) G eX11_trial_0 rfl rfl ?_
  refine V_get (v := .ref (wad w 4 0)) G fgX11_35 rfl eX11_trial_1 ?_
  refine V_iload_n (i := 1) G eX11_trial_4 rfl rfl ?_
  obtain ⟨x1, h1, h⟩ := bdS h
  refine V_callI (As := [.int a1]) (st := []) G lkX11_180 (Laws_has_ok h1) (by decide) rfl rfl (Nat.le_of_ble_eq_true rfl) eX11_trial_5 ?_
  refine V_if_eq G eX11_trial_8 h (fun h => ?_) (fun h => ?_)
  · refine V_iconst (n := -1) (v := (-1)) G eX11_trial_36 rfl ?_
    exact V_riM G hr eX11_trial_37 h
  · refine V_iload_n (i := 2) G eX11_trial_11 rfl rfl ?_
    refine V_sipush (n := -9999) (v := (-9999)) G eX11_trial_12 rfl ?_
    refine V_sipush (n := 9999) (v := (nI 9999)) G eX11_trial_15 rfl ?_
    obtain ⟨x2, h1, h⟩ := bdS h
    refine V_callIS (As := [.int a2, .int (-9999), .int (nI 9999)]) (st := []) G lkX11_127 (B_isWithin_ok (μ := μ) h1) (by decide) rfl rfl (Nat.le_of_ble_eq_true rfl) eX11_trial_18 ?_
    refine V_if_eq G eX11_trial_21 h (fun h => ?_) (fun h => ?_)
    · refine V_iconst (n := -1) (v := (-1)) G eX11_trial_36 rfl ?_
      exact V_riM G hr eX11_trial_37 h
    · refine V_aload_n (i := 0) G eX11_trial_24 rfl rfl ?_
      refine V_get (v := .ref (wad w 4 0)) G fgX11_35 rfl eX11_trial_25 ?_
      refine V_get (v := .int (mI μ 507 0 0)) G fgX11_220 rfl eX11_trial_28 ?_
      refine V_bipush (n := 20) (v := (nI 20)) G eX11_trial_31 rfl ?_
      refine V_icmp_lt G eX11_trial_33 h (fun h => ?_) (fun h => ?_)
      · refine V_aload_n (i := 0) G eX11_trial_38 rfl rfl ?_
        refine V_get (v := .ref (wad w 4 0)) G fgX11_35 rfl eX11_trial_39 ?_
        refine V_iload_n (i := 1) G eX11_trial_42 rfl rfl ?_
        refine V_iload_n (i := 2) G eX11_trial_43 rfl rfl ?_
        refine V_iload_n (i := 3) G eX11_trial_44 rfl rfl ?_
        obtain ⟨μ3, h1, h⟩ := bdS h
        refine V_callV (As := [.int a1, .int a2, .int a3]) (st := []) G lkX11_223 (Laws_tellTrial_ok h1) (by decide) rfl rfl (Nat.le_of_ble_eq_true rfl) eX11_trial_45 ?_
        refine V_aload_n (i := 0) G eX11_trial_48 rfl rfl ?_
        refine V_get (v := .ref (wad w 4 0)) G fgX11_35 rfl eX11_trial_49 ?_
        refine V_get (v := .int (mI μ3 507 0 0)) G fgX11_220 rfl eX11_trial_52 ?_
        exact V_riM G hr eX11_trial_55 h
      · refine V_iconst (n := -1) (v := (-1)) G eX11_trial_36 rfl ?_
        exact V_riM G hr eX11_trial_37 h
theorem B_trial_ok {l : Launch} {w : Wld} {a1 : Int32} {a2 : Int32} {a3 : Int32} {μ : Mem} {r : Int32} {μ' : Mem} (h : B_trial a1 a2 a3 μ = some (r, μ')) : CtI l w yX11_trial cX11_trial 4 .int 3 [.ref (wad w 11 0), .int a1, .int a2, .int a3] μ r μ' :=
  Ct_of (own := "PotBook") [some (.ref (wad w 11 0)), some (.int a1), some (.int a2), some (.int a3)] (by decide +kernel) rfl rfl (Nat.le_of_ble_eq_true rfl) fun p e s m args below meth c G hr => B_trial_run G hr h
set_option maxRecDepth 100000 in
set_option maxHeartbeats 4000000 in
theorem Laws_verdict_run {p : Program} {l : Launch} {e : Env} {R : Room} {s : State} {m : MethodId} {args : Array Value} {below : List Frame} {meth : Method} {c : Code} {w : Wld} (G : Cxt p R s m args meth c w cX4_verdict 5 "PotBook$Laws" 1 0 0) (hr : meth.sig.returnType = some .int) {a1 : Int32} {a2 : Int32} {μ : Mem} {r : Int32} (h : Laws_verdict a1 a2 μ = some r) : Vj p l e R s m args below meth c w 5 0 0 (MQ below (QI w r μ) args s 0 0 w.2.2.2) 0 [some (.ref (wad w 4 0)), some (.int a1), some (.int a2), none, none] [] μ := by
  unfold Laws_verdict at h
  refine V_iload_n (i := 2) G eX4_verdict_0 rfl rfl ?_
  refine V_aload_n (i := 0) G eX4_verdict_1 rfl rfl ?_
  refine V_get (v := .ref (wad w 505 0)) G fgX4_23 rfl eX4_verdict_2 ?_
  refine V_iload_n (i := 1) G eX4_verdict_5 rfl rfl ?_
  refine V_iald G al_505 (by decide) eX4_verdict_6 h (fun x1 h => ?_)
  obtain ⟨x2, hj, h⟩ := bdS h
  have J : Vj p l e R s m args below meth c w 5 0 0 (MQ below (QI w r μ) args s 0 0 w.2.2.2) 15 [some (.ref (wad w 4 0)), some (.int a1), some (.int a2), none, none] [.int x2] μ := by
    clear hj
    refine V_istoreA_n (i := 3) (L' := [some (.ref (wad w 4 0)), some (.int a1), some (.int a2), some (.int x2), none]) G rfl eX4_verdict_15 (by decide) rfl rfl ?_
    refine V_iload_n (i := 2) G eX4_verdict_16 rfl rfl ?_
    refine V_aload_n (i := 0) G eX4_verdict_17 rfl rfl ?_
    refine V_get (v := .ref (wad w 506 0)) G fgX4_26 rfl eX4_verdict_18 ?_
    refine V_iload_n (i := 1) G eX4_verdict_21 rfl rfl ?_
    refine V_iald G al_506 (by decide) eX4_verdict_22 h (fun x3 h => ?_)
    obtain ⟨x4, hj, h⟩ := bdS h
    have J : Vj p l e R s m args below meth c w 5 0 0 (MQ below (QI w r μ) args s 0 0 w.2.2.2) 31 [none, none, none, some (.int x2), none] [.int x4] μ := by
      clear hj
      refine V_istoreA (i := 4) (L' := [none, none, none, some (.int x2), some (.int x4)]) G eX4_verdict_31 (by decide) rfl rfl ?_
      refine V_iload_n (i := 3) G eX4_verdict_33 rfl rfl ?_
      refine V_iload G eX4_verdict_34 rfl ?_
      refine V_icmp_ne G eX4_verdict_36 h (fun h => ?_) (fun h => ?_)
      · refine V_iload_n (i := 3) G eX4_verdict_41 rfl rfl ?_
        refine V_if_eq G eX4_verdict_42 h (fun h => ?_) (fun h => ?_)
        · refine V_iconst (n := 0) (v := (nI 0)) G eX4_verdict_49 rfl ?_
          exact V_ri G hr eX4_verdict_50 h
        · refine V_iconst (n := 1) (v := (nI 1)) G eX4_verdict_45 rfl ?_
          refine V_goto G eX4_verdict_46 ?_
          exact V_ri G hr eX4_verdict_50 h
      · refine V_iconst (n := -1) (v := (-1)) G eX4_verdict_39 rfl ?_
        exact V_ri G hr eX4_verdict_40 h
    replace h := hj
    clear hj
    refine V_icmp_gt G eX4_verdict_23 h (fun h => ?_) (fun h => ?_)
    · refine V_iconst (n := 0) (v := (nI 0)) G eX4_verdict_30 rfl ?_
      cases h; exact V_sub (lS_n (lS_n (lS_n (lS_s (lS_n lS_0))))) J
    · refine V_iconst (n := 1) (v := (nI 1)) G eX4_verdict_26 rfl ?_
      refine V_goto G eX4_verdict_27 ?_
      cases h; exact V_sub (lS_n (lS_n (lS_n (lS_s (lS_n lS_0))))) J
  replace h := hj
  clear hj
  refine V_icmp_lt G eX4_verdict_7 h (fun h => ?_) (fun h => ?_)
  · refine V_iconst (n := 0) (v := (nI 0)) G eX4_verdict_14 rfl ?_
    cases h; exact J
  · refine V_iconst (n := 1) (v := (nI 1)) G eX4_verdict_10 rfl ?_
    refine V_goto G eX4_verdict_11 ?_
    cases h; exact J
theorem Laws_verdict_ok {l : Launch} {w : Wld} {a1 : Int32} {a2 : Int32} {μ : Mem} {r : Int32} (h : Laws_verdict a1 a2 μ = some r) : CtI l w yX4_verdict cX4_verdict 5 .int 1 [.ref (wad w 4 0), .int a1, .int a2] μ r μ :=
  Ct_of (own := "PotBook$Laws") [some (.ref (wad w 4 0)), some (.int a1), some (.int a2), none, none] (by decide +kernel) rfl rfl (Nat.le_of_ble_eq_true rfl) fun p e s m args below meth c G hr => Laws_verdict_run G hr h
set_option maxRecDepth 100000 in
set_option maxHeartbeats 4000000 in
theorem B_stands_run {p : Program} {l : Launch} {e : Env} {R : Room} {s : State} {m : MethodId} {args : Array Value} {below : List Frame} {meth : Method} {c : Code} {w : Wld} (G : Cxt p R s m args meth c w cX11_stands 4 "PotBook" 7 0 0) (hr : meth.sig.returnType = some .int) {a1 : Int32} {a2 : Int32} {a3 : Int32} {μ : Mem} {r : Int32} {μ' : Mem} (h : B_stands a1 a2 a3 μ = some (r, μ')) : Vj p l e R s m args below meth c w 4 0 0 (MQ below (QI w r μ') args s 0 0 w.2.2.2) 0 [some (.ref (wad w 11 0)), some (.int a1), some (.int a2), some (.int a3)] [] μ := by
  unfold B_stands at h
  refine V_aload_n (i := 0) G eX11_stands_0 rfl rfl ?_
  refine V_get (v := .ref (wad w 4 0)) G fgX11_35 rfl eX11_stands_1 ?_
  refine V_iload_n (i := 3) G eX11_stands_4 rfl rfl ?_
  obtain ⟨x1, h1, h⟩ := bdS h
  refine V_callI (As := [.int a3]) (st := []) G lkX11_180 (Laws_has_ok h1) (by decide) rfl rfl (Nat.le_of_ble_eq_true rfl) eX11_stands_5 ?_
  refine V_if_eq G eX11_stands_8 h (fun h => ?_) (fun h => ?_)
  · refine V_iconst (n := -1) (v := (-1)) G eX11_stands_20 rfl ?_
    exact V_riM G hr eX11_stands_21 h
  · refine V_aload_n (i := 0) G eX11_stands_11 rfl rfl ?_
    refine V_iload_n (i := 1) G eX11_stands_12 rfl rfl ?_
    refine V_iload_n (i := 2) G eX11_stands_13 rfl rfl ?_
    obtain ⟨⟨x2, μ3⟩, h1, h⟩ := bdS h
    refine V_callI (As := [.int a1, .int a2]) (st := []) G lkX11_190 (B_shows_ok h1) (by decide) rfl rfl (Nat.le_of_ble_eq_true rfl) eX11_stands_14 ?_
    refine V_if_ne G eX11_stands_17 h (fun h => ?_) (fun h => ?_)
    · refine V_aload_n (i := 0) G eX11_stands_22 rfl rfl ?_
      refine V_get (v := .ref (wad w 4 0)) G fgX11_35 rfl eX11_stands_23 ?_
      refine V_iload_n (i := 3) G eX11_stands_26 rfl rfl ?_
      refine V_aload_n (i := 0) G eX11_stands_27 rfl rfl ?_
      refine V_get (v := .ref (wad w 4 0)) G fgX11_35 rfl eX11_stands_28 ?_
      refine V_iload_n (i := 3) G eX11_stands_31 rfl rfl ?_
      refine V_aload_n (i := 0) G eX11_stands_32 rfl rfl ?_
      refine V_get (v := .ref (wad w 8 0)) G fgX11_53 rfl eX11_stands_33 ?_
      refine V_get (v := .ref (wad w 918 0)) G fgX11_206 rfl eX11_stands_36 ?_
      obtain ⟨⟨x4, μ5⟩, h1, h⟩ := bdS h
      refine V_callI (As := [.int a3, .ref (wad w 918 0)]) (st := [.int a3, .ref (wad w 4 0)]) G lkX11_209 (Laws_valueOf_ok h1) (by decide) rfl rfl (Nat.le_of_ble_eq_true rfl) eX11_stands_39 ?_
      obtain ⟨x6, h1, h⟩ := bdS h
      refine V_callI (As := [.int a3, .int x4]) (st := []) G lkX11_227 (Laws_verdict_ok h1) (by decide) rfl rfl (Nat.le_of_ble_eq_true rfl) eX11_stands_42 ?_
      exact V_riM G hr eX11_stands_45 h
    · refine V_iconst (n := -1) (v := (-1)) G eX11_stands_20 rfl ?_
      exact V_riM G hr eX11_stands_21 h
theorem B_stands_ok {l : Launch} {w : Wld} {a1 : Int32} {a2 : Int32} {a3 : Int32} {μ : Mem} {r : Int32} {μ' : Mem} (h : B_stands a1 a2 a3 μ = some (r, μ')) : CtI l w yX11_stands cX11_stands 4 .int 7 [.ref (wad w 11 0), .int a1, .int a2, .int a3] μ r μ' :=
  Ct_of (own := "PotBook") [some (.ref (wad w 11 0)), some (.int a1), some (.int a2), some (.int a3)] (by decide +kernel) rfl rfl (Nat.le_of_ble_eq_true rfl) fun p e s m args below meth c G hr => B_stands_run G hr h
set_option maxRecDepth 100000 in
set_option maxHeartbeats 4000000 in
theorem Taster_judged_l1_ok {p : Program} {l : Launch} {e : Env} {R : Room} {s : State} {m : MethodId} {args : Array Value} {below : List Frame} {meth : Method} {c : Code} {w : Wld} {Q : State → Prop} (G : Cxt p R s m args meth c w cX10_judged 5 "PotBook$Taster" 4 0 0) {v1 : Int32} {v2 : Int32} {o1 : Int32} {μo : Mem} : ∀ {n : Nat} {v3 : Int32} {v4 : Int32} {μ : Mem}, Taster_judged_l1 v1 v2 n v3 v4 μ = some (o1, μo) → Vj p l e R s m args below meth c w 5 0 0 Q 62 [none, none, none, some (.int o1), none] [] μo → Vj p l e R s m args below meth c w 5 0 0 Q 5 [some (.ref (wad w 10 0)), some (.int v1), some (.int v2), some (.int v3), some (.int v4)] [] μ := by
  intro n
  induction n with
  | zero => intro v3 v4 μ h K; exact noS h
  | succ n ih =>
    intro v3 v4 μ h K
    replace h : Taster_judged_l1b v1 v2 (Taster_judged_l1 v1 v2 n) v3 v4 μ = some (o1, μo) := h
    unfold Taster_judged_l1b at h
    refine V_iload G eX10_judged_5 rfl ?_
    refine V_aload_n (i := 0) G eX10_judged_7 rfl rfl ?_
    refine V_get (v := .ref (wad w 8 0)) G fgX10_36 rfl eX10_judged_8 ?_
    obtain ⟨x1, h1, h⟩ := bdS h
    refine V_callI (As := []) (st := [.int v4]) G lkX10_46 (Pot_shownCount_ok h1) (by decide) rfl rfl (Nat.le_of_ble_eq_true rfl) eX10_judged_11 ?_
    refine V_icmp_ge G eX10_judged_14 h (fun h => ?_) (fun h => ?_)
    · cases h; exact V_sub (lS_n (lS_n (lS_n (lS_s (lS_n lS_0))))) K
    · refine V_aload_n (i := 0) G eX10_judged_17 rfl rfl ?_
      refine V_get (v := .ref (wad w 8 0)) G fgX10_36 rfl eX10_judged_18 ?_
      refine V_iload G eX10_judged_21 rfl ?_
      obtain ⟨μ2, h1, h⟩ := bdS h
      refine V_callV (As := [.int v4]) (st := []) G lkX10_74 (Pot_show_ok h1) (by decide) rfl rfl (Nat.le_of_ble_eq_true rfl) eX10_judged_23 ?_
      refine V_aload_n (i := 0) G eX10_judged_26 rfl rfl ?_
      refine V_get (v := .ref (wad w 4 0)) G fgX10_32 rfl eX10_judged_27 ?_
      refine V_iload_n (i := 1) G eX10_judged_30 rfl rfl ?_
      refine V_aload_n (i := 0) G eX10_judged_31 rfl rfl ?_
      refine V_get (v := .ref (wad w 4 0)) G fgX10_32 rfl eX10_judged_32 ?_
      refine V_iload_n (i := 1) G eX10_judged_35 rfl rfl ?_
      refine V_aload_n (i := 0) G eX10_judged_36 rfl rfl ?_
      refine V_get (v := .ref (wad w 8 0)) G fgX10_36 rfl eX10_judged_37 ?_
      refine V_get (v := .ref (wad w 918 0)) G fgX10_78 rfl eX10_judged_40 ?_
      obtain ⟨⟨x3, μ4⟩, h1, h⟩ := bdS h
      refine V_callI (As := [.int v1, .ref (wad w 918 0)]) (st := [.int v1, .ref (wad w 4 0)]) G lkX10_81 (Laws_valueOf_ok h1) (by decide) rfl rfl (Nat.le_of_ble_eq_true rfl) eX10_judged_43 ?_
      obtain ⟨x5, h1, h⟩ := bdS h
      refine V_callI (As := [.int v1, .int x3]) (st := []) G lkX10_95 (Laws_verdict_ok h1) (by decide) rfl rfl (Nat.le_of_ble_eq_true rfl) eX10_judged_46 ?_
      refine V_iload_n (i := 2) G eX10_judged_49 rfl rfl ?_
      obtain ⟨x7, hj, h⟩ := bdS h
      have J : Vj p l e R s m args below meth c w 5 0 0 Q 56 [some (.ref (wad w 10 0)), some (.int v1), some (.int v2), some (.int x7), some (.int v4)] [] μ4 := by
        clear hj
        refine V_iinc (z := (nI 1)) (L' := (fun x8 => [some (.ref (wad w 10 0)), some (.int v1), some (.int v2), some (.int x7), some (.int x8)])) G eX10_judged_56 rfl rfl (by decide) rfl (fun _ => rfl) h (fun x8 h => ?_)
        refine V_goto G eX10_judged_59 ?_
        exact (ih h K)
      replace h := hj
      clear hj
      refine V_icmp_ne G eX10_judged_50 h (fun h => ?_) (fun h => ?_)
      · cases h; exact J
      · refine V_iinc (z := (nI 1)) (L' := (fun x6 => [some (.ref (wad w 10 0)), some (.int v1), some (.int v2), some (.int x6), some (.int v4)])) G eX10_judged_53 rfl rfl (by decide) rfl (fun _ => rfl) h (fun x6 h => ?_)
        cases h; exact J
set_option maxRecDepth 100000 in
set_option maxHeartbeats 4000000 in
theorem Taster_judged_run {p : Program} {l : Launch} {e : Env} {R : Room} {s : State} {m : MethodId} {args : Array Value} {below : List Frame} {meth : Method} {c : Code} {w : Wld} (G : Cxt p R s m args meth c w cX10_judged 5 "PotBook$Taster" 4 0 0) (hr : meth.sig.returnType = some .int) {a1 : Int32} {a2 : Int32} {μ : Mem} {r : Int32} {μ' : Mem} (h : Taster_judged a1 a2 μ = some (r, μ')) : Vj p l e R s m args below meth c w 5 0 0 (MQ below (QI w r μ') args s 0 0 w.2.2.2) 0 [some (.ref (wad w 10 0)), some (.int a1), some (.int a2), none, none] [] μ := by
  unfold Taster_judged at h
  refine V_iconst (n := 0) (v := (nI 0)) G eX10_judged_0 rfl ?_
  refine V_istoreA_n (i := 3) (L' := [some (.ref (wad w 10 0)), some (.int a1), some (.int a2), some (.int (nI 0)), none]) G rfl eX10_judged_1 (by decide) rfl rfl ?_
  refine V_iconst (n := 0) (v := (nI 0)) G eX10_judged_2 rfl ?_
  refine V_istoreA (i := 4) (L' := [some (.ref (wad w 10 0)), some (.int a1), some (.int a2), some (.int (nI 0)), some (.int (nI 0))]) G eX10_judged_3 (by decide) rfl rfl ?_
  obtain ⟨⟨x1, μ2⟩, h1, h⟩ := bdS h
  refine Taster_judged_l1_ok G h1 ?_
  refine V_iload_n (i := 3) G eX10_judged_62 rfl rfl ?_
  exact V_riM G hr eX10_judged_63 h
theorem Taster_judged_ok {l : Launch} {w : Wld} {a1 : Int32} {a2 : Int32} {μ : Mem} {r : Int32} {μ' : Mem} (h : Taster_judged a1 a2 μ = some (r, μ')) : CtI l w yX10_judged cX10_judged 5 .int 4 [.ref (wad w 10 0), .int a1, .int a2] μ r μ' :=
  Ct_of (own := "PotBook$Taster") [some (.ref (wad w 10 0)), some (.int a1), some (.int a2), none, none] (by decide +kernel) rfl rfl (Nat.le_of_ble_eq_true rfl) fun p e s m args below meth c G hr => Taster_judged_run G hr h
set_option maxRecDepth 100000 in
set_option maxHeartbeats 4000000 in
theorem B_stand_run {p : Program} {l : Launch} {e : Env} {R : Room} {s : State} {m : MethodId} {args : Array Value} {below : List Frame} {meth : Method} {c : Code} {w : Wld} (G : Cxt p R s m args meth c w cX11_stand 4 "PotBook" 6 0 0) (hr : meth.sig.returnType = some .int) {a1 : Int32} {a2 : Int32} {a3 : Int32} {μ : Mem} {r : Int32} {μ' : Mem} (h : B_stand a1 a2 a3 μ = some (r, μ')) : Vj p l e R s m args below meth c w 4 0 0 (MQ below (QI w r μ') args s 0 0 w.2.2.2) 0 [some (.ref (wad w 11 0)), some (.int a1), some (.int a2), some (.int a3)] [] μ := by
  unfold B_stand at h
  refine V_aload_n (i := 0) G eX11_stand_0 rfl rfl ?_
  refine V_get (v := .ref (wad w 4 0)) G fgX11_35 rfl eX11_stand_1 ?_
  refine V_iload_n (i := 2) G eX11_stand_4 rfl rfl ?_
  obtain ⟨x1, h1, h⟩ := bdS h
  refine V_callI (As := [.int a2]) (st := []) G lkX11_180 (Laws_has_ok h1) (by decide) rfl rfl (Nat.le_of_ble_eq_true rfl) eX11_stand_5 ?_
  refine V_if_eq G eX11_stand_8 h (fun h => ?_) (fun h => ?_)
  · refine V_iconst (n := -1) (v := (-1)) G eX11_stand_28 rfl ?_
    exact V_riM G hr eX11_stand_29 h
  · refine V_iload_n (i := 3) G eX11_stand_11 rfl rfl ?_
    refine V_iconst (n := 0) (v := (nI 0)) G eX11_stand_12 rfl ?_
    refine V_iconst (n := 1) (v := (nI 1)) G eX11_stand_13 rfl ?_
    obtain ⟨x2, h1, h⟩ := bdS h
    refine V_callIS (As := [.int a3, .int (nI 0), .int (nI 1)]) (st := []) G lkX11_127 (B_isWithin_ok (μ := μ) h1) (by decide) rfl rfl (Nat.le_of_ble_eq_true rfl) eX11_stand_14 ?_
    refine V_if_eq G eX11_stand_17 h (fun h => ?_) (fun h => ?_)
    · refine V_iconst (n := -1) (v := (-1)) G eX11_stand_28 rfl ?_
      exact V_riM G hr eX11_stand_29 h
    · refine V_aload_n (i := 0) G eX11_stand_20 rfl rfl ?_
      refine V_iload_n (i := 1) G eX11_stand_21 rfl rfl ?_
      obtain ⟨⟨x3, μ4⟩, h1, h⟩ := bdS h
      refine V_callI (As := [.int a1]) (st := []) G lkX11_187 (B_laid_ok h1) (by decide) rfl rfl (Nat.le_of_ble_eq_true rfl) eX11_stand_22 ?_
      refine V_if_ge G eX11_stand_25 h (fun h => ?_) (fun h => ?_)
      · refine V_aload_n (i := 0) G eX11_stand_30 rfl rfl ?_
        refine V_get (v := .ref (wad w 10 0)) G fgX11_62 rfl eX11_stand_31 ?_
        refine V_iload_n (i := 2) G eX11_stand_34 rfl rfl ?_
        refine V_iload_n (i := 3) G eX11_stand_35 rfl rfl ?_
        obtain ⟨⟨x5, μ6⟩, h1, h⟩ := bdS h
        refine V_callI (As := [.int a2, .int a3]) (st := []) G lkX11_230 (Taster_judged_ok h1) (by decide) rfl rfl (Nat.le_of_ble_eq_true rfl) eX11_stand_36 ?_
        exact V_riM G hr eX11_stand_39 h
      · refine V_iconst (n := -1) (v := (-1)) G eX11_stand_28 rfl ?_
        exact V_riM G hr eX11_stand_29 h
theorem B_stand_ok {l : Launch} {w : Wld} {a1 : Int32} {a2 : Int32} {a3 : Int32} {μ : Mem} {r : Int32} {μ' : Mem} (h : B_stand a1 a2 a3 μ = some (r, μ')) : CtI l w yX11_stand cX11_stand 4 .int 6 [.ref (wad w 11 0), .int a1, .int a2, .int a3] μ r μ' :=
  Ct_of (own := "PotBook") [some (.ref (wad w 11 0)), some (.int a1), some (.int a2), some (.int a3)] (by decide +kernel) rfl rfl (Nat.le_of_ble_eq_true rfl) fun p e s m args below meth c G hr => B_stand_run G hr h
