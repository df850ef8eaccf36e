set_option maxRecDepth 100000 in
set_option maxHeartbeats 4000000 in
theorem M_count_run {p : Program} {l : Launch} {e : Env} {R : Room} {s : State} {m : MethodId} {args : Array Value} {below : List Frame} {meth : Method} {c : Code} {w : Wld} (G : Cxt p R s m args meth c w cX12_count 2 "PotBookModel" 1 0 0) (hr : meth.sig.returnType = some .int) {a1 : Int32} {μ : Mem} {r : Int32} (h : M_count a1 μ = some r) : Vj p l e R s m args below meth c w 2 0 0 (MQ below (QI w r μ) args s 0 0 w.2.2.2) 0 [some (.ref (wad w 12 0)), some (.int a1)] [] μ := by
  unfold M_count at h
  refine V_iload_n (i := 1) G eX12_count_0 rfl rfl ?_
  by_cases c0 : a1 = (nI 0)
  · rw [if_pos c0] at h
    refine V_tswIn (v := (nI 0)) (off := 51) (tgt := 52) G eX12_count_1 c0 (by decide) (by decide) rfl rfl ?_
    refine V_aload_n (i := 0) G eX12_count_52 rfl rfl ?_
    refine V_get (v := .int (mI μ 1322 0 0)) G fgX12_299 rfl eX12_count_53 ?_
    exact V_ri G hr eX12_count_56 h
  · rw [if_neg c0] at h
    by_cases c1 : a1 = (nI 1)
    · rw [if_pos c1] at h
      refine V_tswIn (v := (nI 1)) (off := 56) (tgt := 57) G eX12_count_1 c1 (by decide) (by decide) rfl rfl ?_
      refine V_aload_n (i := 0) G eX12_count_57 rfl rfl ?_
      refine V_get (v := .int (mI μ 1330 0 0)) G fgX12_302 rfl eX12_count_58 ?_
      exact V_ri G hr eX12_count_61 h
    · rw [if_neg c1] at h
      by_cases c2 : a1 = (nI 2)
      · rw [if_pos c2] at h
        refine V_tswIn (v := (nI 2)) (off := 61) (tgt := 62) G eX12_count_1 c2 (by decide) (by decide) rfl rfl ?_
        refine V_aload_n (i := 0) G eX12_count_62 rfl rfl ?_
        refine V_get (v := .int (mI μ 1314 0 0)) G fgX12_195 rfl eX12_count_63 ?_
        exact V_ri G hr eX12_count_66 h
      · rw [if_neg c2] at h
        by_cases c3 : a1 = (nI 3)
        · rw [if_pos c3] at h
          refine V_tswIn (v := (nI 3)) (off := 66) (tgt := 67) G eX12_count_1 c3 (by decide) (by decide) rfl rfl ?_
          refine V_aload_n (i := 0) G eX12_count_67 rfl rfl ?_
          refine V_get (v := .int (mI μ 1338 0 0)) G fgX12_346 rfl eX12_count_68 ?_
          exact V_ri G hr eX12_count_71 h
        · rw [if_neg c3] at h
          by_cases c4 : a1 = (nI 4)
          · rw [if_pos c4] at h
            refine V_tswIn (v := (nI 4)) (off := 71) (tgt := 72) G eX12_count_1 c4 (by decide) (by decide) rfl rfl ?_
            refine V_aload_n (i := 0) G eX12_count_72 rfl rfl ?_
            refine V_get (v := .int (mI μ 1348 0 0)) G fgX12_388 rfl eX12_count_73 ?_
            exact V_ri G hr eX12_count_76 h
          · rw [if_neg c4] at h
            by_cases c5 : a1 = (nI 5)
            · rw [if_pos c5] at h
              refine V_tswIn (v := (nI 5)) (off := 76) (tgt := 77) G eX12_count_1 c5 (by decide) (by decide) rfl rfl ?_
              refine V_aload_n (i := 0) G eX12_count_77 rfl rfl ?_
              refine V_get (v := .int (mI μ 1354 0 0)) G fgX12_394 rfl eX12_count_78 ?_
              exact V_ri G hr eX12_count_81 h
            · rw [if_neg c5] at h
              by_cases c6 : a1 = (nI 6)
              · rw [if_pos c6] at h
                refine V_tswIn (v := (nI 6)) (off := 81) (tgt := 82) G eX12_count_1 c6 (by decide) (by decide) rfl rfl ?_
                refine V_aload_n (i := 0) G eX12_count_82 rfl rfl ?_
                refine V_get (v := .int (mI μ 1358 0 0)) G fgX12_413 rfl eX12_count_83 ?_
                exact V_ri G hr eX12_count_86 h
              · rw [if_neg c6] at h
                by_cases c7 : a1 = (nI 7)
                · rw [if_pos c7] at h
                  refine V_tswIn (v := (nI 7)) (off := 86) (tgt := 87) G eX12_count_1 c7 (by decide) (by decide) rfl rfl ?_
                  refine V_aload_n (i := 0) G eX12_count_87 rfl rfl ?_
                  refine V_get (v := .int (mI μ 1302 0 0)) G fgX12_182 rfl eX12_count_88 ?_
                  exact V_ri G hr eX12_count_91 h
                · rw [if_neg c7] at h
                  by_cases c8 : a1 = (nI 8)
                  · rw [if_pos c8] at h
                    refine V_tswIn (v := (nI 8)) (off := 91) (tgt := 92) G eX12_count_1 c8 (by decide) (by decide) rfl rfl ?_
                    refine V_aload_n (i := 0) G eX12_count_92 rfl rfl ?_
                    refine V_get (v := .int (mI μ 1339 0 0)) G fgX12_98 rfl eX12_count_93 ?_
                    exact V_ri G hr eX12_count_96 h
                  · rw [if_neg c8] at h
                    refine V_tswOut G eX12_count_1 (fun k h1 h2 q => ?_) (tgt := 97) rfl ?_
                    · rcases (show k = 0 ∨ k = 1 ∨ k = 2 ∨ k = 3 ∨ k = 4 ∨ k = 5 ∨ k = 6 ∨ k = 7 ∨ k = 8 by omega) with rfl | rfl | rfl | rfl | rfl | rfl | rfl | rfl | rfl
                      · exact c0 q
                      · exact c1 q
                      · exact c2 q
                      · exact c3 q
                      · exact c4 q
                      · exact c5 q
                      · exact c6 q
                      · exact c7 q
                      · exact c8 q
                    · refine V_iconst (n := -1) (v := (-1)) G eX12_count_97 rfl ?_
                      exact V_ri G hr eX12_count_98 h
theorem M_count_ok {l : Launch} {w : Wld} {a1 : Int32} {μ : Mem} {r : Int32} (h : M_count a1 μ = some r) : CtI l w yX12_count cX12_count 2 .int 1 [.ref (wad w 12 0), .int a1] μ r μ :=
  Ct_of (own := "PotBookModel") [some (.ref (wad w 12 0)), some (.int a1)] (by decide +kernel) rfl rfl (Nat.le_of_ble_eq_true rfl) fun p e s m args below meth c G hr => M_count_run G hr h
