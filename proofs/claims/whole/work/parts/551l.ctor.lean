def X11_fs (h : Nat) : List Value := [.ref (h + 0), .ref (h + 2), .ref (h + 34), .ref (h + 130), .ref (h + 143), .ref (h + 144), .ref (h + 205), .ref (h + 210), .ref (h + 249), .ref (h + 290), .ref (h + 304)]
def X11_ds (w : Wld) (h : Nat) : List va_E := [.inr (9, X9_fs (h + 1))] ++ (X9_ds w (h + 1) ++ ([.inr (7, X7_fs (h + 3))] ++ (X7_ds w (h + 3) ++ ([.inr (6, X6_fs (h + 35) (h + 0) (h + 2))] ++ (X6_ds w (h + 35) ++ ([.inr (4, X4_fs (h + 131))] ++ (X4_ds w (h + 131) ++ ([.inr (3, X3_fs (h + 144) (h + 0) (h + 130)), .inr (8, X8_fs (h + 145) (h + 34) (h + 2) (h + 130))] ++ (X8_ds w (h + 145) ++ ([.inr (10, X10_fs (h + 206) (h + 34) (h + 2) (h + 130) (h + 144))] ++ (X10_ds w (h + 206) ++ ([.inr (2, X2_fs (h + 211) (h + 34))] ++ (X2_ds w (h + 211) ++ ([.inr (1, X1_fs (h + 250))] ++ (X1_ds w (h + 250) ++ ([.inr (0, X0_fs (h + 291) (h + 34) (h + 2) (h + 144))] ++ (X0_ds w (h + 291) ++ ([.inr (5, X5_fs (h + 305) (h + 34) (h + 144) (h + 290))] ++ (X5_ds w (h + 305))))))))))))))))))))
set_option maxRecDepth 100000 in
set_option maxHeartbeats 100000000 in
theorem X11_c {l : Launch} {w : Wld} {o sz : Nat} : CtC l w yX11_init cX11_init 1 2 [.ref o] o 11 sz [.null, .null, .null, .null, .null, .null, .null, .null, .null, .null, .null] (X11_fs sz) (X11_ds w) 324 10754 := by
  refine CtC_of (own := "PotBook") [some (.ref o)] (by decide +kernel) rfl rfl rfl (Nat.le_of_ble_eq_true rfl) ?_
  intro p e s m args below meth c hx hb hml hown hts K hsz ho hin hr hlk
  subst hsz
  have G0 : ∀ kc ns : Nat, kc ≤ 324 → ns ≤ 10754 → Cxg p (rmC 2 324 10754) s m args meth c cX11_init 1 "PotBook" kc ns := fun kc ns h1 h2 => ⟨hx, hb, hml, hown, hts, h1, h2⟩
  refine N_aload_n (i := 0) (G0 _ _ (by decide) (by decide)) eX11_init_0 rfl rfl ?_
  refine C_objInit (G0 _ _ (by decide) (by decide)) oiX11_1 (by decide) (Nat.le_of_ble_eq_true rfl) (by decide) eX11_init_1 ?_
  refine N_aload_n (i := 0) (G0 _ _ (by decide) (by decide)) eX11_init_4 rfl rfl ?_
  refine L_new (n' := 0) (ty := tyX9) (fs' := [.null, .int 0, .int 0, .int 0]) (G0 _ _ (by decide) (by decide)) K (by rfl) cf_9.1 cf_9.2.1 tyX9_ok df_9 nwX11_7 (by decide) (by decide) eX11_init_5 ?_
  refine N_dup (G0 _ _ (by decide) (by decide)) eX11_init_8 rfl ?_
  refine L_ctor (n' := 1) (As := []) (st := [.ref (s.heap.size + 0), .ref o]) (q := 0) (fs' := X9_fs (s.heap.size + 1)) (ds' := X9_ds w) (mc := 1) (ms := 120) (G0 _ _ (by decide) (by decide)) K (cOk_this ho) (by rfl) lcX11_9 (by rfl) X9_c (by decide) rfl rfl (Nat.le_of_ble_eq_true rfl) (by decide) eX11_init_9 rfl ?_
  refine L_putF (fs' := [.ref (s.heap.size + 0), .null, .null, .null, .null, .null, .null, .null, .null, .null, .null]) (G0 _ _ (by decide) (by decide)) K hin ho (by rfl) ffX11_10 rfl rfl (by exact Nat.le_of_ble_eq_true rfl) eX11_init_12 ?_
  refine N_aload_n (i := 0) (G0 _ _ (by decide) (by decide)) eX11_init_15 rfl rfl ?_
  refine L_new (n' := 2) (ty := tyX7) (fs' := [.null, .null, .null, .null, .null, .null, .null, .int 0, .int 0]) (G0 _ _ (by decide) (by decide)) K (by rfl) cf_7.1 cf_7.2.1 tyX7_ok df_7 nwX11_16 (by decide) (by decide) eX11_init_16 ?_
  refine N_dup (G0 _ _ (by decide) (by decide)) eX11_init_19 rfl ?_
  refine L_ctor (n' := 3) (As := []) (st := [.ref (s.heap.size + 2), .ref o]) (q := 2) (fs' := X7_fs (s.heap.size + 3)) (ds' := X7_ds w) (mc := 31) (ms := 228) (G0 _ _ (by decide) (by decide)) K (cOk_this ho) (by rfl) lcX11_18 (by rfl) X7_c (by decide) rfl rfl (Nat.le_of_ble_eq_true rfl) (by decide) eX11_init_20 rfl ?_
  refine L_putF (fs' := [.ref (s.heap.size + 0), .ref (s.heap.size + 2), .null, .null, .null, .null, .null, .null, .null, .null, .null]) (G0 _ _ (by decide) (by decide)) K hin ho (by rfl) ffX11_19 rfl rfl (by exact Nat.le_of_ble_eq_true rfl) eX11_init_23 ?_
  refine N_aload_n (i := 0) (G0 _ _ (by decide) (by decide)) eX11_init_26 rfl rfl ?_
  refine L_new (n' := 34) (ty := tyX6) (fs' := [.null, .null, .null, .null, .null, .null, .null, .null, .null, .null, .null, .null, .int 0]) (G0 _ _ (by decide) (by decide)) K (by rfl) cf_6.1 cf_6.2.1 tyX6_ok df_6 nwX11_23 (by decide) (by decide) eX11_init_27 ?_
  refine N_dup (G0 _ _ (by decide) (by decide)) eX11_init_30 rfl ?_
  refine N_aload_n (i := 0) (G0 _ _ (by decide) (by decide)) eX11_init_31 rfl rfl ?_
  refine C_get (v := .ref (s.heap.size + 0)) (G0 _ _ (by decide) (by decide)) K ggX11_10 (by rfl) eX11_init_32 ?_
  refine N_aload_n (i := 0) (G0 _ _ (by decide) (by decide)) eX11_init_35 rfl rfl ?_
  refine C_get (v := .ref (s.heap.size + 2)) (G0 _ _ (by decide) (by decide)) K ggX11_19 (by rfl) eX11_init_36 ?_
  refine L_ctor (n' := 35) (As := [.ref (s.heap.size + 0), .ref (s.heap.size + 2)]) (st := [.ref (s.heap.size + 34), .ref o]) (q := 34) (fs' := X6_fs (s.heap.size + 35) (s.heap.size + 0) (s.heap.size + 2)) (ds' := X6_ds w) (mc := 95) (ms := 1870) (G0 _ _ (by decide) (by decide)) K (cOk_this ho) (by rfl) lcX11_25 (by rfl) X6_c (by decide) rfl rfl (Nat.le_of_ble_eq_true rfl) (by decide) eX11_init_39 rfl ?_
  refine L_putF (fs' := [.ref (s.heap.size + 0), .ref (s.heap.size + 2), .ref (s.heap.size + 34), .null, .null, .null, .null, .null, .null, .null, .null]) (G0 _ _ (by decide) (by decide)) K hin ho (by rfl) ffX11_28 rfl rfl (by exact Nat.le_of_ble_eq_true rfl) eX11_init_42 ?_
  refine N_aload_n (i := 0) (G0 _ _ (by decide) (by decide)) eX11_init_45 rfl rfl ?_
  refine L_new (n' := 130) (ty := tyX4) (fs' := [.null, .null, .null, .int 0, .int 0, .null, .null, .int 0]) (G0 _ _ (by decide) (by decide)) K (by rfl) cf_4.1 cf_4.2.1 tyX4_ok df_4 nwX11_32 (by decide) (by decide) eX11_init_46 ?_
  refine N_dup (G0 _ _ (by decide) (by decide)) eX11_init_49 rfl ?_
  refine L_ctor (n' := 131) (As := []) (st := [.ref (s.heap.size + 130), .ref o]) (q := 130) (fs' := X4_fs (s.heap.size + 131)) (ds' := X4_ds w) (mc := 12) (ms := 930) (G0 _ _ (by decide) (by decide)) K (cOk_this ho) (by rfl) lcX11_34 (by rfl) X4_c (by decide) rfl rfl (Nat.le_of_ble_eq_true rfl) (by decide) eX11_init_50 rfl ?_
  refine L_putF (fs' := [.ref (s.heap.size + 0), .ref (s.heap.size + 2), .ref (s.heap.size + 34), .ref (s.heap.size + 130), .null, .null, .null, .null, .null, .null, .null]) (G0 _ _ (by decide) (by decide)) K hin ho (by rfl) ffX11_35 rfl rfl (by exact Nat.le_of_ble_eq_true rfl) eX11_init_53 ?_
  refine N_aload_n (i := 0) (G0 _ _ (by decide) (by decide)) eX11_init_56 rfl rfl ?_
  refine L_new (n' := 143) (ty := tyX3) (fs' := [.null, .null]) (G0 _ _ (by decide) (by decide)) K (by rfl) cf_3.1 cf_3.2.1 tyX3_ok df_3 nwX11_39 (by decide) (by decide) eX11_init_57 ?_
  refine N_dup (G0 _ _ (by decide) (by decide)) eX11_init_60 rfl ?_
  refine N_aload_n (i := 0) (G0 _ _ (by decide) (by decide)) eX11_init_61 rfl rfl ?_
  refine C_get (v := .ref (s.heap.size + 0)) (G0 _ _ (by decide) (by decide)) K ggX11_10 (by rfl) eX11_init_62 ?_
  refine N_aload_n (i := 0) (G0 _ _ (by decide) (by decide)) eX11_init_65 rfl rfl ?_
  refine C_get (v := .ref (s.heap.size + 130)) (G0 _ _ (by decide) (by decide)) K ggX11_35 (by rfl) eX11_init_66 ?_
  refine L_ctor (n' := 144) (As := [.ref (s.heap.size + 0), .ref (s.heap.size + 130)]) (st := [.ref (s.heap.size + 143), .ref o]) (q := 143) (fs' := X3_fs (s.heap.size + 144) (s.heap.size + 0) (s.heap.size + 130)) (ds' := X3_ds w) (mc := 0) (ms := 0) (G0 _ _ (by decide) (by decide)) K (cOk_this ho) (by rfl) lcX11_41 (by rfl) X3_c (by decide) rfl rfl (Nat.le_of_ble_eq_true rfl) (by decide) eX11_init_69 rfl ?_
  refine L_putF (fs' := [.ref (s.heap.size + 0), .ref (s.heap.size + 2), .ref (s.heap.size + 34), .ref (s.heap.size + 130), .ref (s.heap.size + 143), .null, .null, .null, .null, .null, .null]) (G0 _ _ (by decide) (by decide)) K hin ho (by rfl) ffX11_44 rfl rfl (by exact Nat.le_of_ble_eq_true rfl) eX11_init_72 ?_
  refine N_aload_n (i := 0) (G0 _ _ (by decide) (by decide)) eX11_init_75 rfl rfl ?_
  refine L_new (n' := 144) (ty := tyX8) (fs' := [.null, .null, .null, .int 0, .int 0, .null, .null, .null, .int 0, .null, .null, .null, .int 0, .null, .null, .null, .null, .null, .null]) (G0 _ _ (by decide) (by decide)) K (by rfl) cf_8.1 cf_8.2.1 tyX8_ok df_8 nwX11_48 (by decide) (by decide) eX11_init_76 ?_
  refine N_dup (G0 _ _ (by decide) (by decide)) eX11_init_79 rfl ?_
  refine N_aload_n (i := 0) (G0 _ _ (by decide) (by decide)) eX11_init_80 rfl rfl ?_
  refine C_get (v := .ref (s.heap.size + 34)) (G0 _ _ (by decide) (by decide)) K ggX11_28 (by rfl) eX11_init_81 ?_
  refine N_aload_n (i := 0) (G0 _ _ (by decide) (by decide)) eX11_init_84 rfl rfl ?_
  refine C_get (v := .ref (s.heap.size + 2)) (G0 _ _ (by decide) (by decide)) K ggX11_19 (by rfl) eX11_init_85 ?_
  refine N_aload_n (i := 0) (G0 _ _ (by decide) (by decide)) eX11_init_88 rfl rfl ?_
  refine C_get (v := .ref (s.heap.size + 130)) (G0 _ _ (by decide) (by decide)) K ggX11_35 (by rfl) eX11_init_89 ?_
  refine L_ctor (n' := 145) (As := [.ref (s.heap.size + 34), .ref (s.heap.size + 2), .ref (s.heap.size + 130)]) (st := [.ref (s.heap.size + 144), .ref o]) (q := 144) (fs' := X8_fs (s.heap.size + 145) (s.heap.size + 34) (s.heap.size + 2) (s.heap.size + 130)) (ds' := X8_ds w) (mc := 60) (ms := 5457) (G0 _ _ (by decide) (by decide)) K (cOk_this ho) (by rfl) lcX11_50 (by rfl) X8_c (by decide) rfl rfl (Nat.le_of_ble_eq_true rfl) (by decide) eX11_init_92 rfl ?_
  refine L_putF (fs' := [.ref (s.heap.size + 0), .ref (s.heap.size + 2), .ref (s.heap.size + 34), .ref (s.heap.size + 130), .ref (s.heap.size + 143), .ref (s.heap.size + 144), .null, .null, .null, .null, .null]) (G0 _ _ (by decide) (by decide)) K hin ho (by rfl) ffX11_53 rfl rfl (by exact Nat.le_of_ble_eq_true rfl) eX11_init_95 ?_
  refine N_aload_n (i := 0) (G0 _ _ (by decide) (by decide)) eX11_init_98 rfl rfl ?_
  refine L_new (n' := 205) (ty := tyX10) (fs' := [.null, .null, .null, .null, .null, .null, .null, .null]) (G0 _ _ (by decide) (by decide)) K (by rfl) cf_10.1 cf_10.2.1 tyX10_ok df_10 nwX11_57 (by decide) (by decide) eX11_init_99 ?_
  refine N_dup (G0 _ _ (by decide) (by decide)) eX11_init_102 rfl ?_
  refine N_aload_n (i := 0) (G0 _ _ (by decide) (by decide)) eX11_init_103 rfl rfl ?_
  refine C_get (v := .ref (s.heap.size + 34)) (G0 _ _ (by decide) (by decide)) K ggX11_28 (by rfl) eX11_init_104 ?_
  refine N_aload_n (i := 0) (G0 _ _ (by decide) (by decide)) eX11_init_107 rfl rfl ?_
  refine C_get (v := .ref (s.heap.size + 2)) (G0 _ _ (by decide) (by decide)) K ggX11_19 (by rfl) eX11_init_108 ?_
  refine N_aload_n (i := 0) (G0 _ _ (by decide) (by decide)) eX11_init_111 rfl rfl ?_
  refine C_get (v := .ref (s.heap.size + 130)) (G0 _ _ (by decide) (by decide)) K ggX11_35 (by rfl) eX11_init_112 ?_
  refine N_aload_n (i := 0) (G0 _ _ (by decide) (by decide)) eX11_init_115 rfl rfl ?_
  refine C_get (v := .ref (s.heap.size + 144)) (G0 _ _ (by decide) (by decide)) K ggX11_53 (by rfl) eX11_init_116 ?_
  refine L_ctor (n' := 206) (As := [.ref (s.heap.size + 34), .ref (s.heap.size + 2), .ref (s.heap.size + 130), .ref (s.heap.size + 144)]) (st := [.ref (s.heap.size + 205), .ref o]) (q := 205) (fs' := X10_fs (s.heap.size + 206) (s.heap.size + 34) (s.heap.size + 2) (s.heap.size + 130) (s.heap.size + 144)) (ds' := X10_ds w) (mc := 4) (ms := 708) (G0 _ _ (by decide) (by decide)) K (cOk_this ho) (by rfl) lcX11_59 (by rfl) X10_c (by decide) rfl rfl (Nat.le_of_ble_eq_true rfl) (by decide) eX11_init_119 rfl ?_
  refine L_putF (fs' := [.ref (s.heap.size + 0), .ref (s.heap.size + 2), .ref (s.heap.size + 34), .ref (s.heap.size + 130), .ref (s.heap.size + 143), .ref (s.heap.size + 144), .ref (s.heap.size + 205), .null, .null, .null, .null]) (G0 _ _ (by decide) (by decide)) K hin ho (by rfl) ffX11_62 rfl rfl (by exact Nat.le_of_ble_eq_true rfl) eX11_init_122 ?_
  refine N_aload_n (i := 0) (G0 _ _ (by decide) (by decide)) eX11_init_125 rfl rfl ?_
  refine L_new (n' := 210) (ty := tyX2) (fs' := [.null, .null, .null, .null, .null, .null, .null]) (G0 _ _ (by decide) (by decide)) K (by rfl) cf_2.1 cf_2.2.1 tyX2_ok df_2 nwX11_66 (by decide) (by decide) eX11_init_126 ?_
  refine N_dup (G0 _ _ (by decide) (by decide)) eX11_init_129 rfl ?_
  refine N_aload_n (i := 0) (G0 _ _ (by decide) (by decide)) eX11_init_130 rfl rfl ?_
  refine C_get (v := .ref (s.heap.size + 34)) (G0 _ _ (by decide) (by decide)) K ggX11_28 (by rfl) eX11_init_131 ?_
  refine L_ctor (n' := 211) (As := [.ref (s.heap.size + 34)]) (st := [.ref (s.heap.size + 210), .ref o]) (q := 210) (fs' := X2_fs (s.heap.size + 211) (s.heap.size + 34)) (ds' := X2_ds w) (mc := 38) (ms := 665) (G0 _ _ (by decide) (by decide)) K (cOk_this ho) (by rfl) lcX11_68 (by rfl) X2_c (by decide) rfl rfl (Nat.le_of_ble_eq_true rfl) (by decide) eX11_init_134 rfl ?_
  refine L_putF (fs' := [.ref (s.heap.size + 0), .ref (s.heap.size + 2), .ref (s.heap.size + 34), .ref (s.heap.size + 130), .ref (s.heap.size + 143), .ref (s.heap.size + 144), .ref (s.heap.size + 205), .ref (s.heap.size + 210), .null, .null, .null]) (G0 _ _ (by decide) (by decide)) K hin ho (by rfl) ffX11_71 rfl rfl (by exact Nat.le_of_ble_eq_true rfl) eX11_init_137 ?_
  refine N_aload_n (i := 0) (G0 _ _ (by decide) (by decide)) eX11_init_140 rfl rfl ?_
  refine L_new (n' := 249) (ty := tyX1) (fs' := [.null, .null, .null, .null, .null, .null, .int 0]) (G0 _ _ (by decide) (by decide)) K (by rfl) cf_1.1 cf_1.2.1 tyX1_ok df_1 nwX11_75 (by decide) (by decide) eX11_init_141 ?_
  refine N_dup (G0 _ _ (by decide) (by decide)) eX11_init_144 rfl ?_
  refine L_ctor (n' := 250) (As := []) (st := [.ref (s.heap.size + 249), .ref o]) (q := 249) (fs' := X1_fs (s.heap.size + 250)) (ds' := X1_ds w) (mc := 40) (ms := 343) (G0 _ _ (by decide) (by decide)) K (cOk_this ho) (by rfl) lcX11_77 (by rfl) X1_c (by decide) rfl rfl (Nat.le_of_ble_eq_true rfl) (by decide) eX11_init_145 rfl ?_
  refine L_putF (fs' := [.ref (s.heap.size + 0), .ref (s.heap.size + 2), .ref (s.heap.size + 34), .ref (s.heap.size + 130), .ref (s.heap.size + 143), .ref (s.heap.size + 144), .ref (s.heap.size + 205), .ref (s.heap.size + 210), .ref (s.heap.size + 249), .null, .null]) (G0 _ _ (by decide) (by decide)) K hin ho (by rfl) ffX11_78 rfl rfl (by exact Nat.le_of_ble_eq_true rfl) eX11_init_148 ?_
  refine N_aload_n (i := 0) (G0 _ _ (by decide) (by decide)) eX11_init_151 rfl rfl ?_
  refine L_new (n' := 290) (ty := tyX0) (fs' := [.null, .null, .null, .null, .null, .null, .int 0]) (G0 _ _ (by decide) (by decide)) K (by rfl) cf_0.1 cf_0.2.1 tyX0_ok df_0 nwX11_82 (by decide) (by decide) eX11_init_152 ?_
  refine N_dup (G0 _ _ (by decide) (by decide)) eX11_init_155 rfl ?_
  refine N_aload_n (i := 0) (G0 _ _ (by decide) (by decide)) eX11_init_156 rfl rfl ?_
  refine C_get (v := .ref (s.heap.size + 34)) (G0 _ _ (by decide) (by decide)) K ggX11_28 (by rfl) eX11_init_157 ?_
  refine N_aload_n (i := 0) (G0 _ _ (by decide) (by decide)) eX11_init_160 rfl rfl ?_
  refine C_get (v := .ref (s.heap.size + 2)) (G0 _ _ (by decide) (by decide)) K ggX11_19 (by rfl) eX11_init_161 ?_
  refine N_aload_n (i := 0) (G0 _ _ (by decide) (by decide)) eX11_init_164 rfl rfl ?_
  refine C_get (v := .ref (s.heap.size + 144)) (G0 _ _ (by decide) (by decide)) K ggX11_53 (by rfl) eX11_init_165 ?_
  refine L_ctor (n' := 291) (As := [.ref (s.heap.size + 34), .ref (s.heap.size + 2), .ref (s.heap.size + 144)]) (st := [.ref (s.heap.size + 290), .ref o]) (q := 290) (fs' := X0_fs (s.heap.size + 291) (s.heap.size + 34) (s.heap.size + 2) (s.heap.size + 144)) (ds' := X0_ds w) (mc := 13) (ms := 150) (G0 _ _ (by decide) (by decide)) K (cOk_this ho) (by rfl) lcX11_84 (by rfl) X0_c (by decide) rfl rfl (Nat.le_of_ble_eq_true rfl) (by decide) eX11_init_168 rfl ?_
  refine L_putF (fs' := [.ref (s.heap.size + 0), .ref (s.heap.size + 2), .ref (s.heap.size + 34), .ref (s.heap.size + 130), .ref (s.heap.size + 143), .ref (s.heap.size + 144), .ref (s.heap.size + 205), .ref (s.heap.size + 210), .ref (s.heap.size + 249), .ref (s.heap.size + 290), .null]) (G0 _ _ (by decide) (by decide)) K hin ho (by rfl) ffX11_87 rfl rfl (by exact Nat.le_of_ble_eq_true rfl) eX11_init_171 ?_
  refine N_aload_n (i := 0) (G0 _ _ (by decide) (by decide)) eX11_init_174 rfl rfl ?_
  refine L_new (n' := 304) (ty := tyX5) (fs' := [.null, .null, .null, .null, .null, .null, .null, .null, .null, .null, .null, .int 0, .int 0, .int 0, .int 0, .int 0]) (G0 _ _ (by decide) (by decide)) K (by rfl) cf_5.1 cf_5.2.1 tyX5_ok df_5 nwX11_91 (by decide) (by decide) eX11_init_175 ?_
  refine N_dup (G0 _ _ (by decide) (by decide)) eX11_init_178 rfl ?_
  refine N_aload_n (i := 0) (G0 _ _ (by decide) (by decide)) eX11_init_179 rfl rfl ?_
  refine C_get (v := .ref (s.heap.size + 34)) (G0 _ _ (by decide) (by decide)) K ggX11_28 (by rfl) eX11_init_180 ?_
  refine N_aload_n (i := 0) (G0 _ _ (by decide) (by decide)) eX11_init_183 rfl rfl ?_
  refine C_get (v := .ref (s.heap.size + 144)) (G0 _ _ (by decide) (by decide)) K ggX11_53 (by rfl) eX11_init_184 ?_
  refine N_aload_n (i := 0) (G0 _ _ (by decide) (by decide)) eX11_init_187 rfl rfl ?_
  refine C_get (v := .ref (s.heap.size + 290)) (G0 _ _ (by decide) (by decide)) K ggX11_87 (by rfl) eX11_init_188 ?_
  refine L_ctor (n' := 305) (As := [.ref (s.heap.size + 34), .ref (s.heap.size + 144), .ref (s.heap.size + 290)]) (st := [.ref (s.heap.size + 304), .ref o]) (q := 304) (fs' := X5_fs (s.heap.size + 305) (s.heap.size + 34) (s.heap.size + 144) (s.heap.size + 290)) (ds' := X5_ds w) (mc := 19) (ms := 183) (G0 _ _ (by decide) (by decide)) K (cOk_this ho) (by rfl) lcX11_93 (by rfl) X5_c (by decide) rfl rfl (Nat.le_of_ble_eq_true rfl) (by decide) eX11_init_191 rfl ?_
  refine L_putF (fs' := [.ref (s.heap.size + 0), .ref (s.heap.size + 2), .ref (s.heap.size + 34), .ref (s.heap.size + 130), .ref (s.heap.size + 143), .ref (s.heap.size + 144), .ref (s.heap.size + 205), .ref (s.heap.size + 210), .ref (s.heap.size + 249), .ref (s.heap.size + 290), .ref (s.heap.size + 304)]) (G0 _ _ (by decide) (by decide)) K hin ho (by rfl) ffX11_96 rfl rfl (by exact Nat.le_of_ble_eq_true rfl) eX11_init_194 ?_
  exact C_ret (G0 _ _ (by decide) (by decide)) hr hlk rfl eX11_init_197
