def X4_fs (h : Nat) : List Value := [.ref (h + 0), .ref (h + 8), .ref (h + 9), .int 0, .int 0, .ref (h + 10), .ref (h + 11), .int 0]
def X4_ds (w : Wld) (h : Nat) : List va_E := [eOut w 3 7 (h + 0), .inl (w.2.1 0, (120, .inl (fun _ => 0))), .inl (w.2.1 0, (120, .inl (fun _ => 0))), .inl (w.2.1 0, (120, .inl (fun _ => 0))), .inl (w.2.1 0, (120, .inl (fun _ => 0))), .inl (w.2.1 0, (120, .inl (fun _ => 0))), .inl (w.2.1 0, (120, .inl (fun _ => 0))), .inl (w.2.1 0, (120, .inl (fun _ => 0))), .inl (w.2.1 0, (7, .inl (fun _ => 0))), .inl (w.2.1 0, (64, .inl (fun _ => 0))), arI w 6 (fillF gMax 6), arI w 6 (fillF gMin 6)]
set_option maxRecDepth 100000 in
set_option maxHeartbeats 4000000 in
theorem X4_c {l : Launch} {w : Wld} {o sz : Nat} : CtC l w yX4_init cX4_init 2 1 [.ref o] o 4 sz [.null, .null, .null, .int 0, .int 0, .null, .null, .int 0] (X4_fs sz) (X4_ds w) 12 930 := by
  refine CtC_of (own := "PotBook$Laws") [some (.ref o), none] (by decide +kernel) rfl rfl rfl (Nat.le_of_ble_eq_true rfl) ?_
  intro p e s m args below meth c hx hb hml hown hts K hsz ho hin hr hlk
  subst hsz
  have G0 : ∀ kc ns : Nat, kc ≤ 12 → ns ≤ 930 → Cxg p (rmC 1 12 930) s m args meth c cX4_init 2 "PotBook$Laws" kc ns := fun kc ns h1 h2 => ⟨hx, hb, hml, hown, hts, h1, h2⟩
  refine N_aload_n (i := 0) (G0 _ _ (by decide) (by decide)) eX4_init_0 rfl rfl ?_
  refine C_objInit (G0 _ _ (by decide) (by decide)) oiX4_3 (by decide) (Nat.le_of_ble_eq_true rfl) (by decide) eX4_init_1 ?_
  refine N_aload_n (i := 0) (G0 _ _ (by decide) (by decide)) eX4_init_4 rfl rfl ?_
  refine N_bipush (n := 7) (v := (nI 7)) (G0 _ _ (by decide) (by decide)) eX4_init_5 rfl ?_
  refine N_bipush (n := 120) (v := (nI 120)) (G0 _ _ (by decide) (by decide)) eX4_init_7 rfl ?_
  refine L_mna (n' := 0) (ty := .int) (i := 0) (i' := 3) (N := 7) (M := 120) (z := (120, .inl (fun _ => 0))) (G0 _ _ (by decide) (by decide)) K (by rfl) rfl rfl clX4_9 K.2.2.1 aw_I (fun _ h => h) (fun _ h => h) (by decide) (by decide) (by decide) (by decide) (by decide) (by decide) (by decide) rfl rfl (fun _ => inner_i) (by decide) (by decide) eX4_init_9 ?_
  refine L_putF (fs' := [.ref (s.heap.size + 0), .null, .null, .int 0, .int 0, .null, .null, .int 0]) (G0 _ _ (by decide) (by decide)) K hin ho (by rfl) ffX4_11 rfl rfl (by exact Nat.le_of_ble_eq_true rfl) eX4_init_13 ?_
  refine N_aload_n (i := 0) (G0 _ _ (by decide) (by decide)) eX4_init_16 rfl rfl ?_
  refine N_bipush (n := 7) (v := (nI 7)) (G0 _ _ (by decide) (by decide)) eX4_init_17 rfl ?_
  refine L_newarr (n' := 8) (ty := .int) (i := 0) (atype := .int) (N := 7) (z := (7, .inl (fun _ => 0))) (G0 _ _ (by decide) (by decide)) K (by rfl) rfl rfl (fun _ h => h) aw_I (by decide) (by decide) (by decide) (fun _ => rfl) (by decide) (by decide) eX4_init_19 ?_
  refine L_putF (fs' := [.ref (s.heap.size + 0), .ref (s.heap.size + 8), .null, .int 0, .int 0, .null, .null, .int 0]) (G0 _ _ (by decide) (by decide)) K hin ho (by rfl) ffX4_16 rfl rfl (by exact Nat.le_of_ble_eq_true rfl) eX4_init_21 ?_
  refine N_aload_n (i := 0) (G0 _ _ (by decide) (by decide)) eX4_init_24 rfl rfl ?_
  refine N_bipush (n := 64) (v := (nI 64)) (G0 _ _ (by decide) (by decide)) eX4_init_25 rfl ?_
  refine L_newarr (n' := 9) (ty := .int) (i := 0) (atype := .int) (N := 64) (z := (64, .inl (fun _ => 0))) (G0 _ _ (by decide) (by decide)) K (by rfl) rfl rfl (fun _ h => h) aw_I (by decide) (by decide) (by decide) (fun _ => rfl) (by decide) (by decide) eX4_init_27 ?_
  refine L_putF (fs' := [.ref (s.heap.size + 0), .ref (s.heap.size + 8), .ref (s.heap.size + 9), .int 0, .int 0, .null, .null, .int 0]) (G0 _ _ (by decide) (by decide)) K hin ho (by rfl) ffX4_20 rfl rfl (by exact Nat.le_of_ble_eq_true rfl) eX4_init_29 ?_
  refine N_aload_n (i := 0) (G0 _ _ (by decide) (by decide)) eX4_init_32 rfl rfl ?_
  refine N_bipush (n := 6) (v := (nI 6)) (G0 _ _ (by decide) (by decide)) eX4_init_33 rfl ?_
  refine L_newarr (n' := 10) (ty := .int) (i := 0) (atype := .int) (N := 6) (z := (6, .inl (fun _ => 0))) (G0 _ _ (by decide) (by decide)) K (by rfl) rfl rfl (fun _ h => h) aw_I (by decide) (by decide) (by decide) (fun _ => rfl) (by decide) (by decide) eX4_init_35 ?_
  refine L_putF (fs' := [.ref (s.heap.size + 0), .ref (s.heap.size + 8), .ref (s.heap.size + 9), .int 0, .int 0, .ref (s.heap.size + 10), .null, .int 0]) (G0 _ _ (by decide) (by decide)) K hin ho (by rfl) ffX4_23 rfl rfl (by exact Nat.le_of_ble_eq_true rfl) eX4_init_37 ?_
  refine N_aload_n (i := 0) (G0 _ _ (by decide) (by decide)) eX4_init_40 rfl rfl ?_
  refine N_bipush (n := 6) (v := (nI 6)) (G0 _ _ (by decide) (by decide)) eX4_init_41 rfl ?_
  refine L_newarr (n' := 11) (ty := .int) (i := 0) (atype := .int) (N := 6) (z := (6, .inl (fun _ => 0))) (G0 _ _ (by decide) (by decide)) K (by rfl) rfl rfl (fun _ h => h) aw_I (by decide) (by decide) (by decide) (fun _ => rfl) (by decide) (by decide) eX4_init_43 ?_
  refine L_putF (fs' := [.ref (s.heap.size + 0), .ref (s.heap.size + 8), .ref (s.heap.size + 9), .int 0, .int 0, .ref (s.heap.size + 10), .ref (s.heap.size + 11), .int 0]) (G0 _ _ (by decide) (by decide)) K hin ho (by rfl) ffX4_26 rfl rfl (by exact Nat.le_of_ble_eq_true rfl) eX4_init_45 ?_
  refine N_iconst (n := 0) (v := (nI 0)) (G0 _ _ (by decide) (by decide)) eX4_init_48 rfl ?_
  refine N_istoreA_n (i := 1) (L' := [some (.ref o), some (.int (nI 0))]) (G0 _ _ (by decide) (by decide)) rfl eX4_init_49 (by decide) rfl rfl ?_
  refine lpX4 (qa := 10) (qb := 11) (G0 _ _ (by decide) (by decide)) K ho ggX4_23 ggX4_26 (by rfl) (by rfl) (by rfl) (by rfl) (by decide) ?_
  exact C_ret (G0 _ _ (by decide) (by decide)) hr hlk rfl eX4_init_78
