def X10_fs (h : Nat) (a1 : Nat) (a2 : Nat) (a3 : Nat) (a4 : Nat) : List Value := [.ref a1, .ref a2, .ref a3, .ref a4, .ref (h + 0), .ref (h + 1), .ref (h + 2), .ref (h + 3)]
def X10_ds (w : Wld) (h : Nat) : List va_E := [.inl (w.2.1 0, (100, .inl (fun _ => 0))), .inl (w.2.1 0, (8, .inl (fun _ => 0))), .inl (w.2.1 0, (300, .inl (fun _ => 0))), .inl (w.2.1 0, (300, .inl (fun _ => 0)))]
set_option maxRecDepth 100000 in
set_option maxHeartbeats 4000000 in
theorem X10_c {l : Launch} {w : Wld} {o sz a1 a2 a3 a4 : Nat} : CtC l w yX10_init cX10_init 5 1 [.ref o, .ref a1, .ref a2, .ref a3, .ref a4] o 10 sz [.null, .null, .null, .null, .null, .null, .null, .null] (X10_fs sz a1 a2 a3 a4) (X10_ds w) 4 708 := by
  refine CtC_of (own := "PotBook$Taster") [some (.ref o), some (.ref a1), some (.ref a2), some (.ref a3), some (.ref a4)] (by decide +kernel) rfl rfl rfl (Nat.le_of_ble_eq_true rfl) ?_
  intro p e s m args below meth c hx hb hml hown hts K hsz ho hin hr hlk
  subst hsz
  have G0 : ∀ kc ns : Nat, kc ≤ 4 → ns ≤ 708 → Cxg p (rmC 1 4 708) s m args meth c cX10_init 5 "PotBook$Taster" kc ns := fun kc ns h1 h2 => ⟨hx, hb, hml, hown, hts, h1, h2⟩
  refine N_aload_n (i := 0) (G0 _ _ (by decide) (by decide)) eX10_init_0 rfl rfl ?_
  refine C_objInit (G0 _ _ (by decide) (by decide)) oiX10_3 (by decide) (Nat.le_of_ble_eq_true rfl) (by decide) eX10_init_1 ?_
  refine N_aload_n (i := 0) (G0 _ _ (by decide) (by decide)) eX10_init_4 rfl rfl ?_
  refine N_bipush (n := 100) (v := (nI 100)) (G0 _ _ (by decide) (by decide)) eX10_init_5 rfl ?_
  refine L_newarr (n' := 0) (ty := .int) (i := 0) (atype := .int) (N := 100) (z := (100, .inl (fun _ => 0))) (G0 _ _ (by decide) (by decide)) K (by rfl) rfl rfl (fun _ h => h) aw_I (by decide) (by decide) (by decide) (fun _ => rfl) (by decide) (by decide) eX10_init_7 ?_
  refine L_putF (fs' := [.null, .null, .null, .null, .ref (s.heap.size + 0), .null, .null, .null]) (G0 _ _ (by decide) (by decide)) K hin ho (by rfl) ffX10_9 rfl rfl (by exact Nat.le_of_ble_eq_true rfl) eX10_init_9 ?_
  refine N_aload_n (i := 0) (G0 _ _ (by decide) (by decide)) eX10_init_12 rfl rfl ?_
  refine N_bipush (n := 8) (v := (nI 8)) (G0 _ _ (by decide) (by decide)) eX10_init_13 rfl ?_
  refine L_newarr (n' := 1) (ty := .int) (i := 0) (atype := .int) (N := 8) (z := (8, .inl (fun _ => 0))) (G0 _ _ (by decide) (by decide)) K (by rfl) rfl rfl (fun _ h => h) aw_I (by decide) (by decide) (by decide) (fun _ => rfl) (by decide) (by decide) eX10_init_15 ?_
  refine L_putF (fs' := [.null, .null, .null, .null, .ref (s.heap.size + 0), .ref (s.heap.size + 1), .null, .null]) (G0 _ _ (by decide) (by decide)) K hin ho (by rfl) ffX10_15 rfl rfl (by exact Nat.le_of_ble_eq_true rfl) eX10_init_17 ?_
  refine N_aload_n (i := 0) (G0 _ _ (by decide) (by decide)) eX10_init_20 rfl rfl ?_
  refine N_sipush (n := 300) (v := (nI 300)) (G0 _ _ (by decide) (by decide)) eX10_init_21 rfl ?_
  refine L_newarr (n' := 2) (ty := .int) (i := 0) (atype := .int) (N := 300) (z := (300, .inl (fun _ => 0))) (G0 _ _ (by decide) (by decide)) K (by rfl) rfl rfl (fun _ h => h) aw_I (by decide) (by decide) (by decide) (fun _ => rfl) (by decide) (by decide) eX10_init_24 ?_
  refine L_putF (fs' := [.null, .null, .null, .null, .ref (s.heap.size + 0), .ref (s.heap.size + 1), .ref (s.heap.size + 2), .null]) (G0 _ _ (by decide) (by decide)) K hin ho (by rfl) ffX10_18 rfl rfl (by exact Nat.le_of_ble_eq_true rfl) eX10_init_26 ?_
  refine N_aload_n (i := 0) (G0 _ _ (by decide) (by decide)) eX10_init_29 rfl rfl ?_
  refine N_sipush (n := 300) (v := (nI 300)) (G0 _ _ (by decide) (by decide)) eX10_init_30 rfl ?_
  refine L_newarr (n' := 3) (ty := .int) (i := 0) (atype := .int) (N := 300) (z := (300, .inl (fun _ => 0))) (G0 _ _ (by decide) (by decide)) K (by rfl) rfl rfl (fun _ h => h) aw_I (by decide) (by decide) (by decide) (fun _ => rfl) (by decide) (by decide) eX10_init_33 ?_
  refine L_putF (fs' := [.null, .null, .null, .null, .ref (s.heap.size + 0), .ref (s.heap.size + 1), .ref (s.heap.size + 2), .ref (s.heap.size + 3)]) (G0 _ _ (by decide) (by decide)) K hin ho (by rfl) ffX10_21 rfl rfl (by exact Nat.le_of_ble_eq_true rfl) eX10_init_35 ?_
  refine N_aload_n (i := 0) (G0 _ _ (by decide) (by decide)) eX10_init_38 rfl rfl ?_
  refine N_aload_n (i := 1) (G0 _ _ (by decide) (by decide)) eX10_init_39 rfl rfl ?_
  refine L_putF (fs' := [.ref a1, .null, .null, .null, .ref (s.heap.size + 0), .ref (s.heap.size + 1), .ref (s.heap.size + 2), .ref (s.heap.size + 3)]) (G0 _ _ (by decide) (by decide)) K hin ho (by rfl) ffX10_24 rfl rfl (by exact Nat.le_of_ble_eq_true rfl) eX10_init_40 ?_
  refine N_aload_n (i := 0) (G0 _ _ (by decide) (by decide)) eX10_init_43 rfl rfl ?_
  refine N_aload_n (i := 2) (G0 _ _ (by decide) (by decide)) eX10_init_44 rfl rfl ?_
  refine L_putF (fs' := [.ref a1, .ref a2, .null, .null, .ref (s.heap.size + 0), .ref (s.heap.size + 1), .ref (s.heap.size + 2), .ref (s.heap.size + 3)]) (G0 _ _ (by decide) (by decide)) K hin ho (by rfl) ffX10_28 rfl rfl (by exact Nat.le_of_ble_eq_true rfl) eX10_init_45 ?_
  refine N_aload_n (i := 0) (G0 _ _ (by decide) (by decide)) eX10_init_48 rfl rfl ?_
  refine N_aload_n (i := 3) (G0 _ _ (by decide) (by decide)) eX10_init_49 rfl rfl ?_
  refine L_putF (fs' := [.ref a1, .ref a2, .ref a3, .null, .ref (s.heap.size + 0), .ref (s.heap.size + 1), .ref (s.heap.size + 2), .ref (s.heap.size + 3)]) (G0 _ _ (by decide) (by decide)) K hin ho (by rfl) ffX10_32 rfl rfl (by exact Nat.le_of_ble_eq_true rfl) eX10_init_50 ?_
  refine N_aload_n (i := 0) (G0 _ _ (by decide) (by decide)) eX10_init_53 rfl rfl ?_
  refine N_aload (G0 _ _ (by decide) (by decide)) eX10_init_54 rfl ?_
  refine L_putF (fs' := [.ref a1, .ref a2, .ref a3, .ref a4, .ref (s.heap.size + 0), .ref (s.heap.size + 1), .ref (s.heap.size + 2), .ref (s.heap.size + 3)]) (G0 _ _ (by decide) (by decide)) K hin ho (by rfl) ffX10_36 rfl rfl (by exact Nat.le_of_ble_eq_true rfl) eX10_init_56 ?_
  exact C_ret (G0 _ _ (by decide) (by decide)) hr hlk rfl eX10_init_59
