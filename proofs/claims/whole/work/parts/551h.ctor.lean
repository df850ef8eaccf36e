def X2_fs (h : Nat) (a1 : Nat) : List Value := [.ref a1, .ref (h + 0), .ref (h + 17), .ref (h + 34), .ref (h + 35), .ref (h + 36), .ref (h + 37)]
def X2_ds (w : Wld) (h : Nat) : List va_E := [eOut w 3 16 (h + 0), .inl (w.2.1 0, (16, .inl (fun _ => 0))), .inl (w.2.1 0, (16, .inl (fun _ => 0))), .inl (w.2.1 0, (16, .inl (fun _ => 0))), .inl (w.2.1 0, (16, .inl (fun _ => 0))), .inl (w.2.1 0, (16, .inl (fun _ => 0))), .inl (w.2.1 0, (16, .inl (fun _ => 0))), .inl (w.2.1 0, (16, .inl (fun _ => 0))), .inl (w.2.1 0, (16, .inl (fun _ => 0))), .inl (w.2.1 0, (16, .inl (fun _ => 0))), .inl (w.2.1 0, (16, .inl (fun _ => 0))), .inl (w.2.1 0, (16, .inl (fun _ => 0))), .inl (w.2.1 0, (16, .inl (fun _ => 0))), .inl (w.2.1 0, (16, .inl (fun _ => 0))), .inl (w.2.1 0, (16, .inl (fun _ => 0))), .inl (w.2.1 0, (16, .inl (fun _ => 0))), .inl (w.2.1 0, (16, .inl (fun _ => 0))), eOut w 3 16 (h + 17), .inl (w.2.1 0, (16, .inl (fun _ => 0))), .inl (w.2.1 0, (16, .inl (fun _ => 0))), .inl (w.2.1 0, (16, .inl (fun _ => 0))), .inl (w.2.1 0, (16, .inl (fun _ => 0))), .inl (w.2.1 0, (16, .inl (fun _ => 0))), .inl (w.2.1 0, (16, .inl (fun _ => 0))), .inl (w.2.1 0, (16, .inl (fun _ => 0))), .inl (w.2.1 0, (16, .inl (fun _ => 0))), .inl (w.2.1 0, (16, .inl (fun _ => 0))), .inl (w.2.1 0, (16, .inl (fun _ => 0))), .inl (w.2.1 0, (16, .inl (fun _ => 0))), .inl (w.2.1 0, (16, .inl (fun _ => 0))), .inl (w.2.1 0, (16, .inl (fun _ => 0))), .inl (w.2.1 0, (16, .inl (fun _ => 0))), .inl (w.2.1 0, (16, .inl (fun _ => 0))), .inl (w.2.1 0, (16, .inl (fun _ => 0))), .inl (w.2.1 0, (16, .inl (fun _ => 0))), .inl (w.2.1 0, (73, .inl (fun _ => 0))), .inl (w.2.1 0, (16, .inl (fun _ => 0))), .inl (w.2.1 1, (16, .inl (fun _ => 0)))]
set_option maxRecDepth 100000 in
set_option maxHeartbeats 4000000 in
theorem X2_c {l : Launch} {w : Wld} {o sz a1 : Nat} : CtC l w yX2_init cX2_init 2 1 [.ref o, .ref a1] o 2 sz [.null, .null, .null, .null, .null, .null, .null] (X2_fs sz a1) (X2_ds w) 38 665 := by
  refine CtC_of (own := "PotBook$Kin") [some (.ref o), some (.ref a1)] (by decide +kernel) rfl rfl rfl (Nat.le_of_ble_eq_true rfl) ?_
  intro p e s m args below meth c hx hb hml hown hts K hsz ho hin hr hlk
  subst hsz
  have G0 : ∀ kc ns : Nat, kc ≤ 38 → ns ≤ 665 → Cxg p (rmC 1 38 665) s m args meth c cX2_init 2 "PotBook$Kin" kc ns := fun kc ns h1 h2 => ⟨hx, hb, hml, hown, hts, h1, h2⟩
  refine N_aload_n (i := 0) (G0 _ _ (by decide) (by decide)) eX2_init_0 rfl rfl ?_
  refine C_objInit (G0 _ _ (by decide) (by decide)) oiX2_3 (by decide) (Nat.le_of_ble_eq_true rfl) (by decide) eX2_init_1 ?_
  refine N_aload_n (i := 0) (G0 _ _ (by decide) (by decide)) eX2_init_4 rfl rfl ?_
  refine N_bipush (n := 16) (v := (nI 16)) (G0 _ _ (by decide) (by decide)) eX2_init_5 rfl ?_
  refine N_bipush (n := 16) (v := (nI 16)) (G0 _ _ (by decide) (by decide)) eX2_init_7 rfl ?_
  refine L_mna (n' := 0) (ty := .int) (i := 0) (i' := 3) (N := 16) (M := 16) (z := (16, .inl (fun _ => 0))) (G0 _ _ (by decide) (by decide)) K (by rfl) rfl rfl clX2_9 K.2.2.1 aw_I (fun _ h => h) (fun _ h => h) (by decide) (by decide) (by decide) (by decide) (by decide) (by decide) (by decide) rfl rfl (fun _ => inner_i) (by decide) (by decide) eX2_init_9 ?_
  refine L_putF (fs' := [.null, .ref (s.heap.size + 0), .null, .null, .null, .null, .null]) (G0 _ _ (by decide) (by decide)) K hin ho (by rfl) ffX2_11 rfl rfl (by exact Nat.le_of_ble_eq_true rfl) eX2_init_13 ?_
  refine N_aload_n (i := 0) (G0 _ _ (by decide) (by decide)) eX2_init_16 rfl rfl ?_
  refine N_bipush (n := 16) (v := (nI 16)) (G0 _ _ (by decide) (by decide)) eX2_init_17 rfl ?_
  refine N_bipush (n := 16) (v := (nI 16)) (G0 _ _ (by decide) (by decide)) eX2_init_19 rfl ?_
  refine L_mna (n' := 17) (ty := .int) (i := 0) (i' := 3) (N := 16) (M := 16) (z := (16, .inl (fun _ => 0))) (G0 _ _ (by decide) (by decide)) K (by rfl) rfl rfl clX2_9 K.2.2.1 aw_I (fun _ h => h) (fun _ h => h) (by decide) (by decide) (by decide) (by decide) (by decide) (by decide) (by decide) rfl rfl (fun _ => inner_i) (by decide) (by decide) eX2_init_21 ?_
  refine L_putF (fs' := [.null, .ref (s.heap.size + 0), .ref (s.heap.size + 17), .null, .null, .null, .null]) (G0 _ _ (by decide) (by decide)) K hin ho (by rfl) ffX2_16 rfl rfl (by exact Nat.le_of_ble_eq_true rfl) eX2_init_25 ?_
  refine N_aload_n (i := 0) (G0 _ _ (by decide) (by decide)) eX2_init_28 rfl rfl ?_
  refine N_bipush (n := 16) (v := (nI 16)) (G0 _ _ (by decide) (by decide)) eX2_init_29 rfl ?_
  refine L_newarr (n' := 34) (ty := .int) (i := 0) (atype := .int) (N := 16) (z := (16, .inl (fun _ => 0))) (G0 _ _ (by decide) (by decide)) K (by rfl) rfl rfl (fun _ h => h) aw_I (by decide) (by decide) (by decide) (fun _ => rfl) (by decide) (by decide) eX2_init_31 ?_
  refine L_putF (fs' := [.null, .ref (s.heap.size + 0), .ref (s.heap.size + 17), .ref (s.heap.size + 34), .null, .null, .null]) (G0 _ _ (by decide) (by decide)) K hin ho (by rfl) ffX2_19 rfl rfl (by exact Nat.le_of_ble_eq_true rfl) eX2_init_33 ?_
  refine N_aload_n (i := 0) (G0 _ _ (by decide) (by decide)) eX2_init_36 rfl rfl ?_
  refine N_bipush (n := 73) (v := (nI 73)) (G0 _ _ (by decide) (by decide)) eX2_init_37 rfl ?_
  refine L_newarr (n' := 35) (ty := .int) (i := 0) (atype := .int) (N := 73) (z := (73, .inl (fun _ => 0))) (G0 _ _ (by decide) (by decide)) K (by rfl) rfl rfl (fun _ h => h) aw_I (by decide) (by decide) (by decide) (fun _ => rfl) (by decide) (by decide) eX2_init_39 ?_
  refine L_putF (fs' := [.null, .ref (s.heap.size + 0), .ref (s.heap.size + 17), .ref (s.heap.size + 34), .ref (s.heap.size + 35), .null, .null]) (G0 _ _ (by decide) (by decide)) K hin ho (by rfl) ffX2_23 rfl rfl (by exact Nat.le_of_ble_eq_true rfl) eX2_init_41 ?_
  refine N_aload_n (i := 0) (G0 _ _ (by decide) (by decide)) eX2_init_44 rfl rfl ?_
  refine N_bipush (n := 16) (v := (nI 16)) (G0 _ _ (by decide) (by decide)) eX2_init_45 rfl ?_
  refine L_newarr (n' := 36) (ty := .int) (i := 0) (atype := .int) (N := 16) (z := (16, .inl (fun _ => 0))) (G0 _ _ (by decide) (by decide)) K (by rfl) rfl rfl (fun _ h => h) aw_I (by decide) (by decide) (by decide) (fun _ => rfl) (by decide) (by decide) eX2_init_47 ?_
  refine L_putF (fs' := [.null, .ref (s.heap.size + 0), .ref (s.heap.size + 17), .ref (s.heap.size + 34), .ref (s.heap.size + 35), .ref (s.heap.size + 36), .null]) (G0 _ _ (by decide) (by decide)) K hin ho (by rfl) ffX2_26 rfl rfl (by exact Nat.le_of_ble_eq_true rfl) eX2_init_49 ?_
  refine N_aload_n (i := 0) (G0 _ _ (by decide) (by decide)) eX2_init_52 rfl rfl ?_
  refine N_bipush (n := 16) (v := (nI 16)) (G0 _ _ (by decide) (by decide)) eX2_init_53 rfl ?_
  refine L_newarr (n' := 37) (ty := .boolean) (i := 1) (atype := .boolean) (N := 16) (z := (16, .inl (fun _ => 0))) (G0 _ _ (by decide) (by decide)) K (by rfl) rfl rfl (fun _ h => h) aw_Z (by decide) (by decide) (by decide) (fun _ => rfl) (by decide) (by decide) eX2_init_55 ?_
  refine L_putF (fs' := [.null, .ref (s.heap.size + 0), .ref (s.heap.size + 17), .ref (s.heap.size + 34), .ref (s.heap.size + 35), .ref (s.heap.size + 36), .ref (s.heap.size + 37)]) (G0 _ _ (by decide) (by decide)) K hin ho (by rfl) ffX2_29 rfl rfl (by exact Nat.le_of_ble_eq_true rfl) eX2_init_57 ?_
  refine N_aload_n (i := 0) (G0 _ _ (by decide) (by decide)) eX2_init_60 rfl rfl ?_
  refine N_aload_n (i := 1) (G0 _ _ (by decide) (by decide)) eX2_init_61 rfl rfl ?_
  refine L_putF (fs' := [.ref a1, .ref (s.heap.size + 0), .ref (s.heap.size + 17), .ref (s.heap.size + 34), .ref (s.heap.size + 35), .ref (s.heap.size + 36), .ref (s.heap.size + 37)]) (G0 _ _ (by decide) (by decide)) K hin ho (by rfl) ffX2_33 rfl rfl (by exact Nat.le_of_ble_eq_true rfl) eX2_init_62 ?_
  exact C_ret (G0 _ _ (by decide) (by decide)) hr hlk rfl eX2_init_65
