def X0_fs (h : Nat) (a1 : Nat) (a2 : Nat) (a3 : Nat) : List Value := [.ref a1, .ref a2, .ref a3, .ref (h + 0), .ref (h + 1), .ref (h + 2), .int 0]
def X0_ds (w : Wld) (h : Nat) : List va_E := [.inl (w.2.1 0, (10, .inl (fun _ => 0))), .inl (w.2.1 1, (10, .inl (fun _ => 0))), eOut w 3 10 (h + 2), .inl (w.2.1 0, (12, .inl (fun _ => 0))), .inl (w.2.1 0, (12, .inl (fun _ => 0))), .inl (w.2.1 0, (12, .inl (fun _ => 0))), .inl (w.2.1 0, (12, .inl (fun _ => 0))), .inl (w.2.1 0, (12, .inl (fun _ => 0))), .inl (w.2.1 0, (12, .inl (fun _ => 0))), .inl (w.2.1 0, (12, .inl (fun _ => 0))), .inl (w.2.1 0, (12, .inl (fun _ => 0))), .inl (w.2.1 0, (12, .inl (fun _ => 0))), .inl (w.2.1 0, (12, .inl (fun _ => 0)))]
set_option maxRecDepth 100000 in
set_option maxHeartbeats 4000000 in
theorem X0_c {l : Launch} {w : Wld} {o sz a1 a2 a3 : Nat} : CtC l w yX0_init cX0_init 4 1 [.ref o, .ref a1, .ref a2, .ref a3] o 0 sz [.null, .null, .null, .null, .null, .null, .int 0] (X0_fs sz a1 a2 a3) (X0_ds w) 13 150 := by
  refine CtC_of (own := "PotBook$Account") [some (.ref o), some (.ref a1), some (.ref a2), some (.ref a3)] (by decide +kernel) rfl rfl rfl (Nat.le_of_ble_eq_true rfl) ?_
  intro p e s m args below meth c hx hb hml hown hts K hsz ho hin hr hlk
  subst hsz
  have G0 : ∀ kc ns : Nat, kc ≤ 13 → ns ≤ 150 → Cxg p (rmC 1 13 150) s m args meth c cX0_init 4 "PotBook$Account" kc ns := fun kc ns h1 h2 => ⟨hx, hb, hml, hown, hts, h1, h2⟩
  refine N_aload_n (i := 0) (G0 _ _ (by decide) (by decide)) eX0_init_0 rfl rfl ?_
  refine C_objInit (G0 _ _ (by decide) (by decide)) oiX0_3 (by decide) (Nat.le_of_ble_eq_true rfl) (by decide) eX0_init_1 ?_
  refine N_aload_n (i := 0) (G0 _ _ (by decide) (by decide)) eX0_init_4 rfl rfl ?_
  refine N_bipush (n := 10) (v := (nI 10)) (G0 _ _ (by decide) (by decide)) eX0_init_5 rfl ?_
  refine L_newarr (n' := 0) (ty := .int) (i := 0) (atype := .int) (N := 10) (z := (10, .inl (fun _ => 0))) (G0 _ _ (by decide) (by decide)) K (by rfl) rfl rfl (fun _ h => h) aw_I (by decide) (by decide) (by decide) (fun _ => rfl) (by decide) (by decide) eX0_init_7 ?_
  refine L_putF (fs' := [.null, .null, .null, .ref (s.heap.size + 0), .null, .null, .int 0]) (G0 _ _ (by decide) (by decide)) K hin ho (by rfl) ffX0_9 rfl rfl (by exact Nat.le_of_ble_eq_true rfl) eX0_init_9 ?_
  refine N_aload_n (i := 0) (G0 _ _ (by decide) (by decide)) eX0_init_12 rfl rfl ?_
  refine N_bipush (n := 10) (v := (nI 10)) (G0 _ _ (by decide) (by decide)) eX0_init_13 rfl ?_
  refine L_newarr (n' := 1) (ty := .boolean) (i := 1) (atype := .boolean) (N := 10) (z := (10, .inl (fun _ => 0))) (G0 _ _ (by decide) (by decide)) K (by rfl) rfl rfl (fun _ h => h) aw_Z (by decide) (by decide) (by decide) (fun _ => rfl) (by decide) (by decide) eX0_init_15 ?_
  refine L_putF (fs' := [.null, .null, .null, .ref (s.heap.size + 0), .ref (s.heap.size + 1), .null, .int 0]) (G0 _ _ (by decide) (by decide)) K hin ho (by rfl) ffX0_15 rfl rfl (by exact Nat.le_of_ble_eq_true rfl) eX0_init_17 ?_
  refine N_aload_n (i := 0) (G0 _ _ (by decide) (by decide)) eX0_init_20 rfl rfl ?_
  refine N_bipush (n := 10) (v := (nI 10)) (G0 _ _ (by decide) (by decide)) eX0_init_21 rfl ?_
  refine N_bipush (n := 12) (v := (nI 12)) (G0 _ _ (by decide) (by decide)) eX0_init_23 rfl ?_
  refine L_mna (n' := 2) (ty := .int) (i := 0) (i' := 3) (N := 10) (M := 12) (z := (12, .inl (fun _ => 0))) (G0 _ _ (by decide) (by decide)) K (by rfl) rfl rfl clX0_19 K.2.2.1 aw_I (fun _ h => h) (fun _ h => h) (by decide) (by decide) (by decide) (by decide) (by decide) (by decide) (by decide) rfl rfl (fun _ => inner_i) (by decide) (by decide) eX0_init_25 ?_
  refine L_putF (fs' := [.null, .null, .null, .ref (s.heap.size + 0), .ref (s.heap.size + 1), .ref (s.heap.size + 2), .int 0]) (G0 _ _ (by decide) (by decide)) K hin ho (by rfl) ffX0_21 rfl rfl (by exact Nat.le_of_ble_eq_true rfl) eX0_init_29 ?_
  refine N_aload_n (i := 0) (G0 _ _ (by decide) (by decide)) eX0_init_32 rfl rfl ?_
  refine N_aload_n (i := 1) (G0 _ _ (by decide) (by decide)) eX0_init_33 rfl rfl ?_
  refine L_putF (fs' := [.ref a1, .null, .null, .ref (s.heap.size + 0), .ref (s.heap.size + 1), .ref (s.heap.size + 2), .int 0]) (G0 _ _ (by decide) (by decide)) K hin ho (by rfl) ffX0_24 rfl rfl (by exact Nat.le_of_ble_eq_true rfl) eX0_init_34 ?_
  refine N_aload_n (i := 0) (G0 _ _ (by decide) (by decide)) eX0_init_37 rfl rfl ?_
  refine N_aload_n (i := 2) (G0 _ _ (by decide) (by decide)) eX0_init_38 rfl rfl ?_
  refine L_putF (fs' := [.ref a1, .ref a2, .null, .ref (s.heap.size + 0), .ref (s.heap.size + 1), .ref (s.heap.size + 2), .int 0]) (G0 _ _ (by decide) (by decide)) K hin ho (by rfl) ffX0_28 rfl rfl (by exact Nat.le_of_ble_eq_true rfl) eX0_init_39 ?_
  refine N_aload_n (i := 0) (G0 _ _ (by decide) (by decide)) eX0_init_42 rfl rfl ?_
  refine N_aload_n (i := 3) (G0 _ _ (by decide) (by decide)) eX0_init_43 rfl rfl ?_
  refine L_putF (fs' := [.ref a1, .ref a2, .ref a3, .ref (s.heap.size + 0), .ref (s.heap.size + 1), .ref (s.heap.size + 2), .int 0]) (G0 _ _ (by decide) (by decide)) K hin ho (by rfl) ffX0_32 rfl rfl (by exact Nat.le_of_ble_eq_true rfl) eX0_init_44 ?_
  exact C_ret (G0 _ _ (by decide) (by decide)) hr hlk rfl eX0_init_47
