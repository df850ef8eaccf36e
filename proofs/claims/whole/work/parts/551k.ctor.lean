def X5_fs (h : Nat) (a1 : Nat) (a2 : Nat) (a3 : Nat) : List Value := [.ref a1, .ref a2, .ref a3, .ref (h + 0), .ref (h + 1), .ref (h + 2), .ref (h + 8), .ref (h + 9), .ref (h + 10), .ref (h + 11), .int 0, .int 0, .int 0, .int 0, .int 0]
def X5_ds (w : Wld) (h : Nat) : List va_E := [.inl (w.2.1 0, (5, .inl (fun _ => 0))), .inl (w.2.1 0, (5, .inl (fun _ => 0))), eOut w 3 5 (h + 2), .inl (w.2.1 0, (12, .inl (fun _ => 0))), .inl (w.2.1 0, (12, .inl (fun _ => 0))), .inl (w.2.1 0, (12, .inl (fun _ => 0))), .inl (w.2.1 0, (12, .inl (fun _ => 0))), .inl (w.2.1 0, (12, .inl (fun _ => 0))), .inl (w.2.1 0, (12, .inl (fun _ => 0))), .inl (w.2.1 0, (5, .inl (fun _ => 0))), .inl (w.2.1 0, (5, .inl (fun _ => 0))), .inl (w.2.1 0, (8, .inl (fun _ => 0)))]
set_option maxRecDepth 100000 in
set_option maxHeartbeats 4000000 in
theorem X5_c {l : Launch} {w : Wld} {o sz a1 a2 a3 : Nat} : CtC l w yX5_init cX5_init 4 1 [.ref o, .ref a1, .ref a2, .ref a3] o 5 sz [.null, .null, .null, .null, .null, .null, .null, .null, .null, .null, .int 0, .int 0, .int 0, .int 0, .int 0] (X5_fs sz a1 a2 a3) (X5_ds w) 12 105 := by
  refine CtC_of (own := "PotBook$Menus") [some (.ref o), some (.ref a1), some (.ref a2), some (.ref a3)] (by decide +kernel) rfl rfl rfl (Nat.le_of_ble_eq_true rfl) ?_
  intro p e s m args below meth c hx hb hml hown hts K hsz ho hin hr hlk
  subst hsz
  have G0 : ∀ kc ns : Nat, kc ≤ 12 → ns ≤ 105 → Cxg p (rmC 1 12 105) s m args meth c cX5_init 4 "PotBook$Menus" kc ns := fun kc ns h1 h2 => ⟨hx, hb, hml, hown, hts, h1, h2⟩
  refine N_aload_n (i := 0) (G0 _ _ (by decide) (by decide)) eX5_init_0 rfl rfl ?_
  refine C_objInit (G0 _ _ (by decide) (by decide)) oiX5_3 (by decide) (Nat.le_of_ble_eq_true rfl) (by decide) eX5_init_1 ?_
  refine N_aload_n (i := 0) (G0 _ _ (by decide) (by decide)) eX5_init_4 rfl rfl ?_
  refine N_iconst (n := 5) (v := (nI 5)) (G0 _ _ (by decide) (by decide)) eX5_init_5 rfl ?_
  refine L_newarr (n' := 0) (ty := .int) (i := 0) (atype := .int) (N := 5) (z := (5, .inl (fun _ => 0))) (G0 _ _ (by decide) (by decide)) K (by rfl) rfl rfl (fun _ h => h) aw_I (by decide) (by decide) (by decide) (fun _ => rfl) (by decide) (by decide) eX5_init_6 ?_
  refine L_putF (fs' := [.null, .null, .null, .ref (s.heap.size + 0), .null, .null, .null, .null, .null, .null, .int 0, .int 0, .int 0, .int 0, .int 0]) (G0 _ _ (by decide) (by decide)) K hin ho (by rfl) ffX5_9 rfl rfl (by exact Nat.le_of_ble_eq_true rfl) eX5_init_8 ?_
  refine N_aload_n (i := 0) (G0 _ _ (by decide) (by decide)) eX5_init_11 rfl rfl ?_
  refine N_iconst (n := 5) (v := (nI 5)) (G0 _ _ (by decide) (by decide)) eX5_init_12 rfl ?_
  refine L_newarr (n' := 1) (ty := .int) (i := 0) (atype := .int) (N := 5) (z := (5, .inl (fun _ => 0))) (G0 _ _ (by decide) (by decide)) K (by rfl) rfl rfl (fun _ h => h) aw_I (by decide) (by decide) (by decide) (fun _ => rfl) (by decide) (by decide) eX5_init_13 ?_
  refine L_putF (fs' := [.null, .null, .null, .ref (s.heap.size + 0), .ref (s.heap.size + 1), .null, .null, .null, .null, .null, .int 0, .int 0, .int 0, .int 0, .int 0]) (G0 _ _ (by decide) (by decide)) K hin ho (by rfl) ffX5_15 rfl rfl (by exact Nat.le_of_ble_eq_true rfl) eX5_init_15 ?_
  refine N_aload_n (i := 0) (G0 _ _ (by decide) (by decide)) eX5_init_18 rfl rfl ?_
  refine N_iconst (n := 5) (v := (nI 5)) (G0 _ _ (by decide) (by decide)) eX5_init_19 rfl ?_
  refine N_bipush (n := 12) (v := (nI 12)) (G0 _ _ (by decide) (by decide)) eX5_init_20 rfl ?_
  refine L_mna (n' := 2) (ty := .int) (i := 0) (i' := 3) (N := 5) (M := 12) (z := (12, .inl (fun _ => 0))) (G0 _ _ (by decide) (by decide)) K (by rfl) rfl rfl clX5_18 K.2.2.1 aw_I (fun _ h => h) (fun _ h => h) (by decide) (by decide) (by decide) (by decide) (by decide) (by decide) (by decide) rfl rfl (fun _ => inner_i) (by decide) (by decide) eX5_init_22 ?_
  refine L_putF (fs' := [.null, .null, .null, .ref (s.heap.size + 0), .ref (s.heap.size + 1), .ref (s.heap.size + 2), .null, .null, .null, .null, .int 0, .int 0, .int 0, .int 0, .int 0]) (G0 _ _ (by decide) (by decide)) K hin ho (by rfl) ffX5_20 rfl rfl (by exact Nat.le_of_ble_eq_true rfl) eX5_init_26 ?_
  refine N_aload_n (i := 0) (G0 _ _ (by decide) (by decide)) eX5_init_29 rfl rfl ?_
  refine N_bipush (n := 12) (v := (nI 12)) (G0 _ _ (by decide) (by decide)) eX5_init_30 rfl ?_
  refine L_newarr (n' := 8) (ty := .int) (i := 0) (atype := .int) (N := 12) (z := (12, .inl (fun _ => 0))) (G0 _ _ (by decide) (by decide)) K (by rfl) rfl rfl (fun _ h => h) aw_I (by decide) (by decide) (by decide) (fun _ => rfl) (by decide) (by decide) eX5_init_32 ?_
  refine L_putF (fs' := [.null, .null, .null, .ref (s.heap.size + 0), .ref (s.heap.size + 1), .ref (s.heap.size + 2), .ref (s.heap.size + 8), .null, .null, .null, .int 0, .int 0, .int 0, .int 0, .int 0]) (G0 _ _ (by decide) (by decide)) K hin ho (by rfl) ffX5_23 rfl rfl (by exact Nat.le_of_ble_eq_true rfl) eX5_init_34 ?_
  refine N_aload_n (i := 0) (G0 _ _ (by decide) (by decide)) eX5_init_37 rfl rfl ?_
  refine N_iconst (n := 5) (v := (nI 5)) (G0 _ _ (by decide) (by decide)) eX5_init_38 rfl ?_
  refine L_newarr (n' := 9) (ty := .int) (i := 0) (atype := .int) (N := 5) (z := (5, .inl (fun _ => 0))) (G0 _ _ (by decide) (by decide)) K (by rfl) rfl rfl (fun _ h => h) aw_I (by decide) (by decide) (by decide) (fun _ => rfl) (by decide) (by decide) eX5_init_39 ?_
  refine L_putF (fs' := [.null, .null, .null, .ref (s.heap.size + 0), .ref (s.heap.size + 1), .ref (s.heap.size + 2), .ref (s.heap.size + 8), .ref (s.heap.size + 9), .null, .null, .int 0, .int 0, .int 0, .int 0, .int 0]) (G0 _ _ (by decide) (by decide)) K hin ho (by rfl) ffX5_26 rfl rfl (by exact Nat.le_of_ble_eq_true rfl) eX5_init_41 ?_
  refine N_aload_n (i := 0) (G0 _ _ (by decide) (by decide)) eX5_init_44 rfl rfl ?_
  refine N_iconst (n := 5) (v := (nI 5)) (G0 _ _ (by decide) (by decide)) eX5_init_45 rfl ?_
  refine L_newarr (n' := 10) (ty := .int) (i := 0) (atype := .int) (N := 5) (z := (5, .inl (fun _ => 0))) (G0 _ _ (by decide) (by decide)) K (by rfl) rfl rfl (fun _ h => h) aw_I (by decide) (by decide) (by decide) (fun _ => rfl) (by decide) (by decide) eX5_init_46 ?_
  refine L_putF (fs' := [.null, .null, .null, .ref (s.heap.size + 0), .ref (s.heap.size + 1), .ref (s.heap.size + 2), .ref (s.heap.size + 8), .ref (s.heap.size + 9), .ref (s.heap.size + 10), .null, .int 0, .int 0, .int 0, .int 0, .int 0]) (G0 _ _ (by decide) (by decide)) K hin ho (by rfl) ffX5_29 rfl rfl (by exact Nat.le_of_ble_eq_true rfl) eX5_init_48 ?_
  refine N_aload_n (i := 0) (G0 _ _ (by decide) (by decide)) eX5_init_51 rfl rfl ?_
  refine N_bipush (n := 8) (v := (nI 8)) (G0 _ _ (by decide) (by decide)) eX5_init_52 rfl ?_
  refine L_newarr (n' := 11) (ty := .int) (i := 0) (atype := .int) (N := 8) (z := (8, .inl (fun _ => 0))) (G0 _ _ (by decide) (by decide)) K (by rfl) rfl rfl (fun _ h => h) aw_I (by decide) (by decide) (by decide) (fun _ => rfl) (by decide) (by decide) eX5_init_54 ?_
  refine L_putF (fs' := [.null, .null, .null, .ref (s.heap.size + 0), .ref (s.heap.size + 1), .ref (s.heap.size + 2), .ref (s.heap.size + 8), .ref (s.heap.size + 9), .ref (s.heap.size + 10), .ref (s.heap.size + 11), .int 0, .int 0, .int 0, .int 0, .int 0]) (G0 _ _ (by decide) (by decide)) K hin ho (by rfl) ffX5_32 rfl rfl (by exact Nat.le_of_ble_eq_true rfl) eX5_init_56 ?_
  refine N_aload_n (i := 0) (G0 _ _ (by decide) (by decide)) eX5_init_59 rfl rfl ?_
  refine N_aload_n (i := 1) (G0 _ _ (by decide) (by decide)) eX5_init_60 rfl rfl ?_
  refine L_putF (fs' := [.ref a1, .null, .null, .ref (s.heap.size + 0), .ref (s.heap.size + 1), .ref (s.heap.size + 2), .ref (s.heap.size + 8), .ref (s.heap.size + 9), .ref (s.heap.size + 10), .ref (s.heap.size + 11), .int 0, .int 0, .int 0, .int 0, .int 0]) (G0 _ _ (by decide) (by decide)) K hin ho (by rfl) ffX5_35 rfl rfl (by exact Nat.le_of_ble_eq_true rfl) eX5_init_61 ?_
  refine N_aload_n (i := 0) (G0 _ _ (by decide) (by decide)) eX5_init_64 rfl rfl ?_
  refine N_aload_n (i := 2) (G0 _ _ (by decide) (by decide)) eX5_init_65 rfl rfl ?_
  refine L_putF (fs' := [.ref a1, .ref a2, .null, .ref (s.heap.size + 0), .ref (s.heap.size + 1), .ref (s.heap.size + 2), .ref (s.heap.size + 8), .ref (s.heap.size + 9), .ref (s.heap.size + 10), .ref (s.heap.size + 11), .int 0, .int 0, .int 0, .int 0, .int 0]) (G0 _ _ (by decide) (by decide)) K hin ho (by rfl) ffX5_39 rfl rfl (by exact Nat.le_of_ble_eq_true rfl) eX5_init_66 ?_
  refine N_aload_n (i := 0) (G0 _ _ (by decide) (by decide)) eX5_init_69 rfl rfl ?_
  refine N_aload_n (i := 3) (G0 _ _ (by decide) (by decide)) eX5_init_70 rfl rfl ?_
  refine L_putF (fs' := [.ref a1, .ref a2, .ref a3, .ref (s.heap.size + 0), .ref (s.heap.size + 1), .ref (s.heap.size + 2), .ref (s.heap.size + 8), .ref (s.heap.size + 9), .ref (s.heap.size + 10), .ref (s.heap.size + 11), .int 0, .int 0, .int 0, .int 0, .int 0]) (G0 _ _ (by decide) (by decide)) K hin ho (by rfl) ffX5_43 rfl rfl (by exact Nat.le_of_ble_eq_true rfl) eX5_init_71 ?_
  exact C_ret (G0 _ _ (by decide) (by decide)) hr hlk rfl eX5_init_74
