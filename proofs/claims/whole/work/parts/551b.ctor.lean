def X7_fs (h : Nat) : List Value := [.ref (h + 0), .ref (h + 1), .ref (h + 2), .ref (h + 3), .ref (h + 4), .ref (h + 5), .ref (h + 18), .int 0, .int 0]
def X7_ds (w : Wld) (h : Nat) : List va_E := [.inl (w.2.1 0, (12, .inl (fun _ => 0))), .inl (w.2.1 0, (12, .inl (fun _ => 0))), .inl (w.2.1 0, (12, .inl (fun _ => 0))), .inl (w.2.1 0, (12, .inl (fun _ => 0))), .inl (w.2.1 0, (12, .inl (fun _ => 0))), eOut w 3 12 (h + 5), .inl (w.2.1 0, (6, .inl (fun _ => 0))), .inl (w.2.1 0, (6, .inl (fun _ => 0))), .inl (w.2.1 0, (6, .inl (fun _ => 0))), .inl (w.2.1 0, (6, .inl (fun _ => 0))), .inl (w.2.1 0, (6, .inl (fun _ => 0))), .inl (w.2.1 0, (6, .inl (fun _ => 0))), .inl (w.2.1 0, (6, .inl (fun _ => 0))), .inl (w.2.1 0, (6, .inl (fun _ => 0))), .inl (w.2.1 0, (6, .inl (fun _ => 0))), .inl (w.2.1 0, (6, .inl (fun _ => 0))), .inl (w.2.1 0, (6, .inl (fun _ => 0))), .inl (w.2.1 0, (6, .inl (fun _ => 0))), eOut w 3 12 (h + 18), .inl (w.2.1 0, (6, .inl (fun _ => 0))), .inl (w.2.1 0, (6, .inl (fun _ => 0))), .inl (w.2.1 0, (6, .inl (fun _ => 0))), .inl (w.2.1 0, (6, .inl (fun _ => 0))), .inl (w.2.1 0, (6, .inl (fun _ => 0))), .inl (w.2.1 0, (6, .inl (fun _ => 0))), .inl (w.2.1 0, (6, .inl (fun _ => 0))), .inl (w.2.1 0, (6, .inl (fun _ => 0))), .inl (w.2.1 0, (6, .inl (fun _ => 0))), .inl (w.2.1 0, (6, .inl (fun _ => 0))), .inl (w.2.1 0, (6, .inl (fun _ => 0))), .inl (w.2.1 0, (6, .inl (fun _ => 0)))]
set_option maxRecDepth 100000 in
set_option maxHeartbeats 4000000 in
theorem X7_c {l : Launch} {w : Wld} {o sz : Nat} : CtC l w yX7_init cX7_init 1 1 [.ref o] o 7 sz [.null, .null, .null, .null, .null, .null, .null, .int 0, .int 0] (X7_fs sz) (X7_ds w) 31 228 := by
  refine CtC_of (own := "PotBook$Pantry") [some (.ref o)] (by decide +kernel) rfl rfl rfl (Nat.le_of_ble_eq_true rfl) ?_
  intro p e s m args below meth c hx hb hml hown hts K hsz ho hin hr hlk
  subst hsz
  have G0 : ∀ kc ns : Nat, kc ≤ 31 → ns ≤ 228 → Cxg p (rmC 1 31 228) s m args meth c cX7_init 1 "PotBook$Pantry" kc ns := fun kc ns h1 h2 => ⟨hx, hb, hml, hown, hts, h1, h2⟩
  refine N_aload_n (i := 0) (G0 _ _ (by decide) (by decide)) eX7_init_0 rfl rfl ?_
  refine C_objInit (G0 _ _ (by decide) (by decide)) oiX7_3 (by decide) (Nat.le_of_ble_eq_true rfl) (by decide) eX7_init_1 ?_
  refine N_aload_n (i := 0) (G0 _ _ (by decide) (by decide)) eX7_init_4 rfl rfl ?_
  refine N_bipush (n := 12) (v := (nI 12)) (G0 _ _ (by decide) (by decide)) eX7_init_5 rfl ?_
  refine L_newarr (n' := 0) (ty := .int) (i := 0) (atype := .int) (N := 12) (z := (12, .inl (fun _ => 0))) (G0 _ _ (by decide) (by decide)) K (by rfl) rfl rfl (fun _ h => h) aw_I (by decide) (by decide) (by decide) (fun _ => rfl) (by decide) (by decide) eX7_init_7 ?_
  refine L_putF (fs' := [.ref (s.heap.size + 0), .null, .null, .null, .null, .null, .null, .int 0, .int 0]) (G0 _ _ (by decide) (by decide)) K hin ho (by rfl) ffX7_9 rfl rfl (by exact Nat.le_of_ble_eq_true rfl) eX7_init_9 ?_
  refine N_aload_n (i := 0) (G0 _ _ (by decide) (by decide)) eX7_init_12 rfl rfl ?_
  refine N_bipush (n := 12) (v := (nI 12)) (G0 _ _ (by decide) (by decide)) eX7_init_13 rfl ?_
  refine L_newarr (n' := 1) (ty := .int) (i := 0) (atype := .int) (N := 12) (z := (12, .inl (fun _ => 0))) (G0 _ _ (by decide) (by decide)) K (by rfl) rfl rfl (fun _ h => h) aw_I (by decide) (by decide) (by decide) (fun _ => rfl) (by decide) (by decide) eX7_init_15 ?_
  refine L_putF (fs' := [.ref (s.heap.size + 0), .ref (s.heap.size + 1), .null, .null, .null, .null, .null, .int 0, .int 0]) (G0 _ _ (by decide) (by decide)) K hin ho (by rfl) ffX7_15 rfl rfl (by exact Nat.le_of_ble_eq_true rfl) eX7_init_17 ?_
  refine N_aload_n (i := 0) (G0 _ _ (by decide) (by decide)) eX7_init_20 rfl rfl ?_
  refine N_bipush (n := 12) (v := (nI 12)) (G0 _ _ (by decide) (by decide)) eX7_init_21 rfl ?_
  refine L_newarr (n' := 2) (ty := .int) (i := 0) (atype := .int) (N := 12) (z := (12, .inl (fun _ => 0))) (G0 _ _ (by decide) (by decide)) K (by rfl) rfl rfl (fun _ h => h) aw_I (by decide) (by decide) (by decide) (fun _ => rfl) (by decide) (by decide) eX7_init_23 ?_
  refine L_putF (fs' := [.ref (s.heap.size + 0), .ref (s.heap.size + 1), .ref (s.heap.size + 2), .null, .null, .null, .null, .int 0, .int 0]) (G0 _ _ (by decide) (by decide)) K hin ho (by rfl) ffX7_18 rfl rfl (by exact Nat.le_of_ble_eq_true rfl) eX7_init_25 ?_
  refine N_aload_n (i := 0) (G0 _ _ (by decide) (by decide)) eX7_init_28 rfl rfl ?_
  refine N_bipush (n := 12) (v := (nI 12)) (G0 _ _ (by decide) (by decide)) eX7_init_29 rfl ?_
  refine L_newarr (n' := 3) (ty := .int) (i := 0) (atype := .int) (N := 12) (z := (12, .inl (fun _ => 0))) (G0 _ _ (by decide) (by decide)) K (by rfl) rfl rfl (fun _ h => h) aw_I (by decide) (by decide) (by decide) (fun _ => rfl) (by decide) (by decide) eX7_init_31 ?_
  refine L_putF (fs' := [.ref (s.heap.size + 0), .ref (s.heap.size + 1), .ref (s.heap.size + 2), .ref (s.heap.size + 3), .null, .null, .null, .int 0, .int 0]) (G0 _ _ (by decide) (by decide)) K hin ho (by rfl) ffX7_21 rfl rfl (by exact Nat.le_of_ble_eq_true rfl) eX7_init_33 ?_
  refine N_aload_n (i := 0) (G0 _ _ (by decide) (by decide)) eX7_init_36 rfl rfl ?_
  refine N_bipush (n := 12) (v := (nI 12)) (G0 _ _ (by decide) (by decide)) eX7_init_37 rfl ?_
  refine L_newarr (n' := 4) (ty := .int) (i := 0) (atype := .int) (N := 12) (z := (12, .inl (fun _ => 0))) (G0 _ _ (by decide) (by decide)) K (by rfl) rfl rfl (fun _ h => h) aw_I (by decide) (by decide) (by decide) (fun _ => rfl) (by decide) (by decide) eX7_init_39 ?_
  refine L_putF (fs' := [.ref (s.heap.size + 0), .ref (s.heap.size + 1), .ref (s.heap.size + 2), .ref (s.heap.size + 3), .ref (s.heap.size + 4), .null, .null, .int 0, .int 0]) (G0 _ _ (by decide) (by decide)) K hin ho (by rfl) ffX7_24 rfl rfl (by exact Nat.le_of_ble_eq_true rfl) eX7_init_41 ?_
  refine N_aload_n (i := 0) (G0 _ _ (by decide) (by decide)) eX7_init_44 rfl rfl ?_
  refine N_bipush (n := 12) (v := (nI 12)) (G0 _ _ (by decide) (by decide)) eX7_init_45 rfl ?_
  refine N_bipush (n := 6) (v := (nI 6)) (G0 _ _ (by decide) (by decide)) eX7_init_47 rfl ?_
  refine L_mna (n' := 5) (ty := .int) (i := 0) (i' := 3) (N := 12) (M := 6) (z := (6, .inl (fun _ => 0))) (G0 _ _ (by decide) (by decide)) K (by rfl) rfl rfl clX7_27 K.2.2.1 aw_I (fun _ h => h) (fun _ h => h) (by decide) (by decide) (by decide) (by decide) (by decide) (by decide) (by decide) rfl rfl (fun _ => inner_i) (by decide) (by decide) eX7_init_49 ?_
  refine L_putF (fs' := [.ref (s.heap.size + 0), .ref (s.heap.size + 1), .ref (s.heap.size + 2), .ref (s.heap.size + 3), .ref (s.heap.size + 4), .ref (s.heap.size + 5), .null, .int 0, .int 0]) (G0 _ _ (by decide) (by decide)) K hin ho (by rfl) ffX7_29 rfl rfl (by exact Nat.le_of_ble_eq_true rfl) eX7_init_53 ?_
  refine N_aload_n (i := 0) (G0 _ _ (by decide) (by decide)) eX7_init_56 rfl rfl ?_
  refine N_bipush (n := 12) (v := (nI 12)) (G0 _ _ (by decide) (by decide)) eX7_init_57 rfl ?_
  refine N_bipush (n := 6) (v := (nI 6)) (G0 _ _ (by decide) (by decide)) eX7_init_59 rfl ?_
  refine L_mna (n' := 18) (ty := .int) (i := 0) (i' := 3) (N := 12) (M := 6) (z := (6, .inl (fun _ => 0))) (G0 _ _ (by decide) (by decide)) K (by rfl) rfl rfl clX7_27 K.2.2.1 aw_I (fun _ h => h) (fun _ h => h) (by decide) (by decide) (by decide) (by decide) (by decide) (by decide) (by decide) rfl rfl (fun _ => inner_i) (by decide) (by decide) eX7_init_61 ?_
  refine L_putF (fs' := [.ref (s.heap.size + 0), .ref (s.heap.size + 1), .ref (s.heap.size + 2), .ref (s.heap.size + 3), .ref (s.heap.size + 4), .ref (s.heap.size + 5), .ref (s.heap.size + 18), .int 0, .int 0]) (G0 _ _ (by decide) (by decide)) K hin ho (by rfl) ffX7_32 rfl rfl (by exact Nat.le_of_ble_eq_true rfl) eX7_init_65 ?_
  exact C_ret (G0 _ _ (by decide) (by decide)) hr hlk rfl eX7_init_68
