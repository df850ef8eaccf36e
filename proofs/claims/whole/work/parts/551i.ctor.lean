def X1_fs (h : Nat) : List Value := [.ref (h + 0), .ref (h + 1), .ref (h + 2), .ref (h + 11), .ref (h + 25), .ref (h + 39), .int 0]
def X1_ds (w : Wld) (h : Nat) : List va_E := [.inl (w.2.1 0, (12, .inl (fun _ => 0))), .inl (w.2.1 0, (12, .inl (fun _ => 0))), eOut w 3 8 (h + 2), arI w 8 (fillF (gSl 0) 8), arI w 8 (fillF (gSl 1) 8), arI w 8 (fillF (gSl 2) 8), arI w 8 (fillF (gSl 3) 8), arI w 8 (fillF (gSl 4) 8), arI w 8 (fillF (gSl 5) 8), arI w 8 (fillF (gSl 6) 8), arI w 8 (fillF (gSl 7) 8), eOut w 3 13 (h + 11), .inl (w.2.1 0, (8, .inl (fun _ => 0))), .inl (w.2.1 0, (8, .inl (fun _ => 0))), .inl (w.2.1 0, (8, .inl (fun _ => 0))), .inl (w.2.1 0, (8, .inl (fun _ => 0))), .inl (w.2.1 0, (8, .inl (fun _ => 0))), .inl (w.2.1 0, (8, .inl (fun _ => 0))), .inl (w.2.1 0, (8, .inl (fun _ => 0))), .inl (w.2.1 0, (8, .inl (fun _ => 0))), .inl (w.2.1 0, (8, .inl (fun _ => 0))), .inl (w.2.1 0, (8, .inl (fun _ => 0))), .inl (w.2.1 0, (8, .inl (fun _ => 0))), .inl (w.2.1 0, (8, .inl (fun _ => 0))), .inl (w.2.1 0, (8, .inl (fun _ => 0))), eOut w 4 13 (h + 25), .inl (w.2.1 2, (8, .inr (.inl (fun _ => 0)))), .inl (w.2.1 2, (8, .inr (.inl (fun _ => 0)))), .inl (w.2.1 2, (8, .inr (.inl (fun _ => 0)))), .inl (w.2.1 2, (8, .inr (.inl (fun _ => 0)))), .inl (w.2.1 2, (8, .inr (.inl (fun _ => 0)))), .inl (w.2.1 2, (8, .inr (.inl (fun _ => 0)))), .inl (w.2.1 2, (8, .inr (.inl (fun _ => 0)))), .inl (w.2.1 2, (8, .inr (.inl (fun _ => 0)))), .inl (w.2.1 2, (8, .inr (.inl (fun _ => 0)))), .inl (w.2.1 2, (8, .inr (.inl (fun _ => 0)))), .inl (w.2.1 2, (8, .inr (.inl (fun _ => 0)))), .inl (w.2.1 2, (8, .inr (.inl (fun _ => 0)))), .inl (w.2.1 2, (8, .inr (.inl (fun _ => 0)))), .inl (w.2.1 0, (13, .inl (fun _ => 0)))]
set_option maxRecDepth 100000 in
set_option maxHeartbeats 4000000 in
theorem X1_c {l : Launch} {w : Wld} {o sz : Nat} : CtC l w yX1_init cX1_init 3 1 [.ref o] o 1 sz [.null, .null, .null, .null, .null, .null, .int 0] (X1_fs sz) (X1_ds w) 40 343 := by
  refine CtC_of (own := "PotBook$Copies") [some (.ref o), none, none] (by decide +kernel) rfl rfl rfl (Nat.le_of_ble_eq_true rfl) ?_
  intro p e s m args below meth c hx hb hml hown hts K hsz ho hin hr hlk
  subst hsz
  have G0 : ∀ kc ns : Nat, kc ≤ 40 → ns ≤ 343 → Cxg p (rmC 1 40 343) s m args meth c cX1_init 3 "PotBook$Copies" kc ns := fun kc ns h1 h2 => ⟨hx, hb, hml, hown, hts, h1, h2⟩
  refine N_aload_n (i := 0) (G0 _ _ (by decide) (by decide)) eX1_init_0 rfl rfl ?_
  refine C_objInit (G0 _ _ (by decide) (by decide)) oiX1_3 (by decide) (Nat.le_of_ble_eq_true rfl) (by decide) eX1_init_1 ?_
  refine N_aload_n (i := 0) (G0 _ _ (by decide) (by decide)) eX1_init_4 rfl rfl ?_
  refine N_bipush (n := 12) (v := (nI 12)) (G0 _ _ (by decide) (by decide)) eX1_init_5 rfl ?_
  refine L_newarr (n' := 0) (ty := .int) (i := 0) (atype := .int) (N := 12) (z := (12, .inl (fun _ => 0))) (G0 _ _ (by decide) (by decide)) K (by rfl) rfl rfl (fun _ h => h) aw_I (by decide) (by decide) (by decide) (fun _ => rfl) (by decide) (by decide) eX1_init_7 ?_
  refine L_putF (fs' := [.ref (s.heap.size + 0), .null, .null, .null, .null, .null, .int 0]) (G0 _ _ (by decide) (by decide)) K hin ho (by rfl) ffX1_9 rfl rfl (by exact Nat.le_of_ble_eq_true rfl) eX1_init_9 ?_
  refine N_aload_n (i := 0) (G0 _ _ (by decide) (by decide)) eX1_init_12 rfl rfl ?_
  refine N_bipush (n := 12) (v := (nI 12)) (G0 _ _ (by decide) (by decide)) eX1_init_13 rfl ?_
  refine L_newarr (n' := 1) (ty := .int) (i := 0) (atype := .int) (N := 12) (z := (12, .inl (fun _ => 0))) (G0 _ _ (by decide) (by decide)) K (by rfl) rfl rfl (fun _ h => h) aw_I (by decide) (by decide) (by decide) (fun _ => rfl) (by decide) (by decide) eX1_init_15 ?_
  refine L_putF (fs' := [.ref (s.heap.size + 0), .ref (s.heap.size + 1), .null, .null, .null, .null, .int 0]) (G0 _ _ (by decide) (by decide)) K hin ho (by rfl) ffX1_15 rfl rfl (by exact Nat.le_of_ble_eq_true rfl) eX1_init_17 ?_
  refine N_aload_n (i := 0) (G0 _ _ (by decide) (by decide)) eX1_init_20 rfl rfl ?_
  refine N_bipush (n := 8) (v := (nI 8)) (G0 _ _ (by decide) (by decide)) eX1_init_21 rfl ?_
  refine N_bipush (n := 8) (v := (nI 8)) (G0 _ _ (by decide) (by decide)) eX1_init_23 rfl ?_
  refine L_mna (n' := 2) (ty := .int) (i := 0) (i' := 3) (N := 8) (M := 8) (z := (8, .inl (fun _ => 0))) (G0 _ _ (by decide) (by decide)) K (by rfl) rfl rfl clX1_18 K.2.2.1 aw_I (fun _ h => h) (fun _ h => h) (by decide) (by decide) (by decide) (by decide) (by decide) (by decide) (by decide) rfl rfl (fun _ => inner_i) (by decide) (by decide) eX1_init_25 ?_
  refine L_putF (fs' := [.ref (s.heap.size + 0), .ref (s.heap.size + 1), .ref (s.heap.size + 2), .null, .null, .null, .int 0]) (G0 _ _ (by decide) (by decide)) K hin ho (by rfl) ffX1_20 rfl rfl (by exact Nat.le_of_ble_eq_true rfl) eX1_init_29 ?_
  refine N_aload_n (i := 0) (G0 _ _ (by decide) (by decide)) eX1_init_32 rfl rfl ?_
  refine N_bipush (n := 13) (v := (nI 13)) (G0 _ _ (by decide) (by decide)) eX1_init_33 rfl ?_
  refine N_bipush (n := 8) (v := (nI 8)) (G0 _ _ (by decide) (by decide)) eX1_init_35 rfl ?_
  refine L_mna (n' := 11) (ty := .int) (i := 0) (i' := 3) (N := 13) (M := 8) (z := (8, .inl (fun _ => 0))) (G0 _ _ (by decide) (by decide)) K (by rfl) rfl rfl clX1_18 K.2.2.1 aw_I (fun _ h => h) (fun _ h => h) (by decide) (by decide) (by decide) (by decide) (by decide) (by decide) (by decide) rfl rfl (fun _ => inner_i) (by decide) (by decide) eX1_init_37 ?_
  refine L_putF (fs' := [.ref (s.heap.size + 0), .ref (s.heap.size + 1), .ref (s.heap.size + 2), .ref (s.heap.size + 11), .null, .null, .int 0]) (G0 _ _ (by decide) (by decide)) K hin ho (by rfl) ffX1_23 rfl rfl (by exact Nat.le_of_ble_eq_true rfl) eX1_init_41 ?_
  refine N_aload_n (i := 0) (G0 _ _ (by decide) (by decide)) eX1_init_44 rfl rfl ?_
  refine N_bipush (n := 13) (v := (nI 13)) (G0 _ _ (by decide) (by decide)) eX1_init_45 rfl ?_
  refine N_bipush (n := 8) (v := (nI 8)) (G0 _ _ (by decide) (by decide)) eX1_init_47 rfl ?_
  refine L_mna (n' := 25) (ty := .long) (i := 2) (i' := 4) (N := 13) (M := 8) (z := (8, .inr (.inl (fun _ => 0)))) (G0 _ _ (by decide) (by decide)) K (by rfl) rfl rfl clX1_26 K.2.2.2 aw_J (fun _ h => h) (fun _ h => h) (by decide) (by decide) (by decide) (by decide) (by decide) (by decide) (by decide) rfl rfl (fun _ => inner_l) (by decide) (by decide) eX1_init_49 ?_
  refine L_putF (fs' := [.ref (s.heap.size + 0), .ref (s.heap.size + 1), .ref (s.heap.size + 2), .ref (s.heap.size + 11), .ref (s.heap.size + 25), .null, .int 0]) (G0 _ _ (by decide) (by decide)) K hin ho (by rfl) ffX1_28 rfl rfl (by exact Nat.le_of_ble_eq_true rfl) eX1_init_53 ?_
  refine N_aload_n (i := 0) (G0 _ _ (by decide) (by decide)) eX1_init_56 rfl rfl ?_
  refine N_bipush (n := 13) (v := (nI 13)) (G0 _ _ (by decide) (by decide)) eX1_init_57 rfl ?_
  refine L_newarr (n' := 39) (ty := .int) (i := 0) (atype := .int) (N := 13) (z := (13, .inl (fun _ => 0))) (G0 _ _ (by decide) (by decide)) K (by rfl) rfl rfl (fun _ h => h) aw_I (by decide) (by decide) (by decide) (fun _ => rfl) (by decide) (by decide) eX1_init_59 ?_
  refine L_putF (fs' := [.ref (s.heap.size + 0), .ref (s.heap.size + 1), .ref (s.heap.size + 2), .ref (s.heap.size + 11), .ref (s.heap.size + 25), .ref (s.heap.size + 39), .int 0]) (G0 _ _ (by decide) (by decide)) K hin ho (by rfl) ffX1_31 rfl rfl (by exact Nat.le_of_ble_eq_true rfl) eX1_init_61 ?_
  refine N_iconst (n := 0) (v := (nI 0)) (G0 _ _ (by decide) (by decide)) eX1_init_64 rfl ?_
  refine N_istoreA_n (i := 1) (L' := [some (.ref o), some (.int (nI 0)), none]) (G0 _ _ (by decide) (by decide)) rfl eX1_init_65 (by decide) rfl rfl ?_
  refine lpX1 (q := 2) (G0 _ _ (by decide) (by decide)) K ho ggX1_20 (by rfl) (by rfl) (fun i hi => match i, hi with | 0, _ => rfl | 1, _ => rfl | 2, _ => rfl | 3, _ => rfl | 4, _ => rfl | 5, _ => rfl | 6, _ => rfl | 7, _ => rfl | n + 8, h => absurd h (by omega)) (fun z => ?_)
  exact C_ret (G0 _ _ (by decide) (by decide)) hr hlk rfl eX1_init_111
