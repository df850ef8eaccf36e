def X9_fs (h : Nat) : List Value := [.ref (h + 0), .int 0, .int 0, .int (-1)]
def X9_ds (w : Wld) (h : Nat) : List va_E := [.inl (w.2.1 0, (120, .inl (fun _ => 0)))]
set_option maxRecDepth 100000 in
set_option maxHeartbeats 4000000 in
theorem X9_c {l : Launch} {w : Wld} {o sz : Nat} : CtC l w yX9_init cX9_init 1 1 [.ref o] o 9 sz [.null, .int 0, .int 0, .int 0] (X9_fs sz) (X9_ds w) 1 120 := by
  refine CtC_of (own := "PotBook$Tape") [some (.ref o)] (by decide +kernel) rfl rfl rfl (Nat.le_of_ble_eq_true rfl) ?_
  intro p e s m args below meth c hx hb hml hown hts K hsz ho hin hr hlk
  subst hsz
  have G0 : ∀ kc ns : Nat, kc ≤ 1 → ns ≤ 120 → Cxg p (rmC 1 1 120) s m args meth c cX9_init 1 "PotBook$Tape" kc ns := fun kc ns h1 h2 => ⟨hx, hb, hml, hown, hts, h1, h2⟩
  refine N_aload_n (i := 0) (G0 _ _ (by decide) (by decide)) eX9_init_0 rfl rfl ?_
  refine C_objInit (G0 _ _ (by decide) (by decide)) oiX9_3 (by decide) (Nat.le_of_ble_eq_true rfl) (by decide) eX9_init_1 ?_
  refine N_aload_n (i := 0) (G0 _ _ (by decide) (by decide)) eX9_init_4 rfl rfl ?_
  refine N_bipush (n := 120) (v := (nI 120)) (G0 _ _ (by decide) (by decide)) eX9_init_5 rfl ?_
  refine C_newarr (ty := .int) (i := 0) (atype := .int) (N := 120) (z := (120, .inl (fun _ => 0))) (G0 _ _ (by decide) (by decide)) K rfl rfl (fun _ h => h) aw_I (by decide) (by decide) (by decide) (fun _ => rfl) (by decide) (by decide) eX9_init_7 ?_
  refine C_putF (G0 _ _ (by decide) (by decide)) K hin ho ffX9_9 rfl rfl (by exact Nat.le_of_ble_eq_true rfl) eX9_init_9 ?_
  refine N_aload_n (i := 0) (G0 _ _ (by decide) (by decide)) eX9_init_12 rfl rfl ?_
  refine N_iconst (n := -1) (v := (-1)) (G0 _ _ (by decide) (by decide)) eX9_init_13 rfl ?_
  refine C_put (x := (-1)) (G0 _ _ (by decide) (by decide)) K ho gnX9_15 fq_9_3 (by exact Nat.le_of_ble_eq_true rfl) eX9_init_14 ?_
  exact C_ret (G0 _ _ (by decide) (by decide)) hr hlk rfl eX9_init_17
def X7_fs (h : Nat) : List Value := [.ref (h + 0), .ref (h + 1), .ref (h + 2), .ref (h + 3), .ref (h + 4), .ref (h + 5), .ref (h + 18), .int 0, .int 0]
def X7_ds (w : Wld) (h : Nat) : List va_E := [.inl (w.2.1 0, (12, .inl (fun _ => 0))), .inl (w.2.1 0, (12, .inl (fun _ => 0))), .inl (w.2.1 0, (12, .inl (fun _ => 0))), .inl (w.2.1 0, (12, .inl (fun _ => 0))), .inl (w.2.1 0, (12, .inl (fun _ => 0))), eOut w 3 12 (h + 5), .inl (w.2.1 0, (6, .inl (fun _ => 0))), .inl (w.2.1 0, (6, .inl (fun _ => 0))), .inl (w.2.1 0, (6, .inl (fun _ => 0))), .inl (w.2.1 0, (6, .inl (fun _ => 0))), .inl (w.2.1 0, (6, .inl (fun _ => 0))), .inl (w.2.1 0, (6, .inl (fun _ => 0))), .inl (w.2.1 0, (6, .inl (fun _ => 0))), .inl (w.2.1 0, (6, .inl (fun _ => 0))), .inl (w.2.1 0, (6, .inl (fun _ => 0))), .inl (w.2.1 0, (6, .inl (fun _ => 0))), .inl (w.2.1 0, (6, .inl (fun _ => 0))), .inl (w.2.1 0, (6, .inl (fun _ => 0))), eOut w 3 12 (h + 18), .inl (w.2.1 0, (6, .inl (fun _ => 0))), .inl (w.2.1 0, (6, .inl (fun _ => 0))), .inl (w.2.1 0, (6, .inl (fun _ => 0))), .inl (w.2.1 0, (6, .inl (fun _ => 0))), .inl (w.2.1 0, (6, .inl (fun _ => 0))), .inl (w.2.1 0, (6, .inl (fun _ => 0))), .inl (w.2.1 0, (6, .inl (fun _ => 0))), .inl (w.2.1 0, (6, .inl (fun _ => 0))), .inl (w.2.1 0, (6, .inl (fun _ => 0))), .inl (w.2.1 0, (6, .inl (fun _ => 0))), .inl (w.2.1 0, (6, .inl (fun _ => 0))), .inl (w.2.1 0, (6, .inl (fun _ => 0)))]
set_option maxRecDepth 100000 in
set_option maxHeartbeats 4000000 in
theorem X7_c {l : Launch} {w : Wld} {o sz : Nat} : CtC l w yX7_init cX7_init 1 1 [.ref o] o 7 sz [.null, .null, .null, .null, .null, .null, .null, .int 0, .int 0] (X7_fs sz) (X7_ds w) 31 228 := by
  refine CtC_of (own := "PotBook$Pantry") [some (.ref o)] (by decide +kernel) rfl rfl rfl (Nat.le_of_ble_eq_true rfl) ?_
  intro p e s m args below meth c hx hb hml hown hts K hsz ho hin hr hlk
  subst hsz
  have G0 : ∀ kc ns : Nat, kc ≤ 31 → ns ≤ 228 → Cxg p (rmC 1 31 228) s m args meth c cX7_init 1 "PotBook$Pantry" kc ns := fun kc ns h1 h2 => ⟨hx, hb, hml, hown, hts, h1, h2⟩
  refine N_aload_n (i := 0) (G0 _ _ (by decide) (by decide)) eX7_init_0 rfl rfl ?_
  refine C_objInit (G0 _ _ (by decide) (by decide)) oiX7_3 (by decide) (Nat.le_of_ble_eq_true rfl) (by decide) eX7_init_1 ?_
  refine N_aload_n (i := 0) (G0 _ _ (by decide) (by decide)) eX7_init_4 rfl rfl ?_
  refine N_bipush (n := 12) (v := (nI 12)) (G0 _ _ (by decide) (by decide)) eX7_init_5 rfl ?_
  refine C_newarr (ty := .int) (i := 0) (atype := .int) (N := 12) (z := (12, .inl (fun _ => 0))) (G0 _ _ (by decide) (by decide)) K rfl rfl (fun _ h => h) aw_I (by decide) (by decide) (by decide) (fun _ => rfl) (by decide) (by decide) eX7_init_7 ?_
  refine C_putF (G0 _ _ (by decide) (by decide)) K hin ho ffX7_9 rfl rfl (by exact Nat.le_of_ble_eq_true rfl) eX7_init_9 ?_
  refine N_aload_n (i := 0) (G0 _ _ (by decide) (by decide)) eX7_init_12 rfl rfl ?_
  refine N_bipush (n := 12) (v := (nI 12)) (G0 _ _ (by decide) (by decide)) eX7_init_13 rfl ?_
  refine C_newarr (ty := .int) (i := 0) (atype := .int) (N := 12) (z := (12, .inl (fun _ => 0))) (G0 _ _ (by decide) (by decide)) K rfl rfl (fun _ h => h) aw_I (by decide) (by decide) (by decide) (fun _ => rfl) (by decide) (by decide) eX7_init_15 ?_
  refine C_putF (G0 _ _ (by decide) (by decide)) K hin ho ffX7_15 rfl rfl (by exact Nat.le_of_ble_eq_true rfl) eX7_init_17 ?_
  refine N_aload_n (i := 0) (G0 _ _ (by decide) (by decide)) eX7_init_20 rfl rfl ?_
  refine N_bipush (n := 12) (v := (nI 12)) (G0 _ _ (by decide) (by decide)) eX7_init_21 rfl ?_
  refine C_newarr (ty := .int) (i := 0) (atype := .int) (N := 12) (z := (12, .inl (fun _ => 0))) (G0 _ _ (by decide) (by decide)) K rfl rfl (fun _ h => h) aw_I (by decide) (by decide) (by decide) (fun _ => rfl) (by decide) (by decide) eX7_init_23 ?_
  refine C_putF (G0 _ _ (by decide) (by decide)) K hin ho ffX7_18 rfl rfl (by exact Nat.le_of_ble_eq_true rfl) eX7_init_25 ?_
  refine N_aload_n (i := 0) (G0 _ _ (by decide) (by decide)) eX7_init_28 rfl rfl ?_
  refine N_bipush (n := 12) (v := (nI 12)) (G0 _ _ (by decide) (by decide)) eX7_init_29 rfl ?_
  refine C_newarr (ty := .int) (i := 0) (atype := .int) (N := 12) (z := (12, .inl (fun _ => 0))) (G0 _ _ (by decide) (by decide)) K rfl rfl (fun _ h => h) aw_I (by decide) (by decide) (by decide) (fun _ => rfl) (by decide) (by decide) eX7_init_31 ?_
  refine C_putF (G0 _ _ (by decide) (by decide)) K hin ho ffX7_21 rfl rfl (by exact Nat.le_of_ble_eq_true rfl) eX7_init_33 ?_
  refine N_aload_n (i := 0) (G0 _ _ (by decide) (by decide)) eX7_init_36 rfl rfl ?_
  refine N_bipush (n := 12) (v := (nI 12)) (G0 _ _ (by decide) (by decide)) eX7_init_37 rfl ?_
  refine C_newarr (ty := .int) (i := 0) (atype := .int) (N := 12) (z := (12, .inl (fun _ => 0))) (G0 _ _ (by decide) (by decide)) K rfl rfl (fun _ h => h) aw_I (by decide) (by decide) (by decide) (fun _ => rfl) (by decide) (by decide) eX7_init_39 ?_
  refine C_putF (G0 _ _ (by decide) (by decide)) K hin ho ffX7_24 rfl rfl (by exact Nat.le_of_ble_eq_true rfl) eX7_init_41 ?_
  refine N_aload_n (i := 0) (G0 _ _ (by decide) (by decide)) eX7_init_44 rfl rfl ?_
  refine N_bipush (n := 12) (v := (nI 12)) (G0 _ _ (by decide) (by decide)) eX7_init_45 rfl ?_
  refine N_bipush (n := 6) (v := (nI 6)) (G0 _ _ (by decide) (by decide)) eX7_init_47 rfl ?_
  refine C_mna (ty := .int) (i := 0) (i' := 3) (N := 12) (M := 6) (z := (6, .inl (fun _ => 0))) (G0 _ _ (by decide) (by decide)) K rfl rfl clX7_27 K.2.2.1 aw_I (fun _ h => h) (fun _ h => h) (by decide) (by decide) (by decide) (by decide) (by decide) (by decide) (by decide) rfl rfl (fun _ => inner_i) (by decide) (by decide) eX7_init_49 ?_
  refine C_putF (G0 _ _ (by decide) (by decide)) K hin ho ffX7_29 rfl rfl (by exact Nat.le_of_ble_eq_true rfl) eX7_init_53 ?_
  refine N_aload_n (i := 0) (G0 _ _ (by decide) (by decide)) eX7_init_56 rfl rfl ?_
  refine N_bipush (n := 12) (v := (nI 12)) (G0 _ _ (by decide) (by decide)) eX7_init_57 rfl ?_
  refine N_bipush (n := 6) (v := (nI 6)) (G0 _ _ (by decide) (by decide)) eX7_init_59 rfl ?_
  refine C_mna (ty := .int) (i := 0) (i' := 3) (N := 12) (M := 6) (z := (6, .inl (fun _ => 0))) (G0 _ _ (by decide) (by decide)) K rfl rfl clX7_27 K.2.2.1 aw_I (fun _ h => h) (fun _ h => h) (by decide) (by decide) (by decide) (by decide) (by decide) (by decide) (by decide) rfl rfl (fun _ => inner_i) (by decide) (by decide) eX7_init_61 ?_
  refine C_putF (G0 _ _ (by decide) (by decide)) K hin ho ffX7_32 rfl rfl (by exact Nat.le_of_ble_eq_true rfl) eX7_init_65 ?_
  exact C_ret (G0 _ _ (by decide) (by decide)) hr hlk rfl eX7_init_68
def X6_fs (h : Nat) (a1 : Nat) (a2 : Nat) : List Value := [.ref a1, .ref a2, .ref (h + 0), .ref (h + 1), .ref (h + 19), .ref (h + 37), .ref (h + 55), .ref (h + 56), .ref (h + 57), .ref (h + 75), .ref (h + 76), .ref (h + 94), .int 0]
def X6_ds (w : Wld) (h : Nat) : List va_E := [.inl (w.2.1 0, (17, .inl (fun _ => 0))), eOut w 3 17 (h + 1), .inl (w.2.1 0, (8, .inl (fun _ => 0))), .inl (w.2.1 0, (8, .inl (fun _ => 0))), .inl (w.2.1 0, (8, .inl (fun _ => 0))), .inl (w.2.1 0, (8, .inl (fun _ => 0))), .inl (w.2.1 0, (8, .inl (fun _ => 0))), .inl (w.2.1 0, (8, .inl (fun _ => 0))), .inl (w.2.1 0, (8, .inl (fun _ => 0))), .inl (w.2.1 0, (8, .inl (fun _ => 0))), .inl (w.2.1 0, (8, .inl (fun _ => 0))), .inl (w.2.1 0, (8, .inl (fun _ => 0))), .inl (w.2.1 0, (8, .inl (fun _ => 0))), .inl (w.2.1 0, (8, .inl (fun _ => 0))), .inl (w.2.1 0, (8, .inl (fun _ => 0))), .inl (w.2.1 0, (8, .inl (fun _ => 0))), .inl (w.2.1 0, (8, .inl (fun _ => 0))), .inl (w.2.1 0, (8, .inl (fun _ => 0))), .inl (w.2.1 0, (8, .inl (fun _ => 0))), eOut w 3 17 (h + 19), .inl (w.2.1 0, (8, .inl (fun _ => 0))), .inl (w.2.1 0, (8, .inl (fun _ => 0))), .inl (w.2.1 0, (8, .inl (fun _ => 0))), .inl (w.2.1 0, (8, .inl (fun _ => 0))), .inl (w.2.1 0, (8, .inl (fun _ => 0))), .inl (w.2.1 0, (8, .inl (fun _ => 0))), .inl (w.2.1 0, (8, .inl (fun _ => 0))), .inl (w.2.1 0, (8, .inl (fun _ => 0))), .inl (w.2.1 0, (8, .inl (fun _ => 0))), .inl (w.2.1 0, (8, .inl (fun _ => 0))), .inl (w.2.1 0, (8, .inl (fun _ => 0))), .inl (w.2.1 0, (8, .inl (fun _ => 0))), .inl (w.2.1 0, (8, .inl (fun _ => 0))), .inl (w.2.1 0, (8, .inl (fun _ => 0))), .inl (w.2.1 0, (8, .inl (fun _ => 0))), .inl (w.2.1 0, (8, .inl (fun _ => 0))), .inl (w.2.1 0, (8, .inl (fun _ => 0))), eOut w 3 17 (h + 37), .inl (w.2.1 0, (8, .inl (fun _ => 0))), .inl (w.2.1 0, (8, .inl (fun _ => 0))), .inl (w.2.1 0, (8, .inl (fun _ => 0))), .inl (w.2.1 0, (8, .inl (fun _ => 0))), .inl (w.2.1 0, (8, .inl (fun _ => 0))), .inl (w.2.1 0, (8, .inl (fun _ => 0))), .inl (w.2.1 0, (8, .inl (fun _ => 0))), .inl (w.2.1 0, (8, .inl (fun _ => 0))), .inl (w.2.1 0, (8, .inl (fun _ => 0))), .inl (w.2.1 0, (8, .inl (fun _ => 0))), .inl (w.2.1 0, (8, .inl (fun _ => 0))), .inl (w.2.1 0, (8, .inl (fun _ => 0))), .inl (w.2.1 0, (8, .inl (fun _ => 0))), .inl (w.2.1 0, (8, .inl (fun _ => 0))), .inl (w.2.1 0, (8, .inl (fun _ => 0))), .inl (w.2.1 0, (8, .inl (fun _ => 0))), .inl (w.2.1 0, (8, .inl (fun _ => 0))), .inl (w.2.1 0, (17, .inl (fun _ => 0))), .inl (w.2.1 0, (17, .inl (fun _ => 0))), eOut w 3 17 (h + 57), .inl (w.2.1 0, (72, .inl (fun _ => 0))), .inl (w.2.1 0, (72, .inl (fun _ => 0))), .inl (w.2.1 0, (72, .inl (fun _ => 0))), .inl (w.2.1 0, (72, .inl (fun _ => 0))), .inl (w.2.1 0, (72, .inl (fun _ => 0))), .inl (w.2.1 0, (72, .inl (fun _ => 0))), .inl (w.2.1 0, (72, .inl (fun _ => 0))), .inl (w.2.1 0, (72, .inl (fun _ => 0))), .inl (w.2.1 0, (72, .inl (fun _ => 0))), .inl (w.2.1 0, (72, .inl (fun _ => 0))), .inl (w.2.1 0, (72, .inl (fun _ => 0))), .inl (w.2.1 0, (72, .inl (fun _ => 0))), .inl (w.2.1 0, (72, .inl (fun _ => 0))), .inl (w.2.1 0, (72, .inl (fun _ => 0))), .inl (w.2.1 0, (72, .inl (fun _ => 0))), .inl (w.2.1 0, (72, .inl (fun _ => 0))), .inl (w.2.1 0, (72, .inl (fun _ => 0))), .inl (w.2.1 0, (17, .inl (fun _ => 0))), eOut w 3 17 (h + 76), .inl (w.2.1 0, (4, .inl (fun _ => 0))), .inl (w.2.1 0, (4, .inl (fun _ => 0))), .inl (w.2.1 0, (4, .inl (fun _ => 0))), .inl (w.2.1 0, (4, .inl (fun _ => 0))), .inl (w.2.1 0, (4, .inl (fun _ => 0))), .inl (w.2.1 0, (4, .inl (fun _ => 0))), .inl (w.2.1 0, (4, .inl (fun _ => 0))), .inl (w.2.1 0, (4, .inl (fun _ => 0))), .inl (w.2.1 0, (4, .inl (fun _ => 0))), .inl (w.2.1 0, (4, .inl (fun _ => 0))), .inl (w.2.1 0, (4, .inl (fun _ => 0))), .inl (w.2.1 0, (4, .inl (fun _ => 0))), .inl (w.2.1 0, (4, .inl (fun _ => 0))), .inl (w.2.1 0, (4, .inl (fun _ => 0))), .inl (w.2.1 0, (4, .inl (fun _ => 0))), .inl (w.2.1 0, (4, .inl (fun _ => 0))), .inl (w.2.1 0, (4, .inl (fun _ => 0))), .inl (w.2.1 0, (17, .inl (fun _ => 0)))]
set_option maxRecDepth 100000 in
set_option maxHeartbeats 4000000 in
theorem X6_c {l : Launch} {w : Wld} {o sz a1 a2 : Nat} : CtC l w yX6_init cX6_init 3 1 [.ref o, .ref a1, .ref a2] o 6 sz [.null, .null, .null, .null, .null, .null, .null, .null, .null, .null, .null, .null, .int 0] (X6_fs sz a1 a2) (X6_ds w) 95 1870 := by
  refine CtC_of (own := "PotBook$Pages") [some (.ref o), some (.ref a1), some (.ref a2)] (by decide +kernel) rfl rfl rfl (Nat.le_of_ble_eq_true rfl) ?_
  intro p e s m args below meth c hx hb hml hown hts K hsz ho hin hr hlk
  subst hsz
  have G0 : ∀ kc ns : Nat, kc ≤ 95 → ns ≤ 1870 → Cxg p (rmC 1 95 1870) s m args meth c cX6_init 3 "PotBook$Pages" kc ns := fun kc ns h1 h2 => ⟨hx, hb, hml, hown, hts, h1, h2⟩
  refine N_aload_n (i := 0) (G0 _ _ (by decide) (by decide)) eX6_init_0 rfl rfl ?_
  refine C_objInit (G0 _ _ (by decide) (by decide)) oiX6_3 (by decide) (Nat.le_of_ble_eq_true rfl) (by decide) eX6_init_1 ?_
  refine N_aload_n (i := 0) (G0 _ _ (by decide) (by decide)) eX6_init_4 rfl rfl ?_
  refine N_bipush (n := 17) (v := (nI 17)) (G0 _ _ (by decide) (by decide)) eX6_init_5 rfl ?_
  refine C_newarr (ty := .int) (i := 0) (atype := .int) (N := 17) (z := (17, .inl (fun _ => 0))) (G0 _ _ (by decide) (by decide)) K rfl rfl (fun _ h => h) aw_I (by decide) (by decide) (by decide) (fun _ => rfl) (by decide) (by decide) eX6_init_7 ?_
  refine C_putF (G0 _ _ (by decide) (by decide)) K hin ho ffX6_9 rfl rfl (by exact Nat.le_of_ble_eq_true rfl) eX6_init_9 ?_
  refine N_aload_n (i := 0) (G0 _ _ (by decide) (by decide)) eX6_init_12 rfl rfl ?_
  refine N_bipush (n := 17) (v := (nI 17)) (G0 _ _ (by decide) (by decide)) eX6_init_13 rfl ?_
  refine N_bipush (n := 8) (v := (nI 8)) (G0 _ _ (by decide) (by decide)) eX6_init_15 rfl ?_
  refine C_mna (ty := .int) (i := 0) (i' := 3) (N := 17) (M := 8) (z := (8, .inl (fun _ => 0))) (G0 _ _ (by decide) (by decide)) K rfl rfl clX6_15 K.2.2.1 aw_I (fun _ h => h) (fun _ h => h) (by decide) (by decide) (by decide) (by decide) (by decide) (by decide) (by decide) rfl rfl (fun _ => inner_i) (by decide) (by decide) eX6_init_17 ?_
  refine C_putF (G0 _ _ (by decide) (by decide)) K hin ho ffX6_17 rfl rfl (by exact Nat.le_of_ble_eq_true rfl) eX6_init_21 ?_
  refine N_aload_n (i := 0) (G0 _ _ (by decide) (by decide)) eX6_init_24 rfl rfl ?_
  refine N_bipush (n := 17) (v := (nI 17)) (G0 _ _ (by decide) (by decide)) eX6_init_25 rfl ?_
  refine N_bipush (n := 8) (v := (nI 8)) (G0 _ _ (by decide) (by decide)) eX6_init_27 rfl ?_
  refine C_mna (ty := .int) (i := 0) (i' := 3) (N := 17) (M := 8) (z := (8, .inl (fun _ => 0))) (G0 _ _ (by decide) (by decide)) K rfl rfl clX6_15 K.2.2.1 aw_I (fun _ h => h) (fun _ h => h) (by decide) (by decide) (by decide) (by decide) (by decide) (by decide) (by decide) rfl rfl (fun _ => inner_i) (by decide) (by decide) eX6_init_29 ?_
  refine C_putF (G0 _ _ (by decide) (by decide)) K hin ho ffX6_20 rfl rfl (by exact Nat.le_of_ble_eq_true rfl) eX6_init_33 ?_
  refine N_aload_n (i := 0) (G0 _ _ (by decide) (by decide)) eX6_init_36 rfl rfl ?_
  refine N_bipush (n := 17) (v := (nI 17)) (G0 _ _ (by decide) (by decide)) eX6_init_37 rfl ?_
  refine N_bipush (n := 8) (v := (nI 8)) (G0 _ _ (by decide) (by decide)) eX6_init_39 rfl ?_
  refine C_mna (ty := .int) (i := 0) (i' := 3) (N := 17) (M := 8) (z := (8, .inl (fun _ => 0))) (G0 _ _ (by decide) (by decide)) K rfl rfl clX6_15 K.2.2.1 aw_I (fun _ h => h) (fun _ h => h) (by decide) (by decide) (by decide) (by decide) (by decide) (by decide) (by decide) rfl rfl (fun _ => inner_i) (by decide) (by decide) eX6_init_41 ?_
  refine C_putF (G0 _ _ (by decide) (by decide)) K hin ho ffX6_23 rfl rfl (by exact Nat.le_of_ble_eq_true rfl) eX6_init_45 ?_
  refine N_aload_n (i := 0) (G0 _ _ (by decide) (by decide)) eX6_init_48 rfl rfl ?_
  refine N_bipush (n := 17) (v := (nI 17)) (G0 _ _ (by decide) (by decide)) eX6_init_49 rfl ?_
  refine C_newarr (ty := .int) (i := 0) (atype := .int) (N := 17) (z := (17, .inl (fun _ => 0))) (G0 _ _ (by decide) (by decide)) K rfl rfl (fun _ h => h) aw_I (by decide) (by decide) (by decide) (fun _ => rfl) (by decide) (by decide) eX6_init_51 ?_
  refine C_putF (G0 _ _ (by decide) (by decide)) K hin ho ffX6_26 rfl rfl (by exact Nat.le_of_ble_eq_true rfl) eX6_init_53 ?_
  refine N_aload_n (i := 0) (G0 _ _ (by decide) (by decide)) eX6_init_56 rfl rfl ?_
  refine N_bipush (n := 17) (v := (nI 17)) (G0 _ _ (by decide) (by decide)) eX6_init_57 rfl ?_
  refine C_newarr (ty := .int) (i := 0) (atype := .int) (N := 17) (z := (17, .inl (fun _ => 0))) (G0 _ _ (by decide) (by decide)) K rfl rfl (fun _ h => h) aw_I (by decide) (by decide) (by decide) (fun _ => rfl) (by decide) (by decide) eX6_init_59 ?_
  refine C_putF (G0 _ _ (by decide) (by decide)) K hin ho ffX6_29 rfl rfl (by exact Nat.le_of_ble_eq_true rfl) eX6_init_61 ?_
  refine N_aload_n (i := 0) (G0 _ _ (by decide) (by decide)) eX6_init_64 rfl rfl ?_
  refine N_bipush (n := 17) (v := (nI 17)) (G0 _ _ (by decide) (by decide)) eX6_init_65 rfl ?_
  refine N_bipush (n := 72) (v := (nI 72)) (G0 _ _ (by decide) (by decide)) eX6_init_67 rfl ?_
  refine C_mna (ty := .int) (i := 0) (i' := 3) (N := 17) (M := 72) (z := (72, .inl (fun _ => 0))) (G0 _ _ (by decide) (by decide)) K rfl rfl clX6_15 K.2.2.1 aw_I (fun _ h => h) (fun _ h => h) (by decide) (by decide) (by decide) (by decide) (by decide) (by decide) (by decide) rfl rfl (fun _ => inner_i) (by decide) (by decide) eX6_init_69 ?_
  refine C_putF (G0 _ _ (by decide) (by decide)) K hin ho ffX6_32 rfl rfl (by exact Nat.le_of_ble_eq_true rfl) eX6_init_73 ?_
  refine N_aload_n (i := 0) (G0 _ _ (by decide) (by decide)) eX6_init_76 rfl rfl ?_
  refine N_bipush (n := 17) (v := (nI 17)) (G0 _ _ (by decide) (by decide)) eX6_init_77 rfl ?_
  refine C_newarr (ty := .int) (i := 0) (atype := .int) (N := 17) (z := (17, .inl (fun _ => 0))) (G0 _ _ (by decide) (by decide)) K rfl rfl (fun _ h => h) aw_I (by decide) (by decide) (by decide) (fun _ => rfl) (by decide) (by decide) eX6_init_79 ?_
  refine C_putF (G0 _ _ (by decide) (by decide)) K hin ho ffX6_35 rfl rfl (by exact Nat.le_of_ble_eq_true rfl) eX6_init_81 ?_
  refine N_aload_n (i := 0) (G0 _ _ (by decide) (by decide)) eX6_init_84 rfl rfl ?_
  refine N_bipush (n := 17) (v := (nI 17)) (G0 _ _ (by decide) (by decide)) eX6_init_85 rfl ?_
  refine N_iconst (n := 4) (v := (nI 4)) (G0 _ _ (by decide) (by decide)) eX6_init_87 rfl ?_
  refine C_mna (ty := .int) (i := 0) (i' := 3) (N := 17) (M := 4) (z := (4, .inl (fun _ => 0))) (G0 _ _ (by decide) (by decide)) K rfl rfl clX6_15 K.2.2.1 aw_I (fun _ h => h) (fun _ h => h) (by decide) (by decide) (by decide) (by decide) (by decide) (by decide) (by decide) rfl rfl (fun _ => inner_i) (by decide) (by decide) eX6_init_88 ?_
  refine C_putF (G0 _ _ (by decide) (by decide)) K hin ho ffX6_38 rfl rfl (by exact Nat.le_of_ble_eq_true rfl) eX6_init_92 ?_
  refine N_aload_n (i := 0) (G0 _ _ (by decide) (by decide)) eX6_init_95 rfl rfl ?_
  refine N_bipush (n := 17) (v := (nI 17)) (G0 _ _ (by decide) (by decide)) eX6_init_96 rfl ?_
  refine C_newarr (ty := .int) (i := 0) (atype := .int) (N := 17) (z := (17, .inl (fun _ => 0))) (G0 _ _ (by decide) (by decide)) K rfl rfl (fun _ h => h) aw_I (by decide) (by decide) (by decide) (fun _ => rfl) (by decide) (by decide) eX6_init_98 ?_
  refine C_putF (G0 _ _ (by decide) (by decide)) K hin ho ffX6_41 rfl rfl (by exact Nat.le_of_ble_eq_true rfl) eX6_init_100 ?_
  refine N_aload_n (i := 0) (G0 _ _ (by decide) (by decide)) eX6_init_103 rfl rfl ?_
  refine N_aload_n (i := 1) (G0 _ _ (by decide) (by decide)) eX6_init_104 rfl rfl ?_
  refine C_putF (G0 _ _ (by decide) (by decide)) K hin ho ffX6_44 rfl rfl (by exact Nat.le_of_ble_eq_true rfl) eX6_init_105 ?_
  refine N_aload_n (i := 0) (G0 _ _ (by decide) (by decide)) eX6_init_108 rfl rfl ?_
  refine N_aload_n (i := 2) (G0 _ _ (by decide) (by decide)) eX6_init_109 rfl rfl ?_
  refine C_putF (G0 _ _ (by decide) (by decide)) K hin ho ffX6_48 rfl rfl (by exact Nat.le_of_ble_eq_true rfl) eX6_init_110 ?_
  exact C_ret (G0 _ _ (by decide) (by decide)) hr hlk rfl eX6_init_113
def X4_fs (h : Nat) : List Value := [.ref (h + 0), .ref (h + 8), .ref (h + 9), .int 0, .int 0, .ref (h + 10), .ref (h + 11), .int 0]
def X4_ds (w : Wld) (h : Nat) : List va_E := [eOut w 3 7 (h + 0), .inl (w.2.1 0, (120, .inl (fun _ => 0))), .inl (w.2.1 0, (120, .inl (fun _ => 0))), .inl (w.2.1 0, (120, .inl (fun _ => 0))), .inl (w.2.1 0, (120, .inl (fun _ => 0))), .inl (w.2.1 0, (120, .inl (fun _ => 0))), .inl (w.2.1 0, (120, .inl (fun _ => 0))), .inl (w.2.1 0, (120, .inl (fun _ => 0))), .inl (w.2.1 0, (7, .inl (fun _ => 0))), .inl (w.2.1 0, (64, .inl (fun _ => 0))), .inl (w.2.1 0, 6, .inl (upd (upd (upd (upd (upd (upd (fun _ => 0) (nI 0).toNatClampNeg (nI 2147483647)) (nI 1).toNatClampNeg (nI 2147483647)) (nI 2).toNatClampNeg (nI 2147483647)) (nI 3).toNatClampNeg (nI 2147483647)) (nI 4).toNatClampNeg (nI 2147483647)) (nI 5).toNatClampNeg (nI 2147483647))), .inl (w.2.1 0, 6, .inl (upd (upd (upd (upd (upd (upd (fun _ => 0) (nI 0).toNatClampNeg (-2147483648)) (nI 1).toNatClampNeg (-2147483648)) (nI 2).toNatClampNeg (-2147483648)) (nI 3).toNatClampNeg (-2147483648)) (nI 4).toNatClampNeg (-2147483648)) (nI 5).toNatClampNeg (-2147483648)))]
set_option maxRecDepth 100000 in
set_option maxHeartbeats 4000000 in
theorem X4_c {l : Launch} {w : Wld} {o sz : Nat} : CtC l w yX4_init cX4_init 2 1 [.ref o] o 4 sz [.null, .null, .null, .int 0, .int 0, .null, .null, .int 0] (X4_fs sz) (X4_ds w) 12 930 := by
  refine CtC_of (own := "PotBook$Laws") [some (.ref o), none] (by decide +kernel) rfl rfl rfl (Nat.le_of_ble_eq_true rfl) ?_
  intro p e s m args below meth c hx hb hml hown hts K hsz ho hin hr hlk
  subst hsz
  have G0 : ∀ kc ns : Nat, kc ≤ 12 → ns ≤ 930 → Cxg p (rmC 1 12 930) s m args meth c cX4_init 2 "PotBook$Laws" kc ns := fun kc ns h1 h2 => ⟨hx, hb, hml, hown, hts, h1, h2⟩
  refine N_aload_n (i := 0) (G0 _ _ (by decide) (by decide)) eX4_init_0 rfl rfl ?_
  refine C_objInit (G0 _ _ (by decide) (by decide)) oiX4_3 (by decide) (Nat.le_of_ble_eq_true rfl) (by decide) eX4_init_1 ?_
  refine N_aload_n (i := 0) (G0 _ _ (by decide) (by decide)) eX4_init_4 rfl rfl ?_
  refine N_bipush (n := 7) (v := (nI 7)) (G0 _ _ (by decide) (by decide)) eX4_init_5 rfl ?_
  refine N_bipush (n := 120) (v := (nI 120)) (G0 _ _ (by decide) (by decide)) eX4_init_7 rfl ?_
  refine C_mna (ty := .int) (i := 0) (i' := 3) (N := 7) (M := 120) (z := (120, .inl (fun _ => 0))) (G0 _ _ (by decide) (by decide)) K rfl rfl clX4_9 K.2.2.1 aw_I (fun _ h => h) (fun _ h => h) (by decide) (by decide) (by decide) (by decide) (by decide) (by decide) (by decide) rfl rfl (fun _ => inner_i) (by decide) (by decide) eX4_init_9 ?_
  refine C_putF (G0 _ _ (by decide) (by decide)) K hin ho ffX4_11 rfl rfl (by exact Nat.le_of_ble_eq_true rfl) eX4_init_13 ?_
  refine N_aload_n (i := 0) (G0 _ _ (by decide) (by decide)) eX4_init_16 rfl rfl ?_
  refine N_bipush (n := 7) (v := (nI 7)) (G0 _ _ (by decide) (by decide)) eX4_init_17 rfl ?_
  refine C_newarr (ty := .int) (i := 0) (atype := .int) (N := 7) (z := (7, .inl (fun _ => 0))) (G0 _ _ (by decide) (by decide)) K rfl rfl (fun _ h => h) aw_I (by decide) (by decide) (by decide) (fun _ => rfl) (by decide) (by decide) eX4_init_19 ?_
  refine C_putF (G0 _ _ (by decide) (by decide)) K hin ho ffX4_16 rfl rfl (by exact Nat.le_of_ble_eq_true rfl) eX4_init_21 ?_
  refine N_aload_n (i := 0) (G0 _ _ (by decide) (by decide)) eX4_init_24 rfl rfl ?_
  refine N_bipush (n := 64) (v := (nI 64)) (G0 _ _ (by decide) (by decide)) eX4_init_25 rfl ?_
  refine C_newarr (ty := .int) (i := 0) (atype := .int) (N := 64) (z := (64, .inl (fun _ => 0))) (G0 _ _ (by decide) (by decide)) K rfl rfl (fun _ h => h) aw_I (by decide) (by decide) (by decide) (fun _ => rfl) (by decide) (by decide) eX4_init_27 ?_
  refine C_putF (G0 _ _ (by decide) (by decide)) K hin ho ffX4_20 rfl rfl (by exact Nat.le_of_ble_eq_true rfl) eX4_init_29 ?_
  refine N_aload_n (i := 0) (G0 _ _ (by decide) (by decide)) eX4_init_32 rfl rfl ?_
  refine N_bipush (n := 6) (v := (nI 6)) (G0 _ _ (by decide) (by decide)) eX4_init_33 rfl ?_
  refine C_newarr (ty := .int) (i := 0) (atype := .int) (N := 6) (z := (6, .inl (fun _ => 0))) (G0 _ _ (by decide) (by decide)) K rfl rfl (fun _ h => h) aw_I (by decide) (by decide) (by decide) (fun _ => rfl) (by decide) (by decide) eX4_init_35 ?_
  refine C_putF (G0 _ _ (by decide) (by decide)) K hin ho ffX4_23 rfl rfl (by exact Nat.le_of_ble_eq_true rfl) eX4_init_37 ?_
  refine N_aload_n (i := 0) (G0 _ _ (by decide) (by decide)) eX4_init_40 rfl rfl ?_
  refine N_bipush (n := 6) (v := (nI 6)) (G0 _ _ (by decide) (by decide)) eX4_init_41 rfl ?_
  refine C_newarr (ty := .int) (i := 0) (atype := .int) (N := 6) (z := (6, .inl (fun _ => 0))) (G0 _ _ (by decide) (by decide)) K rfl rfl (fun _ h => h) aw_I (by decide) (by decide) (by decide) (fun _ => rfl) (by decide) (by decide) eX4_init_43 ?_
  refine C_putF (G0 _ _ (by decide) (by decide)) K hin ho ffX4_26 rfl rfl (by exact Nat.le_of_ble_eq_true rfl) eX4_init_45 ?_
  refine N_iconst (n := 0) (v := (nI 0)) (G0 _ _ (by decide) (by decide)) eX4_init_48 rfl ?_
  refine N_istoreA_n (i := 1) (L' := [some (.ref o), some (.int (nI 0))]) (G0 _ _ (by decide) (by decide)) rfl eX4_init_49 (by decide) rfl rfl ?_
  refine N_iload_n (i := 1) (G0 _ _ (by decide) (by decide)) eX4_init_50 rfl rfl ?_
  refine N_bipush (n := 6) (v := (nI 6)) (G0 _ _ (by decide) (by decide)) eX4_init_51 rfl ?_
  refine N_geF (G0 _ _ (by decide) (by decide)) eX4_init_53 (by decide) ?_
  refine N_aload_n (i := 0) (G0 _ _ (by decide) (by decide)) eX4_init_56 rfl rfl ?_
  refine C_get (v := .ref (s.heap.size + 10)) (G0 _ _ (by decide) (by decide)) K ggX4_23 (by rfl) eX4_init_57 ?_
  refine N_iload_n (i := 1) (G0 _ _ (by decide) (by decide)) eX4_init_60 rfl rfl ?_
  refine N_ldc (v := (nI 2147483647)) (G0 _ _ (by decide) (by decide)) ccX4_31 eX4_init_61 ?_
  refine C_iast (q := 10) (n := 6) (G0 _ _ (by decide) (by decide)) K (cOk_this ho) (by rfl) (by exact vp_in_nI (by decide) (by decide)) eX4_init_63 ?_
  refine N_aload_n (i := 0) (G0 _ _ (by decide) (by decide)) eX4_init_64 rfl rfl ?_
  refine C_get (v := .ref (s.heap.size + 11)) (G0 _ _ (by decide) (by decide)) K ggX4_26 (by rfl) eX4_init_65 ?_
  refine N_iload_n (i := 1) (G0 _ _ (by decide) (by decide)) eX4_init_68 rfl rfl ?_
  refine N_ldc (v := (-2147483648)) (G0 _ _ (by decide) (by decide)) ccX4_32 eX4_init_69 ?_
  refine C_iast (q := 11) (n := 6) (G0 _ _ (by decide) (by decide)) K (cOk_this ho) (by rfl) (by exact vp_in_nI (by decide) (by decide)) eX4_init_71 ?_
  refine N_iincC (i := 1) (v := (nI 1)) (L' := [some (.ref o), some (.int (nI 1))]) (G0 _ _ (by decide) (by decide)) eX4_init_72 rfl (by decide) (by decide) rfl rfl ?_
  refine N_goto (G0 _ _ (by decide) (by decide)) eX4_init_75 ?_
  refine N_iload_n (i := 1) (G0 _ _ (by decide) (by decide)) eX4_init_50 rfl rfl ?_
  refine N_bipush (n := 6) (v := (nI 6)) (G0 _ _ (by decide) (by decide)) eX4_init_51 rfl ?_
  refine N_geF (G0 _ _ (by decide) (by decide)) eX4_init_53 (by decide) ?_
  refine N_aload_n (i := 0) (G0 _ _ (by decide) (by decide)) eX4_init_56 rfl rfl ?_
  refine C_get (v := .ref (s.heap.size + 10)) (G0 _ _ (by decide) (by decide)) K ggX4_23 (by rfl) eX4_init_57 ?_
  refine N_iload_n (i := 1) (G0 _ _ (by decide) (by decide)) eX4_init_60 rfl rfl ?_
  refine N_ldc (v := (nI 2147483647)) (G0 _ _ (by decide) (by decide)) ccX4_31 eX4_init_61 ?_
  refine C_iast (q := 10) (n := 6) (G0 _ _ (by decide) (by decide)) K (cOk_this ho) (by rfl) (by exact vp_in_nI (by decide) (by decide)) eX4_init_63 ?_
  refine N_aload_n (i := 0) (G0 _ _ (by decide) (by decide)) eX4_init_64 rfl rfl ?_
  refine C_get (v := .ref (s.heap.size + 11)) (G0 _ _ (by decide) (by decide)) K ggX4_26 (by rfl) eX4_init_65 ?_
  refine N_iload_n (i := 1) (G0 _ _ (by decide) (by decide)) eX4_init_68 rfl rfl ?_
  refine N_ldc (v := (-2147483648)) (G0 _ _ (by decide) (by decide)) ccX4_32 eX4_init_69 ?_
  refine C_iast (q := 11) (n := 6) (G0 _ _ (by decide) (by decide)) K (cOk_this ho) (by rfl) (by exact vp_in_nI (by decide) (by decide)) eX4_init_71 ?_
  refine N_iincC (i := 1) (v := (nI 2)) (L' := [some (.ref o), some (.int (nI 2))]) (G0 _ _ (by decide) (by decide)) eX4_init_72 rfl (by decide) (by decide) rfl rfl ?_
  refine N_goto (G0 _ _ (by decide) (by decide)) eX4_init_75 ?_
  refine N_iload_n (i := 1) (G0 _ _ (by decide) (by decide)) eX4_init_50 rfl rfl ?_
  refine N_bipush (n := 6) (v := (nI 6)) (G0 _ _ (by decide) (by decide)) eX4_init_51 rfl ?_
  refine N_geF (G0 _ _ (by decide) (by decide)) eX4_init_53 (by decide) ?_
  refine N_aload_n (i := 0) (G0 _ _ (by decide) (by decide)) eX4_init_56 rfl rfl ?_
  refine C_get (v := .ref (s.heap.size + 10)) (G0 _ _ (by decide) (by decide)) K ggX4_23 (by rfl) eX4_init_57 ?_
  refine N_iload_n (i := 1) (G0 _ _ (by decide) (by decide)) eX4_init_60 rfl rfl ?_
  refine N_ldc (v := (nI 2147483647)) (G0 _ _ (by decide) (by decide)) ccX4_31 eX4_init_61 ?_
  refine C_iast (q := 10) (n := 6) (G0 _ _ (by decide) (by decide)) K (cOk_this ho) (by rfl) (by exact vp_in_nI (by decide) (by decide)) eX4_init_63 ?_
  refine N_aload_n (i := 0) (G0 _ _ (by decide) (by decide)) eX4_init_64 rfl rfl ?_
  refine C_get (v := .ref (s.heap.size + 11)) (G0 _ _ (by decide) (by decide)) K ggX4_26 (by rfl) eX4_init_65 ?_
  refine N_iload_n (i := 1) (G0 _ _ (by decide) (by decide)) eX4_init_68 rfl rfl ?_
  refine N_ldc (v := (-2147483648)) (G0 _ _ (by decide) (by decide)) ccX4_32 eX4_init_69 ?_
  refine C_iast (q := 11) (n := 6) (G0 _ _ (by decide) (by decide)) K (cOk_this ho) (by rfl) (by exact vp_in_nI (by decide) (by decide)) eX4_init_71 ?_
  refine N_iincC (i := 1) (v := (nI 3)) (L' := [some (.ref o), some (.int (nI 3))]) (G0 _ _ (by decide) (by decide)) eX4_init_72 rfl (by decide) (by decide) rfl rfl ?_
  refine N_goto (G0 _ _ (by decide) (by decide)) eX4_init_75 ?_
  refine N_iload_n (i := 1) (G0 _ _ (by decide) (by decide)) eX4_init_50 rfl rfl ?_
  refine N_bipush (n := 6) (v := (nI 6)) (G0 _ _ (by decide) (by decide)) eX4_init_51 rfl ?_
  refine N_geF (G0 _ _ (by decide) (by decide)) eX4_init_53 (by decide) ?_
  refine N_aload_n (i := 0) (G0 _ _ (by decide) (by decide)) eX4_init_56 rfl rfl ?_
  refine C_get (v := .ref (s.heap.size + 10)) (G0 _ _ (by decide) (by decide)) K ggX4_23 (by rfl) eX4_init_57 ?_
  refine N_iload_n (i := 1) (G0 _ _ (by decide) (by decide)) eX4_init_60 rfl rfl ?_
  refine N_ldc (v := (nI 2147483647)) (G0 _ _ (by decide) (by decide)) ccX4_31 eX4_init_61 ?_
  refine C_iast (q := 10) (n := 6) (G0 _ _ (by decide) (by decide)) K (cOk_this ho) (by rfl) (by exact vp_in_nI (by decide) (by decide)) eX4_init_63 ?_
  refine N_aload_n (i := 0) (G0 _ _ (by decide) (by decide)) eX4_init_64 rfl rfl ?_
  refine C_get (v := .ref (s.heap.size + 11)) (G0 _ _ (by decide) (by decide)) K ggX4_26 (by rfl) eX4_init_65 ?_
  refine N_iload_n (i := 1) (G0 _ _ (by decide) (by decide)) eX4_init_68 rfl rfl ?_
  refine N_ldc (v := (-2147483648)) (G0 _ _ (by decide) (by decide)) ccX4_32 eX4_init_69 ?_
  refine C_iast (q := 11) (n := 6) (G0 _ _ (by decide) (by decide)) K (cOk_this ho) (by rfl) (by exact vp_in_nI (by decide) (by decide)) eX4_init_71 ?_
  refine N_iincC (i := 1) (v := (nI 4)) (L' := [some (.ref o), some (.int (nI 4))]) (G0 _ _ (by decide) (by decide)) eX4_init_72 rfl (by decide) (by decide) rfl rfl ?_
  refine N_goto (G0 _ _ (by decide) (by decide)) eX4_init_75 ?_
  refine N_iload_n (i := 1) (G0 _ _ (by decide) (by decide)) eX4_init_50 rfl rfl ?_
  refine N_bipush (n := 6) (v := (nI 6)) (G0 _ _ (by decide) (by decide)) eX4_init_51 rfl ?_
  refine N_geF (G0 _ _ (by decide) (by decide)) eX4_init_53 (by decide) ?_
  refine N_aload_n (i := 0) (G0 _ _ (by decide) (by decide)) eX4_init_56 rfl rfl ?_
  refine C_get (v := .ref (s.heap.size + 10)) (G0 _ _ (by decide) (by decide)) K ggX4_23 (by rfl) eX4_init_57 ?_
  refine N_iload_n (i := 1) (G0 _ _ (by decide) (by decide)) eX4_init_60 rfl rfl ?_
  refine N_ldc (v := (nI 2147483647)) (G0 _ _ (by decide) (by decide)) ccX4_31 eX4_init_61 ?_
  refine C_iast (q := 10) (n := 6) (G0 _ _ (by decide) (by decide)) K (cOk_this ho) (by rfl) (by exact vp_in_nI (by decide) (by decide)) eX4_init_63 ?_
  refine N_aload_n (i := 0) (G0 _ _ (by decide) (by decide)) eX4_init_64 rfl rfl ?_
  refine C_get (v := .ref (s.heap.size + 11)) (G0 _ _ (by decide) (by decide)) K ggX4_26 (by rfl) eX4_init_65 ?_
  refine N_iload_n (i := 1) (G0 _ _ (by decide) (by decide)) eX4_init_68 rfl rfl ?_
  refine N_ldc (v := (-2147483648)) (G0 _ _ (by decide) (by decide)) ccX4_32 eX4_init_69 ?_
  refine C_iast (q := 11) (n := 6) (G0 _ _ (by decide) (by decide)) K (cOk_this ho) (by rfl) (by exact vp_in_nI (by decide) (by decide)) eX4_init_71 ?_
  refine N_iincC (i := 1) (v := (nI 5)) (L' := [some (.ref o), some (.int (nI 5))]) (G0 _ _ (by decide) (by decide)) eX4_init_72 rfl (by decide) (by decide) rfl rfl ?_
  refine N_goto (G0 _ _ (by decide) (by decide)) eX4_init_75 ?_
  refine N_iload_n (i := 1) (G0 _ _ (by decide) (by decide)) eX4_init_50 rfl rfl ?_
  refine N_bipush (n := 6) (v := (nI 6)) (G0 _ _ (by decide) (by decide)) eX4_init_51 rfl ?_
  refine N_geF (G0 _ _ (by decide) (by decide)) eX4_init_53 (by decide) ?_
  refine N_aload_n (i := 0) (G0 _ _ (by decide) (by decide)) eX4_init_56 rfl rfl ?_
  refine C_get (v := .ref (s.heap.size + 10)) (G0 _ _ (by decide) (by decide)) K ggX4_23 (by rfl) eX4_init_57 ?_
  refine N_iload_n (i := 1) (G0 _ _ (by decide) (by decide)) eX4_init_60 rfl rfl ?_
  refine N_ldc (v := (nI 2147483647)) (G0 _ _ (by decide) (by decide)) ccX4_31 eX4_init_61 ?_
  refine C_iast (q := 10) (n := 6) (G0 _ _ (by decide) (by decide)) K (cOk_this ho) (by rfl) (by exact vp_in_nI (by decide) (by decide)) eX4_init_63 ?_
  refine N_aload_n (i := 0) (G0 _ _ (by decide) (by decide)) eX4_init_64 rfl rfl ?_
  refine C_get (v := .ref (s.heap.size + 11)) (G0 _ _ (by decide) (by decide)) K ggX4_26 (by rfl) eX4_init_65 ?_
  refine N_iload_n (i := 1) (G0 _ _ (by decide) (by decide)) eX4_init_68 rfl rfl ?_
  refine N_ldc (v := (-2147483648)) (G0 _ _ (by decide) (by decide)) ccX4_32 eX4_init_69 ?_
  refine C_iast (q := 11) (n := 6) (G0 _ _ (by decide) (by decide)) K (cOk_this ho) (by rfl) (by exact vp_in_nI (by decide) (by decide)) eX4_init_71 ?_
  refine N_iincC (i := 1) (v := (nI 6)) (L' := [some (.ref o), some (.int (nI 6))]) (G0 _ _ (by decide) (by decide)) eX4_init_72 rfl (by decide) (by decide) rfl rfl ?_
  refine N_goto (G0 _ _ (by decide) (by decide)) eX4_init_75 ?_
  refine N_iload_n (i := 1) (G0 _ _ (by decide) (by decide)) eX4_init_50 rfl rfl ?_
  refine N_bipush (n := 6) (v := (nI 6)) (G0 _ _ (by decide) (by decide)) eX4_init_51 rfl ?_
  refine N_geT (G0 _ _ (by decide) (by decide)) eX4_init_53 (by decide) ?_
  exact C_ret (G0 _ _ (by decide) (by decide)) hr hlk rfl eX4_init_78
def X3_fs (h : Nat) (a1 : Nat) (a2 : Nat) : List Value := [.ref a1, .ref a2]
def X3_ds (w : Wld) (h : Nat) : List va_E := []
set_option maxRecDepth 100000 in
set_option maxHeartbeats 4000000 in
theorem X3_c {l : Launch} {w : Wld} {o sz a1 a2 : Nat} : CtC l w yX3_init cX3_init 3 1 [.ref o, .ref a1, .ref a2] o 3 sz [.null, .null] (X3_fs sz a1 a2) (X3_ds w) 0 0 := by
  refine CtC_of (own := "PotBook$LawReader") [some (.ref o), some (.ref a1), some (.ref a2)] (by decide +kernel) rfl rfl rfl (Nat.le_of_ble_eq_true rfl) ?_
  intro p e s m args below meth c hx hb hml hown hts K hsz ho hin hr hlk
  subst hsz
  have G0 : ∀ kc ns : Nat, kc ≤ 0 → ns ≤ 0 → Cxg p (rmC 1 0 0) s m args meth c cX3_init 3 "PotBook$LawReader" kc ns := fun kc ns h1 h2 => ⟨hx, hb, hml, hown, hts, h1, h2⟩
  refine N_aload_n (i := 0) (G0 _ _ (by decide) (by decide)) eX3_init_0 rfl rfl ?_
  refine C_objInit (G0 _ _ (by decide) (by decide)) oiX3_3 (by decide) (Nat.le_of_ble_eq_true rfl) (by decide) eX3_init_1 ?_
  refine N_aload_n (i := 0) (G0 _ _ (by decide) (by decide)) eX3_init_4 rfl rfl ?_
  refine N_aload_n (i := 1) (G0 _ _ (by decide) (by decide)) eX3_init_5 rfl rfl ?_
  refine C_putF (G0 _ _ (by decide) (by decide)) K hin ho ffX3_9 rfl rfl (by exact Nat.le_of_ble_eq_true rfl) eX3_init_6 ?_
  refine N_aload_n (i := 0) (G0 _ _ (by decide) (by decide)) eX3_init_9 rfl rfl ?_
  refine N_aload_n (i := 2) (G0 _ _ (by decide) (by decide)) eX3_init_10 rfl rfl ?_
  refine C_putF (G0 _ _ (by decide) (by decide)) K hin ho ffX3_15 rfl rfl (by exact Nat.le_of_ble_eq_true rfl) eX3_init_11 ?_
  exact C_ret (G0 _ _ (by decide) (by decide)) hr hlk rfl eX3_init_14
def X8_fs (h : Nat) (a1 : Nat) (a2 : Nat) (a3 : Nat) : List Value := [.ref a1, .ref a2, .ref a3, .int (nI 6), .int 0, .ref (h + 0), .ref (h + 1), .ref (h + 18), .int 0, .ref (h + 35), .ref (h + 36), .ref (h + 37), .int (-1), .ref (h + 54), .ref (h + 55), .ref (h + 56), .ref (h + 57), .ref (h + 58), .ref (h + 59)]
def X8_ds (w : Wld) (h : Nat) : List va_E := [.inl (w.2.1 0, (16, .inl (fun _ => 0))), eOut w 3 16 (h + 1), .inl (w.2.1 0, (6, .inl (fun _ => 0))), .inl (w.2.1 0, (6, .inl (fun _ => 0))), .inl (w.2.1 0, (6, .inl (fun _ => 0))), .inl (w.2.1 0, (6, .inl (fun _ => 0))), .inl (w.2.1 0, (6, .inl (fun _ => 0))), .inl (w.2.1 0, (6, .inl (fun _ => 0))), .inl (w.2.1 0, (6, .inl (fun _ => 0))), .inl (w.2.1 0, (6, .inl (fun _ => 0))), .inl (w.2.1 0, (6, .inl (fun _ => 0))), .inl (w.2.1 0, (6, .inl (fun _ => 0))), .inl (w.2.1 0, (6, .inl (fun _ => 0))), .inl (w.2.1 0, (6, .inl (fun _ => 0))), .inl (w.2.1 0, (6, .inl (fun _ => 0))), .inl (w.2.1 0, (6, .inl (fun _ => 0))), .inl (w.2.1 0, (6, .inl (fun _ => 0))), .inl (w.2.1 0, (6, .inl (fun _ => 0))), eOut w 3 16 (h + 18), .inl (w.2.1 0, (6, .inl (fun _ => 0))), .inl (w.2.1 0, (6, .inl (fun _ => 0))), .inl (w.2.1 0, (6, .inl (fun _ => 0))), .inl (w.2.1 0, (6, .inl (fun _ => 0))), .inl (w.2.1 0, (6, .inl (fun _ => 0))), .inl (w.2.1 0, (6, .inl (fun _ => 0))), .inl (w.2.1 0, (6, .inl (fun _ => 0))), .inl (w.2.1 0, (6, .inl (fun _ => 0))), .inl (w.2.1 0, (6, .inl (fun _ => 0))), .inl (w.2.1 0, (6, .inl (fun _ => 0))), .inl (w.2.1 0, (6, .inl (fun _ => 0))), .inl (w.2.1 0, (6, .inl (fun _ => 0))), .inl (w.2.1 0, (6, .inl (fun _ => 0))), .inl (w.2.1 0, (6, .inl (fun _ => 0))), .inl (w.2.1 0, (6, .inl (fun _ => 0))), .inl (w.2.1 0, (6, .inl (fun _ => 0))), .inl (w.2.1 0, 16, .inl (upd (upd (upd (upd (upd (upd (upd (upd (upd (upd (upd (upd (upd (upd (upd (upd (fun _ => 0) (nI 0).toNatClampNeg (-1)) (nI 1).toNatClampNeg (-1)) (nI 2).toNatClampNeg (-1)) (nI 3).toNatClampNeg (-1)) (nI 4).toNatClampNeg (-1)) (nI 5).toNatClampNeg (-1)) (nI 6).toNatClampNeg (-1)) (nI 7).toNatClampNeg (-1)) (nI 8).toNatClampNeg (-1)) (nI 9).toNatClampNeg (-1)) (nI 10).toNatClampNeg (-1)) (nI 11).toNatClampNeg (-1)) (nI 12).toNatClampNeg (-1)) (nI 13).toNatClampNeg (-1)) (nI 14).toNatClampNeg (-1)) (nI 15).toNatClampNeg (-1))), .inl (w.2.1 0, (16, .inl (fun _ => 0))), eOut w 3 16 (h + 37), .inl (w.2.1 0, (8, .inl (fun _ => 0))), .inl (w.2.1 0, (8, .inl (fun _ => 0))), .inl (w.2.1 0, (8, .inl (fun _ => 0))), .inl (w.2.1 0, (8, .inl (fun _ => 0))), .inl (w.2.1 0, (8, .inl (fun _ => 0))), .inl (w.2.1 0, (8, .inl (fun _ => 0))), .inl (w.2.1 0, (8, .inl (fun _ => 0))), .inl (w.2.1 0, (8, .inl (fun _ => 0))), .inl (w.2.1 0, (8, .inl (fun _ => 0))), .inl (w.2.1 0, (8, .inl (fun _ => 0))), .inl (w.2.1 0, (8, .inl (fun _ => 0))), .inl (w.2.1 0, (8, .inl (fun _ => 0))), .inl (w.2.1 0, (8, .inl (fun _ => 0))), .inl (w.2.1 0, (8, .inl (fun _ => 0))), .inl (w.2.1 0, (8, .inl (fun _ => 0))), .inl (w.2.1 0, (8, .inl (fun _ => 0))), .inl (w.2.1 0, (5000, .inl (fun _ => 0))), .inl (w.2.1 0, (8, .inl (fun _ => 0))), .inl (w.2.1 0, (8, .inl (fun _ => 0))), .inl (w.2.1 0, (8, .inl (fun _ => 0))), .inl (w.2.1 0, (8, .inl (fun _ => 0))), .inl (w.2.1 0, (9, .inl (fun _ => 0)))]
set_option maxRecDepth 100000 in
set_option maxHeartbeats 4000000 in
theorem X8_c {l : Launch} {w : Wld} {o sz a1 a2 a3 : Nat} : CtC l w yX8_init cX8_init 5 1 [.ref o, .ref a1, .ref a2, .ref a3] o 8 sz [.null, .null, .null, .int 0, .int 0, .null, .null, .null, .int 0, .null, .null, .null, .int 0, .null, .null, .null, .null, .null, .null] (X8_fs sz a1 a2 a3) (X8_ds w) 60 5457 := by
  refine CtC_of (own := "PotBook$Pot") [some (.ref o), some (.ref a1), some (.ref a2), some (.ref a3), none] (by decide +kernel) rfl rfl rfl (Nat.le_of_ble_eq_true rfl) ?_
  intro p e s m args below meth c hx hb hml hown hts K hsz ho hin hr hlk
  subst hsz
  have G0 : ∀ kc ns : Nat, kc ≤ 60 → ns ≤ 5457 → Cxg p (rmC 1 60 5457) s m args meth c cX8_init 5 "PotBook$Pot" kc ns := fun kc ns h1 h2 => ⟨hx, hb, hml, hown, hts, h1, h2⟩
  refine N_aload_n (i := 0) (G0 _ _ (by decide) (by decide)) eX8_init_0 rfl rfl ?_
  refine C_objInit (G0 _ _ (by decide) (by decide)) oiX8_3 (by decide) (Nat.le_of_ble_eq_true rfl) (by decide) eX8_init_1 ?_
  refine N_aload_n (i := 0) (G0 _ _ (by decide) (by decide)) eX8_init_4 rfl rfl ?_
  refine N_bipush (n := 6) (v := (nI 6)) (G0 _ _ (by decide) (by decide)) eX8_init_5 rfl ?_
  refine C_put (x := (nI 6)) (G0 _ _ (by decide) (by decide)) K ho gnX8_9 fq_8_3 (by exact Nat.le_of_ble_eq_true rfl) eX8_init_7 ?_
  refine N_aload_n (i := 0) (G0 _ _ (by decide) (by decide)) eX8_init_10 rfl rfl ?_
  refine N_bipush (n := 16) (v := (nI 16)) (G0 _ _ (by decide) (by decide)) eX8_init_11 rfl ?_
  refine C_newarr (ty := .int) (i := 0) (atype := .int) (N := 16) (z := (16, .inl (fun _ => 0))) (G0 _ _ (by decide) (by decide)) K rfl rfl (fun _ h => h) aw_I (by decide) (by decide) (by decide) (fun _ => rfl) (by decide) (by decide) eX8_init_13 ?_
  refine C_putF (G0 _ _ (by decide) (by decide)) K hin ho ffX8_15 rfl rfl (by exact Nat.le_of_ble_eq_true rfl) eX8_init_15 ?_
  refine N_aload_n (i := 0) (G0 _ _ (by decide) (by decide)) eX8_init_18 rfl rfl ?_
  refine N_bipush (n := 16) (v := (nI 16)) (G0 _ _ (by decide) (by decide)) eX8_init_19 rfl ?_
  refine N_bipush (n := 6) (v := (nI 6)) (G0 _ _ (by decide) (by decide)) eX8_init_21 rfl ?_
  refine C_mna (ty := .int) (i := 0) (i' := 3) (N := 16) (M := 6) (z := (6, .inl (fun _ => 0))) (G0 _ _ (by decide) (by decide)) K rfl rfl clX8_19 K.2.2.1 aw_I (fun _ h => h) (fun _ h => h) (by decide) (by decide) (by decide) (by decide) (by decide) (by decide) (by decide) rfl rfl (fun _ => inner_i) (by decide) (by decide) eX8_init_23 ?_
  refine C_putF (G0 _ _ (by decide) (by decide)) K hin ho ffX8_21 rfl rfl (by exact Nat.le_of_ble_eq_true rfl) eX8_init_27 ?_
  refine N_aload_n (i := 0) (G0 _ _ (by decide) (by decide)) eX8_init_30 rfl rfl ?_
  refine N_bipush (n := 16) (v := (nI 16)) (G0 _ _ (by decide) (by decide)) eX8_init_31 rfl ?_
  refine N_bipush (n := 6) (v := (nI 6)) (G0 _ _ (by decide) (by decide)) eX8_init_33 rfl ?_
  refine C_mna (ty := .int) (i := 0) (i' := 3) (N := 16) (M := 6) (z := (6, .inl (fun _ => 0))) (G0 _ _ (by decide) (by decide)) K rfl rfl clX8_19 K.2.2.1 aw_I (fun _ h => h) (fun _ h => h) (by decide) (by decide) (by decide) (by decide) (by decide) (by decide) (by decide) rfl rfl (fun _ => inner_i) (by decide) (by decide) eX8_init_35 ?_
  refine C_putF (G0 _ _ (by decide) (by decide)) K hin ho ffX8_24 rfl rfl (by exact Nat.le_of_ble_eq_true rfl) eX8_init_39 ?_
  refine N_aload_n (i := 0) (G0 _ _ (by decide) (by decide)) eX8_init_42 rfl rfl ?_
  refine N_bipush (n := 16) (v := (nI 16)) (G0 _ _ (by decide) (by decide)) eX8_init_43 rfl ?_
  refine C_newarr (ty := .int) (i := 0) (atype := .int) (N := 16) (z := (16, .inl (fun _ => 0))) (G0 _ _ (by decide) (by decide)) K rfl rfl (fun _ h => h) aw_I (by decide) (by decide) (by decide) (fun _ => rfl) (by decide) (by decide) eX8_init_45 ?_
  refine C_putF (G0 _ _ (by decide) (by decide)) K hin ho ffX8_27 rfl rfl (by exact Nat.le_of_ble_eq_true rfl) eX8_init_47 ?_
  refine N_aload_n (i := 0) (G0 _ _ (by decide) (by decide)) eX8_init_50 rfl rfl ?_
  refine N_bipush (n := 16) (v := (nI 16)) (G0 _ _ (by decide) (by decide)) eX8_init_51 rfl ?_
  refine C_newarr (ty := .int) (i := 0) (atype := .int) (N := 16) (z := (16, .inl (fun _ => 0))) (G0 _ _ (by decide) (by decide)) K rfl rfl (fun _ h => h) aw_I (by decide) (by decide) (by decide) (fun _ => rfl) (by decide) (by decide) eX8_init_53 ?_
  refine C_putF (G0 _ _ (by decide) (by decide)) K hin ho ffX8_30 rfl rfl (by exact Nat.le_of_ble_eq_true rfl) eX8_init_55 ?_
  refine N_aload_n (i := 0) (G0 _ _ (by decide) (by decide)) eX8_init_58 rfl rfl ?_
  refine N_bipush (n := 16) (v := (nI 16)) (G0 _ _ (by decide) (by decide)) eX8_init_59 rfl ?_
  refine N_bipush (n := 8) (v := (nI 8)) (G0 _ _ (by decide) (by decide)) eX8_init_61 rfl ?_
  refine C_mna (ty := .int) (i := 0) (i' := 3) (N := 16) (M := 8) (z := (8, .inl (fun _ => 0))) (G0 _ _ (by decide) (by decide)) K rfl rfl clX8_19 K.2.2.1 aw_I (fun _ h => h) (fun _ h => h) (by decide) (by decide) (by decide) (by decide) (by decide) (by decide) (by decide) rfl rfl (fun _ => inner_i) (by decide) (by decide) eX8_init_63 ?_
  refine C_putF (G0 _ _ (by decide) (by decide)) K hin ho ffX8_33 rfl rfl (by exact Nat.le_of_ble_eq_true rfl) eX8_init_67 ?_
  refine N_aload_n (i := 0) (G0 _ _ (by decide) (by decide)) eX8_init_70 rfl rfl ?_
  refine N_iconst (n := -1) (v := (-1)) (G0 _ _ (by decide) (by decide)) eX8_init_71 rfl ?_
  refine C_put (x := (-1)) (G0 _ _ (by decide) (by decide)) K ho gnX8_36 fq_8_12 (by exact Nat.le_of_ble_eq_true rfl) eX8_init_72 ?_
  refine N_aload_n (i := 0) (G0 _ _ (by decide) (by decide)) eX8_init_75 rfl rfl ?_
  refine N_sipush (n := 5000) (v := (nI 5000)) (G0 _ _ (by decide) (by decide)) eX8_init_76 rfl ?_
  refine C_newarr (ty := .int) (i := 0) (atype := .int) (N := 5000) (z := (5000, .inl (fun _ => 0))) (G0 _ _ (by decide) (by decide)) K rfl rfl (fun _ h => h) aw_I (by decide) (by decide) (by decide) (fun _ => rfl) (by decide) (by decide) eX8_init_79 ?_
  refine C_putF (G0 _ _ (by decide) (by decide)) K hin ho ffX8_39 rfl rfl (by exact Nat.le_of_ble_eq_true rfl) eX8_init_81 ?_
  refine N_aload_n (i := 0) (G0 _ _ (by decide) (by decide)) eX8_init_84 rfl rfl ?_
  refine N_bipush (n := 8) (v := (nI 8)) (G0 _ _ (by decide) (by decide)) eX8_init_85 rfl ?_
  refine C_newarr (ty := .int) (i := 0) (atype := .int) (N := 8) (z := (8, .inl (fun _ => 0))) (G0 _ _ (by decide) (by decide)) K rfl rfl (fun _ h => h) aw_I (by decide) (by decide) (by decide) (fun _ => rfl) (by decide) (by decide) eX8_init_87 ?_
  refine C_putF (G0 _ _ (by decide) (by decide)) K hin ho ffX8_42 rfl rfl (by exact Nat.le_of_ble_eq_true rfl) eX8_init_89 ?_
  refine N_aload_n (i := 0) (G0 _ _ (by decide) (by decide)) eX8_init_92 rfl rfl ?_
  refine N_bipush (n := 8) (v := (nI 8)) (G0 _ _ (by decide) (by decide)) eX8_init_93 rfl ?_
  refine C_newarr (ty := .int) (i := 0) (atype := .int) (N := 8) (z := (8, .inl (fun _ => 0))) (G0 _ _ (by decide) (by decide)) K rfl rfl (fun _ h => h) aw_I (by decide) (by decide) (by decide) (fun _ => rfl) (by decide) (by decide) eX8_init_95 ?_
  refine C_putF (G0 _ _ (by decide) (by decide)) K hin ho ffX8_45 rfl rfl (by exact Nat.le_of_ble_eq_true rfl) eX8_init_97 ?_
  refine N_aload_n (i := 0) (G0 _ _ (by decide) (by decide)) eX8_init_100 rfl rfl ?_
  refine N_bipush (n := 8) (v := (nI 8)) (G0 _ _ (by decide) (by decide)) eX8_init_101 rfl ?_
  refine C_newarr (ty := .int) (i := 0) (atype := .int) (N := 8) (z := (8, .inl (fun _ => 0))) (G0 _ _ (by decide) (by decide)) K rfl rfl (fun _ h => h) aw_I (by decide) (by decide) (by decide) (fun _ => rfl) (by decide) (by decide) eX8_init_103 ?_
  refine C_putF (G0 _ _ (by decide) (by decide)) K hin ho ffX8_48 rfl rfl (by exact Nat.le_of_ble_eq_true rfl) eX8_init_105 ?_
  refine N_aload_n (i := 0) (G0 _ _ (by decide) (by decide)) eX8_init_108 rfl rfl ?_
  refine N_bipush (n := 8) (v := (nI 8)) (G0 _ _ (by decide) (by decide)) eX8_init_109 rfl ?_
  refine C_newarr (ty := .int) (i := 0) (atype := .int) (N := 8) (z := (8, .inl (fun _ => 0))) (G0 _ _ (by decide) (by decide)) K rfl rfl (fun _ h => h) aw_I (by decide) (by decide) (by decide) (fun _ => rfl) (by decide) (by decide) eX8_init_111 ?_
  refine C_putF (G0 _ _ (by decide) (by decide)) K hin ho ffX8_51 rfl rfl (by exact Nat.le_of_ble_eq_true rfl) eX8_init_113 ?_
  refine N_aload_n (i := 0) (G0 _ _ (by decide) (by decide)) eX8_init_116 rfl rfl ?_
  refine N_bipush (n := 9) (v := (nI 9)) (G0 _ _ (by decide) (by decide)) eX8_init_117 rfl ?_
  refine C_newarr (ty := .int) (i := 0) (atype := .int) (N := 9) (z := (9, .inl (fun _ => 0))) (G0 _ _ (by decide) (by decide)) K rfl rfl (fun _ h => h) aw_I (by decide) (by decide) (by decide) (fun _ => rfl) (by decide) (by decide) eX8_init_119 ?_
  refine C_putF (G0 _ _ (by decide) (by decide)) K hin ho ffX8_54 rfl rfl (by exact Nat.le_of_ble_eq_true rfl) eX8_init_121 ?_
  refine N_aload_n (i := 0) (G0 _ _ (by decide) (by decide)) eX8_init_124 rfl rfl ?_
  refine N_aload_n (i := 1) (G0 _ _ (by decide) (by decide)) eX8_init_125 rfl rfl ?_
  refine C_putF (G0 _ _ (by decide) (by decide)) K hin ho ffX8_57 rfl rfl (by exact Nat.le_of_ble_eq_true rfl) eX8_init_126 ?_
  refine N_aload_n (i := 0) (G0 _ _ (by decide) (by decide)) eX8_init_129 rfl rfl ?_
  refine N_aload_n (i := 2) (G0 _ _ (by decide) (by decide)) eX8_init_130 rfl rfl ?_
  refine C_putF (G0 _ _ (by decide) (by decide)) K hin ho ffX8_61 rfl rfl (by exact Nat.le_of_ble_eq_true rfl) eX8_init_131 ?_
  refine N_aload_n (i := 0) (G0 _ _ (by decide) (by decide)) eX8_init_134 rfl rfl ?_
  refine N_aload_n (i := 3) (G0 _ _ (by decide) (by decide)) eX8_init_135 rfl rfl ?_
  refine C_putF (G0 _ _ (by decide) (by decide)) K hin ho ffX8_65 rfl rfl (by exact Nat.le_of_ble_eq_true rfl) eX8_init_136 ?_
  refine N_iconst (n := 0) (v := (nI 0)) (G0 _ _ (by decide) (by decide)) eX8_init_139 rfl ?_
  refine N_istoreA (i := 4) (L' := [some (.ref o), some (.ref a1), some (.ref a2), some (.ref a3), some (.int (nI 0))]) (G0 _ _ (by decide) (by decide)) eX8_init_140 (by decide) rfl rfl ?_
  refine N_iload (G0 _ _ (by decide) (by decide)) eX8_init_142 rfl ?_
  refine N_bipush (n := 16) (v := (nI 16)) (G0 _ _ (by decide) (by decide)) eX8_init_144 rfl ?_
  refine N_geF (G0 _ _ (by decide) (by decide)) eX8_init_146 (by decide) ?_
  refine N_aload_n (i := 0) (G0 _ _ (by decide) (by decide)) eX8_init_149 rfl rfl ?_
  refine C_get (v := .ref (s.heap.size + 35)) (G0 _ _ (by decide) (by decide)) K ggX8_27 (by rfl) eX8_init_150 ?_
  refine N_iload (G0 _ _ (by decide) (by decide)) eX8_init_153 rfl ?_
  refine N_iconst (n := -1) (v := (-1)) (G0 _ _ (by decide) (by decide)) eX8_init_155 rfl ?_
  refine C_iast (q := 35) (n := 16) (G0 _ _ (by decide) (by decide)) K (cOk_this ho) (by rfl) (by exact vp_in_nI (by decide) (by decide)) eX8_init_156 ?_
  refine N_iincC (i := 4) (v := (nI 1)) (L' := [some (.ref o), some (.ref a1), some (.ref a2), some (.ref a3), some (.int (nI 1))]) (G0 _ _ (by decide) (by decide)) eX8_init_157 rfl (by decide) (by decide) rfl rfl ?_
  refine N_goto (G0 _ _ (by decide) (by decide)) eX8_init_160 ?_
  refine N_iload (G0 _ _ (by decide) (by decide)) eX8_init_142 rfl ?_
  refine N_bipush (n := 16) (v := (nI 16)) (G0 _ _ (by decide) (by decide)) eX8_init_144 rfl ?_
  refine N_geF (G0 _ _ (by decide) (by decide)) eX8_init_146 (by decide) ?_
  refine N_aload_n (i := 0) (G0 _ _ (by decide) (by decide)) eX8_init_149 rfl rfl ?_
  refine C_get (v := .ref (s.heap.size + 35)) (G0 _ _ (by decide) (by decide)) K ggX8_27 (by rfl) eX8_init_150 ?_
  refine N_iload (G0 _ _ (by decide) (by decide)) eX8_init_153 rfl ?_
  refine N_iconst (n := -1) (v := (-1)) (G0 _ _ (by decide) (by decide)) eX8_init_155 rfl ?_
  refine C_iast (q := 35) (n := 16) (G0 _ _ (by decide) (by decide)) K (cOk_this ho) (by rfl) (by exact vp_in_nI (by decide) (by decide)) eX8_init_156 ?_
  refine N_iincC (i := 4) (v := (nI 2)) (L' := [some (.ref o), some (.ref a1), some (.ref a2), some (.ref a3), some (.int (nI 2))]) (G0 _ _ (by decide) (by decide)) eX8_init_157 rfl (by decide) (by decide) rfl rfl ?_
  refine N_goto (G0 _ _ (by decide) (by decide)) eX8_init_160 ?_
  refine N_iload (G0 _ _ (by decide) (by decide)) eX8_init_142 rfl ?_
  refine N_bipush (n := 16) (v := (nI 16)) (G0 _ _ (by decide) (by decide)) eX8_init_144 rfl ?_
  refine N_geF (G0 _ _ (by decide) (by decide)) eX8_init_146 (by decide) ?_
  refine N_aload_n (i := 0) (G0 _ _ (by decide) (by decide)) eX8_init_149 rfl rfl ?_
  refine C_get (v := .ref (s.heap.size + 35)) (G0 _ _ (by decide) (by decide)) K ggX8_27 (by rfl) eX8_init_150 ?_
  refine N_iload (G0 _ _ (by decide) (by decide)) eX8_init_153 rfl ?_
  refine N_iconst (n := -1) (v := (-1)) (G0 _ _ (by decide) (by decide)) eX8_init_155 rfl ?_
  refine C_iast (q := 35) (n := 16) (G0 _ _ (by decide) (by decide)) K (cOk_this ho) (by rfl) (by exact vp_in_nI (by decide) (by decide)) eX8_init_156 ?_
  refine N_iincC (i := 4) (v := (nI 3)) (L' := [some (.ref o), some (.ref a1), some (.ref a2), some (.ref a3), some (.int (nI 3))]) (G0 _ _ (by decide) (by decide)) eX8_init_157 rfl (by decide) (by decide) rfl rfl ?_
  refine N_goto (G0 _ _ (by decide) (by decide)) eX8_init_160 ?_
  refine N_iload (G0 _ _ (by decide) (by decide)) eX8_init_142 rfl ?_
  refine N_bipush (n := 16) (v := (nI 16)) (G0 _ _ (by decide) (by decide)) eX8_init_144 rfl ?_
  refine N_geF (G0 _ _ (by decide) (by decide)) eX8_init_146 (by decide) ?_
  refine N_aload_n (i := 0) (G0 _ _ (by decide) (by decide)) eX8_init_149 rfl rfl ?_
  refine C_get (v := .ref (s.heap.size + 35)) (G0 _ _ (by decide) (by decide)) K ggX8_27 (by rfl) eX8_init_150 ?_
  refine N_iload (G0 _ _ (by decide) (by decide)) eX8_init_153 rfl ?_
  refine N_iconst (n := -1) (v := (-1)) (G0 _ _ (by decide) (by decide)) eX8_init_155 rfl ?_
  refine C_iast (q := 35) (n := 16) (G0 _ _ (by decide) (by decide)) K (cOk_this ho) (by rfl) (by exact vp_in_nI (by decide) (by decide)) eX8_init_156 ?_
  refine N_iincC (i := 4) (v := (nI 4)) (L' := [some (.ref o), some (.ref a1), some (.ref a2), some (.ref a3), some (.int (nI 4))]) (G0 _ _ (by decide) (by decide)) eX8_init_157 rfl (by decide) (by decide) rfl rfl ?_
  refine N_goto (G0 _ _ (by decide) (by decide)) eX8_init_160 ?_
  refine N_iload (G0 _ _ (by decide) (by decide)) eX8_init_142 rfl ?_
  refine N_bipush (n := 16) (v := (nI 16)) (G0 _ _ (by decide) (by decide)) eX8_init_144 rfl ?_
  refine N_geF (G0 _ _ (by decide) (by decide)) eX8_init_146 (by decide) ?_
  refine N_aload_n (i := 0) (G0 _ _ (by decide) (by decide)) eX8_init_149 rfl rfl ?_
  refine C_get (v := .ref (s.heap.size + 35)) (G0 _ _ (by decide) (by decide)) K ggX8_27 (by rfl) eX8_init_150 ?_
  refine N_iload (G0 _ _ (by decide) (by decide)) eX8_init_153 rfl ?_
  refine N_iconst (n := -1) (v := (-1)) (G0 _ _ (by decide) (by decide)) eX8_init_155 rfl ?_
  refine C_iast (q := 35) (n := 16) (G0 _ _ (by decide) (by decide)) K (cOk_this ho) (by rfl) (by exact vp_in_nI (by decide) (by decide)) eX8_init_156 ?_
  refine N_iincC (i := 4) (v := (nI 5)) (L' := [some (.ref o), some (.ref a1), some (.ref a2), some (.ref a3), some (.int (nI 5))]) (G0 _ _ (by decide) (by decide)) eX8_init_157 rfl (by decide) (by decide) rfl rfl ?_
  refine N_goto (G0 _ _ (by decide) (by decide)) eX8_init_160 ?_
  refine N_iload (G0 _ _ (by decide) (by decide)) eX8_init_142 rfl ?_
  refine N_bipush (n := 16) (v := (nI 16)) (G0 _ _ (by decide) (by decide)) eX8_init_144 rfl ?_
  refine N_geF (G0 _ _ (by decide) (by decide)) eX8_init_146 (by decide) ?_
  refine N_aload_n (i := 0) (G0 _ _ (by decide) (by decide)) eX8_init_149 rfl rfl ?_
  refine C_get (v := .ref (s.heap.size + 35)) (G0 _ _ (by decide) (by decide)) K ggX8_27 (by rfl) eX8_init_150 ?_
  refine N_iload (G0 _ _ (by decide) (by decide)) eX8_init_153 rfl ?_
  refine N_iconst (n := -1) (v := (-1)) (G0 _ _ (by decide) (by decide)) eX8_init_155 rfl ?_
  refine C_iast (q := 35) (n := 16) (G0 _ _ (by decide) (by decide)) K (cOk_this ho) (by rfl) (by exact vp_in_nI (by decide) (by decide)) eX8_init_156 ?_
  refine N_iincC (i := 4) (v := (nI 6)) (L' := [some (.ref o), some (.ref a1), some (.ref a2), some (.ref a3), some (.int (nI 6))]) (G0 _ _ (by decide) (by decide)) eX8_init_157 rfl (by decide) (by decide) rfl rfl ?_
  refine N_goto (G0 _ _ (by decide) (by decide)) eX8_init_160 ?_
  refine N_iload (G0 _ _ (by decide) (by decide)) eX8_init_142 rfl ?_
  refine N_bipush (n := 16) (v := (nI 16)) (G0 _ _ (by decide) (by decide)) eX8_init_144 rfl ?_
  refine N_geF (G0 _ _ (by decide) (by decide)) eX8_init_146 (by decide) ?_
  refine N_aload_n (i := 0) (G0 _ _ (by decide) (by decide)) eX8_init_149 rfl rfl ?_
  refine C_get (v := .ref (s.heap.size + 35)) (G0 _ _ (by decide) (by decide)) K ggX8_27 (by rfl) eX8_init_150 ?_
  refine N_iload (G0 _ _ (by decide) (by decide)) eX8_init_153 rfl ?_
  refine N_iconst (n := -1) (v := (-1)) (G0 _ _ (by decide) (by decide)) eX8_init_155 rfl ?_
  refine C_iast (q := 35) (n := 16) (G0 _ _ (by decide) (by decide)) K (cOk_this ho) (by rfl) (by exact vp_in_nI (by decide) (by decide)) eX8_init_156 ?_
  refine N_iincC (i := 4) (v := (nI 7)) (L' := [some (.ref o), some (.ref a1), some (.ref a2), some (.ref a3), some (.int (nI 7))]) (G0 _ _ (by decide) (by decide)) eX8_init_157 rfl (by decide) (by decide) rfl rfl ?_
  refine N_goto (G0 _ _ (by decide) (by decide)) eX8_init_160 ?_
  refine N_iload (G0 _ _ (by decide) (by decide)) eX8_init_142 rfl ?_
  refine N_bipush (n := 16) (v := (nI 16)) (G0 _ _ (by decide) (by decide)) eX8_init_144 rfl ?_
  refine N_geF (G0 _ _ (by decide) (by decide)) eX8_init_146 (by decide) ?_
  refine N_aload_n (i := 0) (G0 _ _ (by decide) (by decide)) eX8_init_149 rfl rfl ?_
  refine C_get (v := .ref (s.heap.size + 35)) (G0 _ _ (by decide) (by decide)) K ggX8_27 (by rfl) eX8_init_150 ?_
  refine N_iload (G0 _ _ (by decide) (by decide)) eX8_init_153 rfl ?_
  refine N_iconst (n := -1) (v := (-1)) (G0 _ _ (by decide) (by decide)) eX8_init_155 rfl ?_
  refine C_iast (q := 35) (n := 16) (G0 _ _ (by decide) (by decide)) K (cOk_this ho) (by rfl) (by exact vp_in_nI (by decide) (by decide)) eX8_init_156 ?_
  refine N_iincC (i := 4) (v := (nI 8)) (L' := [some (.ref o), some (.ref a1), some (.ref a2), some (.ref a3), some (.int (nI 8))]) (G0 _ _ (by decide) (by decide)) eX8_init_157 rfl (by decide) (by decide) rfl rfl ?_
  refine N_goto (G0 _ _ (by decide) (by decide)) eX8_init_160 ?_
  refine N_iload (G0 _ _ (by decide) (by decide)) eX8_init_142 rfl ?_
  refine N_bipush (n := 16) (v := (nI 16)) (G0 _ _ (by decide) (by decide)) eX8_init_144 rfl ?_
  refine N_geF (G0 _ _ (by decide) (by decide)) eX8_init_146 (by decide) ?_
  refine N_aload_n (i := 0) (G0 _ _ (by decide) (by decide)) eX8_init_149 rfl rfl ?_
  refine C_get (v := .ref (s.heap.size + 35)) (G0 _ _ (by decide) (by decide)) K ggX8_27 (by rfl) eX8_init_150 ?_
  refine N_iload (G0 _ _ (by decide) (by decide)) eX8_init_153 rfl ?_
  refine N_iconst (n := -1) (v := (-1)) (G0 _ _ (by decide) (by decide)) eX8_init_155 rfl ?_
  refine C_iast (q := 35) (n := 16) (G0 _ _ (by decide) (by decide)) K (cOk_this ho) (by rfl) (by exact vp_in_nI (by decide) (by decide)) eX8_init_156 ?_
  refine N_iincC (i := 4) (v := (nI 9)) (L' := [some (.ref o), some (.ref a1), some (.ref a2), some (.ref a3), some (.int (nI 9))]) (G0 _ _ (by decide) (by decide)) eX8_init_157 rfl (by decide) (by decide) rfl rfl ?_
  refine N_goto (G0 _ _ (by decide) (by decide)) eX8_init_160 ?_
  refine N_iload (G0 _ _ (by decide) (by decide)) eX8_init_142 rfl ?_
  refine N_bipush (n := 16) (v := (nI 16)) (G0 _ _ (by decide) (by decide)) eX8_init_144 rfl ?_
  refine N_geF (G0 _ _ (by decide) (by decide)) eX8_init_146 (by decide) ?_
  refine N_aload_n (i := 0) (G0 _ _ (by decide) (by decide)) eX8_init_149 rfl rfl ?_
  refine C_get (v := .ref (s.heap.size + 35)) (G0 _ _ (by decide) (by decide)) K ggX8_27 (by rfl) eX8_init_150 ?_
  refine N_iload (G0 _ _ (by decide) (by decide)) eX8_init_153 rfl ?_
  refine N_iconst (n := -1) (v := (-1)) (G0 _ _ (by decide) (by decide)) eX8_init_155 rfl ?_
  refine C_iast (q := 35) (n := 16) (G0 _ _ (by decide) (by decide)) K (cOk_this ho) (by rfl) (by exact vp_in_nI (by decide) (by decide)) eX8_init_156 ?_
  refine N_iincC (i := 4) (v := (nI 10)) (L' := [some (.ref o), some (.ref a1), some (.ref a2), some (.ref a3), some (.int (nI 10))]) (G0 _ _ (by decide) (by decide)) eX8_init_157 rfl (by decide) (by decide) rfl rfl ?_
  refine N_goto (G0 _ _ (by decide) (by decide)) eX8_init_160 ?_
  refine N_iload (G0 _ _ (by decide) (by decide)) eX8_init_142 rfl ?_
  refine N_bipush (n := 16) (v := (nI 16)) (G0 _ _ (by decide) (by decide)) eX8_init_144 rfl ?_
  refine N_geF (G0 _ _ (by decide) (by decide)) eX8_init_146 (by decide) ?_
  refine N_aload_n (i := 0) (G0 _ _ (by decide) (by decide)) eX8_init_149 rfl rfl ?_
  refine C_get (v := .ref (s.heap.size + 35)) (G0 _ _ (by decide) (by decide)) K ggX8_27 (by rfl) eX8_init_150 ?_
  refine N_iload (G0 _ _ (by decide) (by decide)) eX8_init_153 rfl ?_
  refine N_iconst (n := -1) (v := (-1)) (G0 _ _ (by decide) (by decide)) eX8_init_155 rfl ?_
  refine C_iast (q := 35) (n := 16) (G0 _ _ (by decide) (by decide)) K (cOk_this ho) (by rfl) (by exact vp_in_nI (by decide) (by decide)) eX8_init_156 ?_
  refine N_iincC (i := 4) (v := (nI 11)) (L' := [some (.ref o), some (.ref a1), some (.ref a2), some (.ref a3), some (.int (nI 11))]) (G0 _ _ (by decide) (by decide)) eX8_init_157 rfl (by decide) (by decide) rfl rfl ?_
  refine N_goto (G0 _ _ (by decide) (by decide)) eX8_init_160 ?_
  refine N_iload (G0 _ _ (by decide) (by decide)) eX8_init_142 rfl ?_
  refine N_bipush (n := 16) (v := (nI 16)) (G0 _ _ (by decide) (by decide)) eX8_init_144 rfl ?_
  refine N_geF (G0 _ _ (by decide) (by decide)) eX8_init_146 (by decide) ?_
  refine N_aload_n (i := 0) (G0 _ _ (by decide) (by decide)) eX8_init_149 rfl rfl ?_
  refine C_get (v := .ref (s.heap.size + 35)) (G0 _ _ (by decide) (by decide)) K ggX8_27 (by rfl) eX8_init_150 ?_
  refine N_iload (G0 _ _ (by decide) (by decide)) eX8_init_153 rfl ?_
  refine N_iconst (n := -1) (v := (-1)) (G0 _ _ (by decide) (by decide)) eX8_init_155 rfl ?_
  refine C_iast (q := 35) (n := 16) (G0 _ _ (by decide) (by decide)) K (cOk_this ho) (by rfl) (by exact vp_in_nI (by decide) (by decide)) eX8_init_156 ?_
  refine N_iincC (i := 4) (v := (nI 12)) (L' := [some (.ref o), some (.ref a1), some (.ref a2), some (.ref a3), some (.int (nI 12))]) (G0 _ _ (by decide) (by decide)) eX8_init_157 rfl (by decide) (by decide) rfl rfl ?_
  refine N_goto (G0 _ _ (by decide) (by decide)) eX8_init_160 ?_
  refine N_iload (G0 _ _ (by decide) (by decide)) eX8_init_142 rfl ?_
  refine N_bipush (n := 16) (v := (nI 16)) (G0 _ _ (by decide) (by decide)) eX8_init_144 rfl ?_
  refine N_geF (G0 _ _ (by decide) (by decide)) eX8_init_146 (by decide) ?_
  refine N_aload_n (i := 0) (G0 _ _ (by decide) (by decide)) eX8_init_149 rfl rfl ?_
  refine C_get (v := .ref (s.heap.size + 35)) (G0 _ _ (by decide) (by decide)) K ggX8_27 (by rfl) eX8_init_150 ?_
  refine N_iload (G0 _ _ (by decide) (by decide)) eX8_init_153 rfl ?_
  refine N_iconst (n := -1) (v := (-1)) (G0 _ _ (by decide) (by decide)) eX8_init_155 rfl ?_
  refine C_iast (q := 35) (n := 16) (G0 _ _ (by decide) (by decide)) K (cOk_this ho) (by rfl) (by exact vp_in_nI (by decide) (by decide)) eX8_init_156 ?_
  refine N_iincC (i := 4) (v := (nI 13)) (L' := [some (.ref o), some (.ref a1), some (.ref a2), some (.ref a3), some (.int (nI 13))]) (G0 _ _ (by decide) (by decide)) eX8_init_157 rfl (by decide) (by decide) rfl rfl ?_
  refine N_goto (G0 _ _ (by decide) (by decide)) eX8_init_160 ?_
  refine N_iload (G0 _ _ (by decide) (by decide)) eX8_init_142 rfl ?_
  refine N_bipush (n := 16) (v := (nI 16)) (G0 _ _ (by decide) (by decide)) eX8_init_144 rfl ?_
  refine N_geF (G0 _ _ (by decide) (by decide)) eX8_init_146 (by decide) ?_
  refine N_aload_n (i := 0) (G0 _ _ (by decide) (by decide)) eX8_init_149 rfl rfl ?_
  refine C_get (v := .ref (s.heap.size + 35)) (G0 _ _ (by decide) (by decide)) K ggX8_27 (by rfl) eX8_init_150 ?_
  refine N_iload (G0 _ _ (by decide) (by decide)) eX8_init_153 rfl ?_
  refine N_iconst (n := -1) (v := (-1)) (G0 _ _ (by decide) (by decide)) eX8_init_155 rfl ?_
  refine C_iast (q := 35) (n := 16) (G0 _ _ (by decide) (by decide)) K (cOk_this ho) (by rfl) (by exact vp_in_nI (by decide) (by decide)) eX8_init_156 ?_
  refine N_iincC (i := 4) (v := (nI 14)) (L' := [some (.ref o), some (.ref a1), some (.ref a2), some (.ref a3), some (.int (nI 14))]) (G0 _ _ (by decide) (by decide)) eX8_init_157 rfl (by decide) (by decide) rfl rfl ?_
  refine N_goto (G0 _ _ (by decide) (by decide)) eX8_init_160 ?_
  refine N_iload (G0 _ _ (by decide) (by decide)) eX8_init_142 rfl ?_
  refine N_bipush (n := 16) (v := (nI 16)) (G0 _ _ (by decide) (by decide)) eX8_init_144 rfl ?_
  refine N_geF (G0 _ _ (by decide) (by decide)) eX8_init_146 (by decide) ?_
  refine N_aload_n (i := 0) (G0 _ _ (by decide) (by decide)) eX8_init_149 rfl rfl ?_
  refine C_get (v := .ref (s.heap.size + 35)) (G0 _ _ (by decide) (by decide)) K ggX8_27 (by rfl) eX8_init_150 ?_
  refine N_iload (G0 _ _ (by decide) (by decide)) eX8_init_153 rfl ?_
  refine N_iconst (n := -1) (v := (-1)) (G0 _ _ (by decide) (by decide)) eX8_init_155 rfl ?_
  refine C_iast (q := 35) (n := 16) (G0 _ _ (by decide) (by decide)) K (cOk_this ho) (by rfl) (by exact vp_in_nI (by decide) (by decide)) eX8_init_156 ?_
  refine N_iincC (i := 4) (v := (nI 15)) (L' := [some (.ref o), some (.ref a1), some (.ref a2), some (.ref a3), some (.int (nI 15))]) (G0 _ _ (by decide) (by decide)) eX8_init_157 rfl (by decide) (by decide) rfl rfl ?_
  refine N_goto (G0 _ _ (by decide) (by decide)) eX8_init_160 ?_
  refine N_iload (G0 _ _ (by decide) (by decide)) eX8_init_142 rfl ?_
  refine N_bipush (n := 16) (v := (nI 16)) (G0 _ _ (by decide) (by decide)) eX8_init_144 rfl ?_
  refine N_geF (G0 _ _ (by decide) (by decide)) eX8_init_146 (by decide) ?_
  refine N_aload_n (i := 0) (G0 _ _ (by decide) (by decide)) eX8_init_149 rfl rfl ?_
  refine C_get (v := .ref (s.heap.size + 35)) (G0 _ _ (by decide) (by decide)) K ggX8_27 (by rfl) eX8_init_150 ?_
  refine N_iload (G0 _ _ (by decide) (by decide)) eX8_init_153 rfl ?_
  refine N_iconst (n := -1) (v := (-1)) (G0 _ _ (by decide) (by decide)) eX8_init_155 rfl ?_
  refine C_iast (q := 35) (n := 16) (G0 _ _ (by decide) (by decide)) K (cOk_this ho) (by rfl) (by exact vp_in_nI (by decide) (by decide)) eX8_init_156 ?_
  refine N_iincC (i := 4) (v := (nI 16)) (L' := [some (.ref o), some (.ref a1), some (.ref a2), some (.ref a3), some (.int (nI 16))]) (G0 _ _ (by decide) (by decide)) eX8_init_157 rfl (by decide) (by decide) rfl rfl ?_
  refine N_goto (G0 _ _ (by decide) (by decide)) eX8_init_160 ?_
  refine N_iload (G0 _ _ (by decide) (by decide)) eX8_init_142 rfl ?_
  refine N_bipush (n := 16) (v := (nI 16)) (G0 _ _ (by decide) (by decide)) eX8_init_144 rfl ?_
  refine N_geT (G0 _ _ (by decide) (by decide)) eX8_init_146 (by decide) ?_
  exact C_ret (G0 _ _ (by decide) (by decide)) hr hlk rfl eX8_init_163
def X10_fs (h : Nat) (a1 : Nat) (a2 : Nat) (a3 : Nat) (a4 : Nat) : List Value := [.ref a1, .ref a2, .ref a3, .ref a4, .ref (h + 0), .ref (h + 1), .ref (h + 2), .ref (h + 3)]
def X10_ds (w : Wld) (h : Nat) : List va_E := [.inl (w.2.1 0, (100, .inl (fun _ => 0))), .inl (w.2.1 0, (8, .inl (fun _ => 0))), .inl (w.2.1 0, (300, .inl (fun _ => 0))), .inl (w.2.1 0, (300, .inl (fun _ => 0)))]
set_option maxRecDepth 100000 in
set_option maxHeartbeats 4000000 in
theorem X10_c {l : Launch} {w : Wld} {o sz a1 a2 a3 a4 : Nat} : CtC l w yX10_init cX10_init 5 1 [.ref o, .ref a1, .ref a2, .ref a3, .ref a4] o 10 sz [.null, .null, .null, .null, .null, .null, .null, .null] (X10_fs sz a1 a2 a3 a4) (X10_ds w) 4 708 := by
  refine CtC_of (own := "PotBook$Taster") [some (.ref o), some (.ref a1), some (.ref a2), some (.ref a3), some (.ref a4)] (by decide +kernel) rfl rfl rfl (Nat.le_of_ble_eq_true rfl) ?_
  intro p e s m args below meth c hx hb hml hown hts K hsz ho hin hr hlk
  subst hsz
  have G0 : ∀ kc ns : Nat, kc ≤ 4 → ns ≤ 708 → Cxg p (rmC 1 4 708) s m args meth c cX10_init 5 "PotBook$Taster" kc ns := fun kc ns h1 h2 => ⟨hx, hb, hml, hown, hts, h1, h2⟩
  refine N_aload_n (i := 0) (G0 _ _ (by decide) (by decide)) eX10_init_0 rfl rfl ?_
  refine C_objInit (G0 _ _ (by decide) (by decide)) oiX10_3 (by decide) (Nat.le_of_ble_eq_true rfl) (by decide) eX10_init_1 ?_
  refine N_aload_n (i := 0) (G0 _ _ (by decide) (by decide)) eX10_init_4 rfl rfl ?_
  refine N_bipush (n := 100) (v := (nI 100)) (G0 _ _ (by decide) (by decide)) eX10_init_5 rfl ?_
  refine C_newarr (ty := .int) (i := 0) (atype := .int) (N := 100) (z := (100, .inl (fun _ => 0))) (G0 _ _ (by decide) (by decide)) K rfl rfl (fun _ h => h) aw_I (by decide) (by decide) (by decide) (fun _ => rfl) (by decide) (by decide) eX10_init_7 ?_
  refine C_putF (G0 _ _ (by decide) (by decide)) K hin ho ffX10_9 rfl rfl (by exact Nat.le_of_ble_eq_true rfl) eX10_init_9 ?_
  refine N_aload_n (i := 0) (G0 _ _ (by decide) (by decide)) eX10_init_12 rfl rfl ?_
  refine N_bipush (n := 8) (v := (nI 8)) (G0 _ _ (by decide) (by decide)) eX10_init_13 rfl ?_
  refine C_newarr (ty := .int) (i := 0) (atype := .int) (N := 8) (z := (8, .inl (fun _ => 0))) (G0 _ _ (by decide) (by decide)) K rfl rfl (fun _ h => h) aw_I (by decide) (by decide) (by decide) (fun _ => rfl) (by decide) (by decide) eX10_init_15 ?_
  refine C_putF (G0 _ _ (by decide) (by decide)) K hin ho ffX10_15 rfl rfl (by exact Nat.le_of_ble_eq_true rfl) eX10_init_17 ?_
  refine N_aload_n (i := 0) (G0 _ _ (by decide) (by decide)) eX10_init_20 rfl rfl ?_
  refine N_sipush (n := 300) (v := (nI 300)) (G0 _ _ (by decide) (by decide)) eX10_init_21 rfl ?_
  refine C_newarr (ty := .int) (i := 0) (atype := .int) (N := 300) (z := (300, .inl (fun _ => 0))) (G0 _ _ (by decide) (by decide)) K rfl rfl (fun _ h => h) aw_I (by decide) (by decide) (by decide) (fun _ => rfl) (by decide) (by decide) eX10_init_24 ?_
  refine C_putF (G0 _ _ (by decide) (by decide)) K hin ho ffX10_18 rfl rfl (by exact Nat.le_of_ble_eq_true rfl) eX10_init_26 ?_
  refine N_aload_n (i := 0) (G0 _ _ (by decide) (by decide)) eX10_init_29 rfl rfl ?_
  refine N_sipush (n := 300) (v := (nI 300)) (G0 _ _ (by decide) (by decide)) eX10_init_30 rfl ?_
  refine C_newarr (ty := .int) (i := 0) (atype := .int) (N := 300) (z := (300, .inl (fun _ => 0))) (G0 _ _ (by decide) (by decide)) K rfl rfl (fun _ h => h) aw_I (by decide) (by decide) (by decide) (fun _ => rfl) (by decide) (by decide) eX10_init_33 ?_
  refine C_putF (G0 _ _ (by decide) (by decide)) K hin ho ffX10_21 rfl rfl (by exact Nat.le_of_ble_eq_true rfl) eX10_init_35 ?_
  refine N_aload_n (i := 0) (G0 _ _ (by decide) (by decide)) eX10_init_38 rfl rfl ?_
  refine N_aload_n (i := 1) (G0 _ _ (by decide) (by decide)) eX10_init_39 rfl rfl ?_
  refine C_putF (G0 _ _ (by decide) (by decide)) K hin ho ffX10_24 rfl rfl (by exact Nat.le_of_ble_eq_true rfl) eX10_init_40 ?_
  refine N_aload_n (i := 0) (G0 _ _ (by decide) (by decide)) eX10_init_43 rfl rfl ?_
  refine N_aload_n (i := 2) (G0 _ _ (by decide) (by decide)) eX10_init_44 rfl rfl ?_
  refine C_putF (G0 _ _ (by decide) (by decide)) K hin ho ffX10_28 rfl rfl (by exact Nat.le_of_ble_eq_true rfl) eX10_init_45 ?_
  refine N_aload_n (i := 0) (G0 _ _ (by decide) (by decide)) eX10_init_48 rfl rfl ?_
  refine N_aload_n (i := 3) (G0 _ _ (by decide) (by decide)) eX10_init_49 rfl rfl ?_
  refine C_putF (G0 _ _ (by decide) (by decide)) K hin ho ffX10_32 rfl rfl (by exact Nat.le_of_ble_eq_true rfl) eX10_init_50 ?_
  refine N_aload_n (i := 0) (G0 _ _ (by decide) (by decide)) eX10_init_53 rfl rfl ?_
  refine N_aload (G0 _ _ (by decide) (by decide)) eX10_init_54 rfl ?_
  refine C_putF (G0 _ _ (by decide) (by decide)) K hin ho ffX10_36 rfl rfl (by exact Nat.le_of_ble_eq_true rfl) eX10_init_56 ?_
  exact C_ret (G0 _ _ (by decide) (by decide)) hr hlk rfl eX10_init_59
def X2_fs (h : Nat) (a1 : Nat) : List Value := [.ref a1, .ref (h + 0), .ref (h + 17), .ref (h + 34), .ref (h + 35), .ref (h + 36), .ref (h + 37)]
def X2_ds (w : Wld) (h : Nat) : List va_E := [eOut w 3 16 (h + 0), .inl (w.2.1 0, (16, .inl (fun _ => 0))), .inl (w.2.1 0, (16, .inl (fun _ => 0))), .inl (w.2.1 0, (16, .inl (fun _ => 0))), .inl (w.2.1 0, (16, .inl (fun _ => 0))), .inl (w.2.1 0, (16, .inl (fun _ => 0))), .inl (w.2.1 0, (16, .inl (fun _ => 0))), .inl (w.2.1 0, (16, .inl (fun _ => 0))), .inl (w.2.1 0, (16, .inl (fun _ => 0))), .inl (w.2.1 0, (16, .inl (fun _ => 0))), .inl (w.2.1 0, (16, .inl (fun _ => 0))), .inl (w.2.1 0, (16, .inl (fun _ => 0))), .inl (w.2.1 0, (16, .inl (fun _ => 0))), .inl (w.2.1 0, (16, .inl (fun _ => 0))), .inl (w.2.1 0, (16, .inl (fun _ => 0))), .inl (w.2.1 0, (16, .inl (fun _ => 0))), .inl (w.2.1 0, (16, .inl (fun _ => 0))), eOut w 3 16 (h + 17), .inl (w.2.1 0, (16, .inl (fun _ => 0))), .inl (w.2.1 0, (16, .inl (fun _ => 0))), .inl (w.2.1 0, (16, .inl (fun _ => 0))), .inl (w.2.1 0, (16, .inl (fun _ => 0))), .inl (w.2.1 0, (16, .inl (fun _ => 0))), .inl (w.2.1 0, (16, .inl (fun _ => 0))), .inl (w.2.1 0, (16, .inl (fun _ => 0))), .inl (w.2.1 0, (16, .inl (fun _ => 0))), .inl (w.2.1 0, (16, .inl (fun _ => 0))), .inl (w.2.1 0, (16, .inl (fun _ => 0))), .inl (w.2.1 0, (16, .inl (fun _ => 0))), .inl (w.2.1 0, (16, .inl (fun _ => 0))), .inl (w.2.1 0, (16, .inl (fun _ => 0))), .inl (w.2.1 0, (16, .inl (fun _ => 0))), .inl (w.2.1 0, (16, .inl (fun _ => 0))), .inl (w.2.1 0, (16, .inl (fun _ => 0))), .inl (w.2.1 0, (16, .inl (fun _ => 0))), .inl (w.2.1 0, (73, .inl (fun _ => 0))), .inl (w.2.1 0, (16, .inl (fun _ => 0))), .inl (w.2.1 1, (16, .inl (fun _ => 0)))]
set_option maxRecDepth 100000 in
set_option maxHeartbeats 4000000 in
theorem X2_c {l : Launch} {w : Wld} {o sz a1 : Nat} : CtC l w yX2_init cX2_init 2 1 [.ref o, .ref a1] o 2 sz [.null, .null, .null, .null, .null, .null, .null] (X2_fs sz a1) (X2_ds w) 38 665 := by
  refine CtC_of (own := "PotBook$Kin") [some (.ref o), some (.ref a1)] (by decide +kernel) rfl rfl rfl (Nat.le_of_ble_eq_true rfl) ?_
  intro p e s m args below meth c hx hb hml hown hts K hsz ho hin hr hlk
  subst hsz
  have G0 : ∀ kc ns : Nat, kc ≤ 38 → ns ≤ 665 → Cxg p (rmC 1 38 665) s m args meth c cX2_init 2 "PotBook$Kin" kc ns := fun kc ns h1 h2 => ⟨hx, hb, hml, hown, hts, h1, h2⟩
  refine N_aload_n (i := 0) (G0 _ _ (by decide) (by decide)) eX2_init_0 rfl rfl ?_
  refine C_objInit (G0 _ _ (by decide) (by decide)) oiX2_3 (by decide) (Nat.le_of_ble_eq_true rfl) (by decide) eX2_init_1 ?_
  refine N_aload_n (i := 0) (G0 _ _ (by decide) (by decide)) eX2_init_4 rfl rfl ?_
  refine N_bipush (n := 16) (v := (nI 16)) (G0 _ _ (by decide) (by decide)) eX2_init_5 rfl ?_
  refine N_bipush (n := 16) (v := (nI 16)) (G0 _ _ (by decide) (by decide)) eX2_init_7 rfl ?_
  refine C_mna (ty := .int) (i := 0) (i' := 3) (N := 16) (M := 16) (z := (16, .inl (fun _ => 0))) (G0 _ _ (by decide) (by decide)) K rfl rfl clX2_9 K.2.2.1 aw_I (fun _ h => h) (fun _ h => h) (by decide) (by decide) (by decide) (by decide) (by decide) (by decide) (by decide) rfl rfl (fun _ => inner_i) (by decide) (by decide) eX2_init_9 ?_
  refine C_putF (G0 _ _ (by decide) (by decide)) K hin ho ffX2_11 rfl rfl (by exact Nat.le_of_ble_eq_true rfl) eX2_init_13 ?_
  refine N_aload_n (i := 0) (G0 _ _ (by decide) (by decide)) eX2_init_16 rfl rfl ?_
  refine N_bipush (n := 16) (v := (nI 16)) (G0 _ _ (by decide) (by decide)) eX2_init_17 rfl ?_
  refine N_bipush (n := 16) (v := (nI 16)) (G0 _ _ (by decide) (by decide)) eX2_init_19 rfl ?_
  refine C_mna (ty := .int) (i := 0) (i' := 3) (N := 16) (M := 16) (z := (16, .inl (fun _ => 0))) (G0 _ _ (by decide) (by decide)) K rfl rfl clX2_9 K.2.2.1 aw_I (fun _ h => h) (fun _ h => h) (by decide) (by decide) (by decide) (by decide) (by decide) (by decide) (by decide) rfl rfl (fun _ => inner_i) (by decide) (by decide) eX2_init_21 ?_
  refine C_putF (G0 _ _ (by decide) (by decide)) K hin ho ffX2_16 rfl rfl (by exact Nat.le_of_ble_eq_true rfl) eX2_init_25 ?_
  refine N_aload_n (i := 0) (G0 _ _ (by decide) (by decide)) eX2_init_28 rfl rfl ?_
  refine N_bipush (n := 16) (v := (nI 16)) (G0 _ _ (by decide) (by decide)) eX2_init_29 rfl ?_
  refine C_newarr (ty := .int) (i := 0) (atype := .int) (N := 16) (z := (16, .inl (fun _ => 0))) (G0 _ _ (by decide) (by decide)) K rfl rfl (fun _ h => h) aw_I (by decide) (by decide) (by decide) (fun _ => rfl) (by decide) (by decide) eX2_init_31 ?_
  refine C_putF (G0 _ _ (by decide) (by decide)) K hin ho ffX2_19 rfl rfl (by exact Nat.le_of_ble_eq_true rfl) eX2_init_33 ?_
  refine N_aload_n (i := 0) (G0 _ _ (by decide) (by decide)) eX2_init_36 rfl rfl ?_
  refine N_bipush (n := 73) (v := (nI 73)) (G0 _ _ (by decide) (by decide)) eX2_init_37 rfl ?_
  refine C_newarr (ty := .int) (i := 0) (atype := .int) (N := 73) (z := (73, .inl (fun _ => 0))) (G0 _ _ (by decide) (by decide)) K rfl rfl (fun _ h => h) aw_I (by decide) (by decide) (by decide) (fun _ => rfl) (by decide) (by decide) eX2_init_39 ?_
  refine C_putF (G0 _ _ (by decide) (by decide)) K hin ho ffX2_23 rfl rfl (by exact Nat.le_of_ble_eq_true rfl) eX2_init_41 ?_
  refine N_aload_n (i := 0) (G0 _ _ (by decide) (by decide)) eX2_init_44 rfl rfl ?_
  refine N_bipush (n := 16) (v := (nI 16)) (G0 _ _ (by decide) (by decide)) eX2_init_45 rfl ?_
  refine C_newarr (ty := .int) (i := 0) (atype := .int) (N := 16) (z := (16, .inl (fun _ => 0))) (G0 _ _ (by decide) (by decide)) K rfl rfl (fun _ h => h) aw_I (by decide) (by decide) (by decide) (fun _ => rfl) (by decide) (by decide) eX2_init_47 ?_
  refine C_putF (G0 _ _ (by decide) (by decide)) K hin ho ffX2_26 rfl rfl (by exact Nat.le_of_ble_eq_true rfl) eX2_init_49 ?_
  refine N_aload_n (i := 0) (G0 _ _ (by decide) (by decide)) eX2_init_52 rfl rfl ?_
  refine N_bipush (n := 16) (v := (nI 16)) (G0 _ _ (by decide) (by decide)) eX2_init_53 rfl ?_
  refine C_newarr (ty := .boolean) (i := 1) (atype := .boolean) (N := 16) (z := (16, .inl (fun _ => 0))) (G0 _ _ (by decide) (by decide)) K rfl rfl (fun _ h => h) aw_Z (by decide) (by decide) (by decide) (fun _ => rfl) (by decide) (by decide) eX2_init_55 ?_
  refine C_putF (G0 _ _ (by decide) (by decide)) K hin ho ffX2_29 rfl rfl (by exact Nat.le_of_ble_eq_true rfl) eX2_init_57 ?_
  refine N_aload_n (i := 0) (G0 _ _ (by decide) (by decide)) eX2_init_60 rfl rfl ?_
  refine N_aload_n (i := 1) (G0 _ _ (by decide) (by decide)) eX2_init_61 rfl rfl ?_
  refine C_putF (G0 _ _ (by decide) (by decide)) K hin ho ffX2_33 rfl rfl (by exact Nat.le_of_ble_eq_true rfl) eX2_init_62 ?_
  exact C_ret (G0 _ _ (by decide) (by decide)) hr hlk rfl eX2_init_65
def X1_fs (h : Nat) : List Value := [.ref (h + 0), .ref (h + 1), .ref (h + 2), .ref (h + 11), .ref (h + 25), .ref (h + 39), .int 0]
def X1_ds (w : Wld) (h : Nat) : List va_E := [.inl (w.2.1 0, (12, .inl (fun _ => 0))), .inl (w.2.1 0, (12, .inl (fun _ => 0))), eOut w 3 8 (h + 2), .inl (w.2.1 0, 8, .inl (upd (upd (upd (upd (upd (upd (upd (upd (fun _ => 0) (nI 0).toNatClampNeg (nI 0)) (nI 1).toNatClampNeg (nI 10)) (nI 2).toNatClampNeg (nI 10)) (nI 3).toNatClampNeg (nI 10)) (nI 4).toNatClampNeg (nI 10)) (nI 5).toNatClampNeg (nI 10)) (nI 6).toNatClampNeg (nI 10)) (nI 7).toNatClampNeg (nI 10))), .inl (w.2.1 0, 8, .inl (upd (upd (upd (upd (upd (upd (upd (upd (fun _ => 0) (nI 0).toNatClampNeg (nI 10)) (nI 1).toNatClampNeg (nI 0)) (nI 2).toNatClampNeg (nI 10)) (nI 3).toNatClampNeg (nI 10)) (nI 4).toNatClampNeg (nI 10)) (nI 5).toNatClampNeg (nI 10)) (nI 6).toNatClampNeg (nI 10)) (nI 7).toNatClampNeg (nI 10))), .inl (w.2.1 0, 8, .inl (upd (upd (upd (upd (upd (upd (upd (upd (fun _ => 0) (nI 0).toNatClampNeg (nI 10)) (nI 1).toNatClampNeg (nI 10)) (nI 2).toNatClampNeg (nI 0)) (nI 3).toNatClampNeg (nI 10)) (nI 4).toNatClampNeg (nI 10)) (nI 5).toNatClampNeg (nI 10)) (nI 6).toNatClampNeg (nI 10)) (nI 7).toNatClampNeg (nI 10))), .inl (w.2.1 0, 8, .inl (upd (upd (upd (upd (upd (upd (upd (upd (fun _ => 0) (nI 0).toNatClampNeg (nI 10)) (nI 1).toNatClampNeg (nI 10)) (nI 2).toNatClampNeg (nI 10)) (nI 3).toNatClampNeg (nI 0)) (nI 4).toNatClampNeg (nI 10)) (nI 5).toNatClampNeg (nI 10)) (nI 6).toNatClampNeg (nI 10)) (nI 7).toNatClampNeg (nI 10))), .inl (w.2.1 0, 8, .inl (upd (upd (upd (upd (upd (upd (upd (upd (fun _ => 0) (nI 0).toNatClampNeg (nI 10)) (nI 1).toNatClampNeg (nI 10)) (nI 2).toNatClampNeg (nI 10)) (nI 3).toNatClampNeg (nI 10)) (nI 4).toNatClampNeg (nI 0)) (nI 5).toNatClampNeg (nI 10)) (nI 6).toNatClampNeg (nI 10)) (nI 7).toNatClampNeg (nI 10))), .inl (w.2.1 0, 8, .inl (upd (upd (upd (upd (upd (upd (upd (upd (fun _ => 0) (nI 0).toNatClampNeg (nI 10)) (nI 1).toNatClampNeg (nI 10)) (nI 2).toNatClampNeg (nI 10)) (nI 3).toNatClampNeg (nI 10)) (nI 4).toNatClampNeg (nI 10)) (nI 5).toNatClampNeg (nI 0)) (nI 6).toNatClampNeg (nI 10)) (nI 7).toNatClampNeg (nI 10))), .inl (w.2.1 0, 8, .inl (upd (upd (upd (upd (upd (upd (upd (upd (fun _ => 0) (nI 0).toNatClampNeg (nI 10)) (nI 1).toNatClampNeg (nI 10)) (nI 2).toNatClampNeg (nI 10)) (nI 3).toNatClampNeg (nI 10)) (nI 4).toNatClampNeg (nI 10)) (nI 5).toNatClampNeg (nI 10)) (nI 6).toNatClampNeg (nI 0)) (nI 7).toNatClampNeg (nI 10))), .inl (w.2.1 0, 8, .inl (upd (upd (upd (upd (upd (upd (upd (upd (fun _ => 0) (nI 0).toNatClampNeg (nI 10)) (nI 1).toNatClampNeg (nI 10)) (nI 2).toNatClampNeg (nI 10)) (nI 3).toNatClampNeg (nI 10)) (nI 4).toNatClampNeg (nI 10)) (nI 5).toNatClampNeg (nI 10)) (nI 6).toNatClampNeg (nI 10)) (nI 7).toNatClampNeg (nI 0))), eOut w 3 13 (h + 11), .inl (w.2.1 0, (8, .inl (fun _ => 0))), .inl (w.2.1 0, (8, .inl (fun _ => 0))), .inl (w.2.1 0, (8, .inl (fun _ => 0))), .inl (w.2.1 0, (8, .inl (fun _ => 0))), .inl (w.2.1 0, (8, .inl (fun _ => 0))), .inl (w.2.1 0, (8, .inl (fun _ => 0))), .inl (w.2.1 0, (8, .inl (fun _ => 0))), .inl (w.2.1 0, (8, .inl (fun _ => 0))), .inl (w.2.1 0, (8, .inl (fun _ => 0))), .inl (w.2.1 0, (8, .inl (fun _ => 0))), .inl (w.2.1 0, (8, .inl (fun _ => 0))), .inl (w.2.1 0, (8, .inl (fun _ => 0))), .inl (w.2.1 0, (8, .inl (fun _ => 0))), eOut w 4 13 (h + 25), .inl (w.2.1 2, (8, .inr (.inl (fun _ => 0)))), .inl (w.2.1 2, (8, .inr (.inl (fun _ => 0)))), .inl (w.2.1 2, (8, .inr (.inl (fun _ => 0)))), .inl (w.2.1 2, (8, .inr (.inl (fun _ => 0)))), .inl (w.2.1 2, (8, .inr (.inl (fun _ => 0)))), .inl (w.2.1 2, (8, .inr (.inl (fun _ => 0)))), .inl (w.2.1 2, (8, .inr (.inl (fun _ => 0)))), .inl (w.2.1 2, (8, .inr (.inl (fun _ => 0)))), .inl (w.2.1 2, (8, .inr (.inl (fun _ => 0)))), .inl (w.2.1 2, (8, .inr (.inl (fun _ => 0)))), .inl (w.2.1 2, (8, .inr (.inl (fun _ => 0)))), .inl (w.2.1 2, (8, .inr (.inl (fun _ => 0)))), .inl (w.2.1 2, (8, .inr (.inl (fun _ => 0)))), .inl (w.2.1 0, (13, .inl (fun _ => 0)))]
set_option maxRecDepth 100000 in
set_option maxHeartbeats 4000000 in
theorem X1_c {l : Launch} {w : Wld} {o sz : Nat} : CtC l w yX1_init cX1_init 3 1 [.ref o] o 1 sz [.null, .null, .null, .null, .null, .null, .int 0] (X1_fs sz) (X1_ds w) 40 343 := by
  refine CtC_of (own := "PotBook$Copies") [some (.ref o), none, none] (by decide +kernel) rfl rfl rfl (Nat.le_of_ble_eq_true rfl) ?_
  intro p e s m args below meth c hx hb hml hown hts K hsz ho hin hr hlk
  subst hsz
  have G0 : ∀ kc ns : Nat, kc ≤ 40 → ns ≤ 343 → Cxg p (rmC 1 40 343) s m args meth c cX1_init 3 "PotBook$Copies" kc ns := fun kc ns h1 h2 => ⟨hx, hb, hml, hown, hts, h1, h2⟩
  refine N_aload_n (i := 0) (G0 _ _ (by decide) (by decide)) eX1_init_0 rfl rfl ?_
  refine C_objInit (G0 _ _ (by decide) (by decide)) oiX1_3 (by decide) (Nat.le_of_ble_eq_true rfl) (by decide) eX1_init_1 ?_
  refine N_aload_n (i := 0) (G0 _ _ (by decide) (by decide)) eX1_init_4 rfl rfl ?_
  refine N_bipush (n := 12) (v := (nI 12)) (G0 _ _ (by decide) (by decide)) eX1_init_5 rfl ?_
  refine C_newarr (ty := .int) (i := 0) (atype := .int) (N := 12) (z := (12, .inl (fun _ => 0))) (G0 _ _ (by decide) (by decide)) K rfl rfl (fun _ h => h) aw_I (by decide) (by decide) (by decide) (fun _ => rfl) (by decide) (by decide) eX1_init_7 ?_
  refine C_putF (G0 _ _ (by decide) (by decide)) K hin ho ffX1_9 rfl rfl (by exact Nat.le_of_ble_eq_true rfl) eX1_init_9 ?_
  refine N_aload_n (i := 0) (G0 _ _ (by decide) (by decide)) eX1_init_12 rfl rfl ?_
  refine N_bipush (n := 12) (v := (nI 12)) (G0 _ _ (by decide) (by decide)) eX1_init_13 rfl ?_
  refine C_newarr (ty := .int) (i := 0) (atype := .int) (N := 12) (z := (12, .inl (fun _ => 0))) (G0 _ _ (by decide) (by decide)) K rfl rfl (fun _ h => h) aw_I (by decide) (by decide) (by decide) (fun _ => rfl) (by decide) (by decide) eX1_init_15 ?_
  refine C_putF (G0 _ _ (by decide) (by decide)) K hin ho ffX1_15 rfl rfl (by exact Nat.le_of_ble_eq_true rfl) eX1_init_17 ?_
  refine N_aload_n (i := 0) (G0 _ _ (by decide) (by decide)) eX1_init_20 rfl rfl ?_
  refine N_bipush (n := 8) (v := (nI 8)) (G0 _ _ (by decide) (by decide)) eX1_init_21 rfl ?_
  refine N_bipush (n := 8) (v := (nI 8)) (G0 _ _ (by decide) (by decide)) eX1_init_23 rfl ?_
  refine C_mna (ty := .int) (i := 0) (i' := 3) (N := 8) (M := 8) (z := (8, .inl (fun _ => 0))) (G0 _ _ (by decide) (by decide)) K rfl rfl clX1_18 K.2.2.1 aw_I (fun _ h => h) (fun _ h => h) (by decide) (by decide) (by decide) (by decide) (by decide) (by decide) (by decide) rfl rfl (fun _ => inner_i) (by decide) (by decide) eX1_init_25 ?_
  refine C_putF (G0 _ _ (by decide) (by decide)) K hin ho ffX1_20 rfl rfl (by exact Nat.le_of_ble_eq_true rfl) eX1_init_29 ?_
  refine N_aload_n (i := 0) (G0 _ _ (by decide) (by decide)) eX1_init_32 rfl rfl ?_
  refine N_bipush (n := 13) (v := (nI 13)) (G0 _ _ (by decide) (by decide)) eX1_init_33 rfl ?_
  refine N_bipush (n := 8) (v := (nI 8)) (G0 _ _ (by decide) (by decide)) eX1_init_35 rfl ?_
  refine C_mna (ty := .int) (i := 0) (i' := 3) (N := 13) (M := 8) (z := (8, .inl (fun _ => 0))) (G0 _ _ (by decide) (by decide)) K rfl rfl clX1_18 K.2.2.1 aw_I (fun _ h => h) (fun _ h => h) (by decide) (by decide) (by decide) (by decide) (by decide) (by decide) (by decide) rfl rfl (fun _ => inner_i) (by decide) (by decide) eX1_init_37 ?_
  refine C_putF (G0 _ _ (by decide) (by decide)) K hin ho ffX1_23 rfl rfl (by exact Nat.le_of_ble_eq_true rfl) eX1_init_41 ?_
  refine N_aload_n (i := 0) (G0 _ _ (by decide) (by decide)) eX1_init_44 rfl rfl ?_
  refine N_bipush (n := 13) (v := (nI 13)) (G0 _ _ (by decide) (by decide)) eX1_init_45 rfl ?_
  refine N_bipush (n := 8) (v := (nI 8)) (G0 _ _ (by decide) (by decide)) eX1_init_47 rfl ?_
  refine C_mna (ty := .long) (i := 2) (i' := 4) (N := 13) (M := 8) (z := (8, .inr (.inl (fun _ => 0)))) (G0 _ _ (by decide) (by decide)) K rfl rfl clX1_26 K.2.2.2 aw_J (fun _ h => h) (fun _ h => h) (by decide) (by decide) (by decide) (by decide) (by decide) (by decide) (by decide) rfl rfl (fun _ => inner_l) (by decide) (by decide) eX1_init_49 ?_
  refine C_putF (G0 _ _ (by decide) (by decide)) K hin ho ffX1_28 rfl rfl (by exact Nat.le_of_ble_eq_true rfl) eX1_init_53 ?_
  refine N_aload_n (i := 0) (G0 _ _ (by decide) (by decide)) eX1_init_56 rfl rfl ?_
  refine N_bipush (n := 13) (v := (nI 13)) (G0 _ _ (by decide) (by decide)) eX1_init_57 rfl ?_
  refine C_newarr (ty := .int) (i := 0) (atype := .int) (N := 13) (z := (13, .inl (fun _ => 0))) (G0 _ _ (by decide) (by decide)) K rfl rfl (fun _ h => h) aw_I (by decide) (by decide) (by decide) (fun _ => rfl) (by decide) (by decide) eX1_init_59 ?_
  refine C_putF (G0 _ _ (by decide) (by decide)) K hin ho ffX1_31 rfl rfl (by exact Nat.le_of_ble_eq_true rfl) eX1_init_61 ?_
  refine N_iconst (n := 0) (v := (nI 0)) (G0 _ _ (by decide) (by decide)) eX1_init_64 rfl ?_
  refine N_istoreA_n (i := 1) (L' := [some (.ref o), some (.int (nI 0)), none]) (G0 _ _ (by decide) (by decide)) rfl eX1_init_65 (by decide) rfl rfl ?_
  refine N_iload_n (i := 1) (G0 _ _ (by decide) (by decide)) eX1_init_66 rfl rfl ?_
  refine N_bipush (n := 8) (v := (nI 8)) (G0 _ _ (by decide) (by decide)) eX1_init_67 rfl ?_
  refine N_geF (G0 _ _ (by decide) (by decide)) eX1_init_69 (by decide) ?_
  refine N_iconst (n := 0) (v := (nI 0)) (G0 _ _ (by decide) (by decide)) eX1_init_72 rfl ?_
  refine N_istoreA_n (i := 2) (L' := [some (.ref o), some (.int (nI 0)), some (.int (nI 0))]) (G0 _ _ (by decide) (by decide)) rfl eX1_init_73 (by decide) rfl rfl ?_
  refine N_iload_n (i := 2) (G0 _ _ (by decide) (by decide)) eX1_init_74 rfl rfl ?_
  refine N_bipush (n := 8) (v := (nI 8)) (G0 _ _ (by decide) (by decide)) eX1_init_75 rfl ?_
  refine N_geF (G0 _ _ (by decide) (by decide)) eX1_init_77 (by decide) ?_
  refine N_aload_n (i := 0) (G0 _ _ (by decide) (by decide)) eX1_init_80 rfl rfl ?_
  refine C_get (v := .ref (s.heap.size + 2)) (G0 _ _ (by decide) (by decide)) K ggX1_20 (by rfl) eX1_init_81 ?_
  refine N_iload_n (i := 1) (G0 _ _ (by decide) (by decide)) eX1_init_84 rfl rfl ?_
  refine C_aald (w := w) (q := 2) (n := 8) (h := s.heap.size + 2) (a := s.heap.size + 3) (G0 _ _ (by decide) (by decide)) K rfl (by exact vp_in_nI (by decide) (by decide)) (by show s.heap.size + 2 + 1 + (nI 0).toNatClampNeg = _; rw [nI_clamp (by decide)]) eX1_init_85 ?_
  refine N_iload_n (i := 2) (G0 _ _ (by decide) (by decide)) eX1_init_86 rfl rfl ?_
  refine N_iload_n (i := 1) (G0 _ _ (by decide) (by decide)) eX1_init_87 rfl rfl ?_
  refine N_iload_n (i := 2) (G0 _ _ (by decide) (by decide)) eX1_init_88 rfl rfl ?_
  refine N_neF (G0 _ _ (by decide) (by decide)) eX1_init_89 (by decide) ?_
  refine N_iconst (n := 0) (v := (nI 0)) (G0 _ _ (by decide) (by decide)) eX1_init_92 rfl ?_
  refine N_goto (G0 _ _ (by decide) (by decide)) eX1_init_93 ?_
  refine C_iast (q := 3) (n := 8) (G0 _ _ (by decide) (by decide)) K (cOk_this ho) (by rfl) (by exact vp_in_nI (by decide) (by decide)) eX1_init_98 ?_
  refine N_iincC (i := 2) (v := (nI 1)) (L' := [some (.ref o), some (.int (nI 0)), some (.int (nI 1))]) (G0 _ _ (by decide) (by decide)) eX1_init_99 rfl (by decide) (by decide) rfl rfl ?_
  refine N_goto (G0 _ _ (by decide) (by decide)) eX1_init_102 ?_
  refine N_iload_n (i := 2) (G0 _ _ (by decide) (by decide)) eX1_init_74 rfl rfl ?_
  refine N_bipush (n := 8) (v := (nI 8)) (G0 _ _ (by decide) (by decide)) eX1_init_75 rfl ?_
  refine N_geF (G0 _ _ (by decide) (by decide)) eX1_init_77 (by decide) ?_
  refine N_aload_n (i := 0) (G0 _ _ (by decide) (by decide)) eX1_init_80 rfl rfl ?_
  refine C_get (v := .ref (s.heap.size + 2)) (G0 _ _ (by decide) (by decide)) K ggX1_20 (by rfl) eX1_init_81 ?_
  refine N_iload_n (i := 1) (G0 _ _ (by decide) (by decide)) eX1_init_84 rfl rfl ?_
  refine C_aald (w := w) (q := 2) (n := 8) (h := s.heap.size + 2) (a := s.heap.size + 3) (G0 _ _ (by decide) (by decide)) K rfl (by exact vp_in_nI (by decide) (by decide)) (by show s.heap.size + 2 + 1 + (nI 0).toNatClampNeg = _; rw [nI_clamp (by decide)]) eX1_init_85 ?_
  refine N_iload_n (i := 2) (G0 _ _ (by decide) (by decide)) eX1_init_86 rfl rfl ?_
  refine N_iload_n (i := 1) (G0 _ _ (by decide) (by decide)) eX1_init_87 rfl rfl ?_
  refine N_iload_n (i := 2) (G0 _ _ (by decide) (by decide)) eX1_init_88 rfl rfl ?_
  refine N_neT (G0 _ _ (by decide) (by decide)) eX1_init_89 (by decide) ?_
  refine N_bipush (n := 10) (v := (nI 10)) (G0 _ _ (by decide) (by decide)) eX1_init_96 rfl ?_
  refine C_iast (q := 3) (n := 8) (G0 _ _ (by decide) (by decide)) K (cOk_this ho) (by rfl) (by exact vp_in_nI (by decide) (by decide)) eX1_init_98 ?_
  refine N_iincC (i := 2) (v := (nI 2)) (L' := [some (.ref o), some (.int (nI 0)), some (.int (nI 2))]) (G0 _ _ (by decide) (by decide)) eX1_init_99 rfl (by decide) (by decide) rfl rfl ?_
  refine N_goto (G0 _ _ (by decide) (by decide)) eX1_init_102 ?_
  refine N_iload_n (i := 2) (G0 _ _ (by decide) (by decide)) eX1_init_74 rfl rfl ?_
  refine N_bipush (n := 8) (v := (nI 8)) (G0 _ _ (by decide) (by decide)) eX1_init_75 rfl ?_
  refine N_geF (G0 _ _ (by decide) (by decide)) eX1_init_77 (by decide) ?_
  refine N_aload_n (i := 0) (G0 _ _ (by decide) (by decide)) eX1_init_80 rfl rfl ?_
  refine C_get (v := .ref (s.heap.size + 2)) (G0 _ _ (by decide) (by decide)) K ggX1_20 (by rfl) eX1_init_81 ?_
  refine N_iload_n (i := 1) (G0 _ _ (by decide) (by decide)) eX1_init_84 rfl rfl ?_
  refine C_aald (w := w) (q := 2) (n := 8) (h := s.heap.size + 2) (a := s.heap.size + 3) (G0 _ _ (by decide) (by decide)) K rfl (by exact vp_in_nI (by decide) (by decide)) (by show s.heap.size + 2 + 1 + (nI 0).toNatClampNeg = _; rw [nI_clamp (by decide)]) eX1_init_85 ?_
  refine N_iload_n (i := 2) (G0 _ _ (by decide) (by decide)) eX1_init_86 rfl rfl ?_
  refine N_iload_n (i := 1) (G0 _ _ (by decide) (by decide)) eX1_init_87 rfl rfl ?_
  refine N_iload_n (i := 2) (G0 _ _ (by decide) (by decide)) eX1_init_88 rfl rfl ?_
  refine N_neT (G0 _ _ (by decide) (by decide)) eX1_init_89 (by decide) ?_
  refine N_bipush (n := 10) (v := (nI 10)) (G0 _ _ (by decide) (by decide)) eX1_init_96 rfl ?_
  refine C_iast (q := 3) (n := 8) (G0 _ _ (by decide) (by decide)) K (cOk_this ho) (by rfl) (by exact vp_in_nI (by decide) (by decide)) eX1_init_98 ?_
  refine N_iincC (i := 2) (v := (nI 3)) (L' := [some (.ref o), some (.int (nI 0)), some (.int (nI 3))]) (G0 _ _ (by decide) (by decide)) eX1_init_99 rfl (by decide) (by decide) rfl rfl ?_
  refine N_goto (G0 _ _ (by decide) (by decide)) eX1_init_102 ?_
  refine N_iload_n (i := 2) (G0 _ _ (by decide) (by decide)) eX1_init_74 rfl rfl ?_
  refine N_bipush (n := 8) (v := (nI 8)) (G0 _ _ (by decide) (by decide)) eX1_init_75 rfl ?_
  refine N_geF (G0 _ _ (by decide) (by decide)) eX1_init_77 (by decide) ?_
  refine N_aload_n (i := 0) (G0 _ _ (by decide) (by decide)) eX1_init_80 rfl rfl ?_
  refine C_get (v := .ref (s.heap.size + 2)) (G0 _ _ (by decide) (by decide)) K ggX1_20 (by rfl) eX1_init_81 ?_
  refine N_iload_n (i := 1) (G0 _ _ (by decide) (by decide)) eX1_init_84 rfl rfl ?_
  refine C_aald (w := w) (q := 2) (n := 8) (h := s.heap.size + 2) (a := s.heap.size + 3) (G0 _ _ (by decide) (by decide)) K rfl (by exact vp_in_nI (by decide) (by decide)) (by show s.heap.size + 2 + 1 + (nI 0).toNatClampNeg = _; rw [nI_clamp (by decide)]) eX1_init_85 ?_
  refine N_iload_n (i := 2) (G0 _ _ (by decide) (by decide)) eX1_init_86 rfl rfl ?_
  refine N_iload_n (i := 1) (G0 _ _ (by decide) (by decide)) eX1_init_87 rfl rfl ?_
  refine N_iload_n (i := 2) (G0 _ _ (by decide) (by decide)) eX1_init_88 rfl rfl ?_
  refine N_neT (G0 _ _ (by decide) (by decide)) eX1_init_89 (by decide) ?_
  refine N_bipush (n := 10) (v := (nI 10)) (G0 _ _ (by decide) (by decide)) eX1_init_96 rfl ?_
  refine C_iast (q := 3) (n := 8) (G0 _ _ (by decide) (by decide)) K (cOk_this ho) (by rfl) (by exact vp_in_nI (by decide) (by decide)) eX1_init_98 ?_
  refine N_iincC (i := 2) (v := (nI 4)) (L' := [some (.ref o), some (.int (nI 0)), some (.int (nI 4))]) (G0 _ _ (by decide) (by decide)) eX1_init_99 rfl (by decide) (by decide) rfl rfl ?_
  refine N_goto (G0 _ _ (by decide) (by decide)) eX1_init_102 ?_
  refine N_iload_n (i := 2) (G0 _ _ (by decide) (by decide)) eX1_init_74 rfl rfl ?_
  refine N_bipush (n := 8) (v := (nI 8)) (G0 _ _ (by decide) (by decide)) eX1_init_75 rfl ?_
  refine N_geF (G0 _ _ (by decide) (by decide)) eX1_init_77 (by decide) ?_
  refine N_aload_n (i := 0) (G0 _ _ (by decide) (by decide)) eX1_init_80 rfl rfl ?_
  refine C_get (v := .ref (s.heap.size + 2)) (G0 _ _ (by decide) (by decide)) K ggX1_20 (by rfl) eX1_init_81 ?_
  refine N_iload_n (i := 1) (G0 _ _ (by decide) (by decide)) eX1_init_84 rfl rfl ?_
  refine C_aald (w := w) (q := 2) (n := 8) (h := s.heap.size + 2) (a := s.heap.size + 3) (G0 _ _ (by decide) (by decide)) K rfl (by exact vp_in_nI (by decide) (by decide)) (by show s.heap.size + 2 + 1 + (nI 0).toNatClampNeg = _; rw [nI_clamp (by decide)]) eX1_init_85 ?_
  refine N_iload_n (i := 2) (G0 _ _ (by decide) (by decide)) eX1_init_86 rfl rfl ?_
  refine N_iload_n (i := 1) (G0 _ _ (by decide) (by decide)) eX1_init_87 rfl rfl ?_
  refine N_iload_n (i := 2) (G0 _ _ (by decide) (by decide)) eX1_init_88 rfl rfl ?_
  refine N_neT (G0 _ _ (by decide) (by decide)) eX1_init_89 (by decide) ?_
  refine N_bipush (n := 10) (v := (nI 10)) (G0 _ _ (by decide) (by decide)) eX1_init_96 rfl ?_
  refine C_iast (q := 3) (n := 8) (G0 _ _ (by decide) (by decide)) K (cOk_this ho) (by rfl) (by exact vp_in_nI (by decide) (by decide)) eX1_init_98 ?_
  refine N_iincC (i := 2) (v := (nI 5)) (L' := [some (.ref o), some (.int (nI 0)), some (.int (nI 5))]) (G0 _ _ (by decide) (by decide)) eX1_init_99 rfl (by decide) (by decide) rfl rfl ?_
  refine N_goto (G0 _ _ (by decide) (by decide)) eX1_init_102 ?_
  refine N_iload_n (i := 2) (G0 _ _ (by decide) (by decide)) eX1_init_74 rfl rfl ?_
  refine N_bipush (n := 8) (v := (nI 8)) (G0 _ _ (by decide) (by decide)) eX1_init_75 rfl ?_
  refine N_geF (G0 _ _ (by decide) (by decide)) eX1_init_77 (by decide) ?_
  refine N_aload_n (i := 0) (G0 _ _ (by decide) (by decide)) eX1_init_80 rfl rfl ?_
  refine C_get (v := .ref (s.heap.size + 2)) (G0 _ _ (by decide) (by decide)) K ggX1_20 (by rfl) eX1_init_81 ?_
  refine N_iload_n (i := 1) (G0 _ _ (by decide) (by decide)) eX1_init_84 rfl rfl ?_
  refine C_aald (w := w) (q := 2) (n := 8) (h := s.heap.size + 2) (a := s.heap.size + 3) (G0 _ _ (by decide) (by decide)) K rfl (by exact vp_in_nI (by decide) (by decide)) (by show s.heap.size + 2 + 1 + (nI 0).toNatClampNeg = _; rw [nI_clamp (by decide)]) eX1_init_85 ?_
  refine N_iload_n (i := 2) (G0 _ _ (by decide) (by decide)) eX1_init_86 rfl rfl ?_
  refine N_iload_n (i := 1) (G0 _ _ (by decide) (by decide)) eX1_init_87 rfl rfl ?_
  refine N_iload_n (i := 2) (G0 _ _ (by decide) (by decide)) eX1_init_88 rfl rfl ?_
  refine N_neT (G0 _ _ (by decide) (by decide)) eX1_init_89 (by decide) ?_
  refine N_bipush (n := 10) (v := (nI 10)) (G0 _ _ (by decide) (by decide)) eX1_init_96 rfl ?_
  refine C_iast (q := 3) (n := 8) (G0 _ _ (by decide) (by decide)) K (cOk_this ho) (by rfl) (by exact vp_in_nI (by decide) (by decide)) eX1_init_98 ?_
  refine N_iincC (i := 2) (v := (nI 6)) (L' := [some (.ref o), some (.int (nI 0)), some (.int (nI 6))]) (G0 _ _ (by decide) (by decide)) eX1_init_99 rfl (by decide) (by decide) rfl rfl ?_
  refine N_goto (G0 _ _ (by decide) (by decide)) eX1_init_102 ?_
  refine N_iload_n (i := 2) (G0 _ _ (by decide) (by decide)) eX1_init_74 rfl rfl ?_
  refine N_bipush (n := 8) (v := (nI 8)) (G0 _ _ (by decide) (by decide)) eX1_init_75 rfl ?_
  refine N_geF (G0 _ _ (by decide) (by decide)) eX1_init_77 (by decide) ?_
  refine N_aload_n (i := 0) (G0 _ _ (by decide) (by decide)) eX1_init_80 rfl rfl ?_
  refine C_get (v := .ref (s.heap.size + 2)) (G0 _ _ (by decide) (by decide)) K ggX1_20 (by rfl) eX1_init_81 ?_
  refine N_iload_n (i := 1) (G0 _ _ (by decide) (by decide)) eX1_init_84 rfl rfl ?_
  refine C_aald (w := w) (q := 2) (n := 8) (h := s.heap.size + 2) (a := s.heap.size + 3) (G0 _ _ (by decide) (by decide)) K rfl (by exact vp_in_nI (by decide) (by decide)) (by show s.heap.size + 2 + 1 + (nI 0).toNatClampNeg = _; rw [nI_clamp (by decide)]) eX1_init_85 ?_
  refine N_iload_n (i := 2) (G0 _ _ (by decide) (by decide)) eX1_init_86 rfl rfl ?_
  refine N_iload_n (i := 1) (G0 _ _ (by decide) (by decide)) eX1_init_87 rfl rfl ?_
  refine N_iload_n (i := 2) (G0 _ _ (by decide) (by decide)) eX1_init_88 rfl rfl ?_
  refine N_neT (G0 _ _ (by decide) (by decide)) eX1_init_89 (by decide) ?_
  refine N_bipush (n := 10) (v := (nI 10)) (G0 _ _ (by decide) (by decide)) eX1_init_96 rfl ?_
  refine C_iast (q := 3) (n := 8) (G0 _ _ (by decide) (by decide)) K (cOk_this ho) (by rfl) (by exact vp_in_nI (by decide) (by decide)) eX1_init_98 ?_
  refine N_iincC (i := 2) (v := (nI 7)) (L' := [some (.ref o), some (.int (nI 0)), some (.int (nI 7))]) (G0 _ _ (by decide) (by decide)) eX1_init_99 rfl (by decide) (by decide) rfl rfl ?_
  refine N_goto (G0 _ _ (by decide) (by decide)) eX1_init_102 ?_
  refine N_iload_n (i := 2) (G0 _ _ (by decide) (by decide)) eX1_init_74 rfl rfl ?_
  refine N_bipush (n := 8) (v := (nI 8)) (G0 _ _ (by decide) (by decide)) eX1_init_75 rfl ?_
  refine N_geF (G0 _ _ (by decide) (by decide)) eX1_init_77 (by decide) ?_
  refine N_aload_n (i := 0) (G0 _ _ (by decide) (by decide)) eX1_init_80 rfl rfl ?_
  refine C_get (v := .ref (s.heap.size + 2)) (G0 _ _ (by decide) (by decide)) K ggX1_20 (by rfl) eX1_init_81 ?_
  refine N_iload_n (i := 1) (G0 _ _ (by decide) (by decide)) eX1_init_84 rfl rfl ?_
  refine C_aald (w := w) (q := 2) (n := 8) (h := s.heap.size + 2) (a := s.heap.size + 3) (G0 _ _ (by decide) (by decide)) K rfl (by exact vp_in_nI (by decide) (by decide)) (by show s.heap.size + 2 + 1 + (nI 0).toNatClampNeg = _; rw [nI_clamp (by decide)]) eX1_init_85 ?_
  refine N_iload_n (i := 2) (G0 _ _ (by decide) (by decide)) eX1_init_86 rfl rfl ?_
  refine N_iload_n (i := 1) (G0 _ _ (by decide) (by decide)) eX1_init_87 rfl rfl ?_
  refine N_iload_n (i := 2) (G0 _ _ (by decide) (by decide)) eX1_init_88 rfl rfl ?_
  refine N_neT (G0 _ _ (by decide) (by decide)) eX1_init_89 (by decide) ?_
  refine N_bipush (n := 10) (v := (nI 10)) (G0 _ _ (by decide) (by decide)) eX1_init_96 rfl ?_
  refine C_iast (q := 3) (n := 8) (G0 _ _ (by decide) (by decide)) K (cOk_this ho) (by rfl) (by exact vp_in_nI (by decide) (by decide)) eX1_init_98 ?_
  refine N_iincC (i := 2) (v := (nI 8)) (L' := [some (.ref o), some (.int (nI 0)), some (.int (nI 8))]) (G0 _ _ (by decide) (by decide)) eX1_init_99 rfl (by decide) (by decide) rfl rfl ?_
  refine N_goto (G0 _ _ (by decide) (by decide)) eX1_init_102 ?_
  refine N_iload_n (i := 2) (G0 _ _ (by decide) (by decide)) eX1_init_74 rfl rfl ?_
  refine N_bipush (n := 8) (v := (nI 8)) (G0 _ _ (by decide) (by decide)) eX1_init_75 rfl ?_
  refine N_geT (G0 _ _ (by decide) (by decide)) eX1_init_77 (by decide) ?_
  refine N_iincC (i := 1) (v := (nI 1)) (L' := [some (.ref o), some (.int (nI 1)), some (.int (nI 8))]) (G0 _ _ (by decide) (by decide)) eX1_init_105 rfl (by decide) (by decide) rfl rfl ?_
  refine N_goto (G0 _ _ (by decide) (by decide)) eX1_init_108 ?_
  refine N_iload_n (i := 1) (G0 _ _ (by decide) (by decide)) eX1_init_66 rfl rfl ?_
  refine N_bipush (n := 8) (v := (nI 8)) (G0 _ _ (by decide) (by decide)) eX1_init_67 rfl ?_
  refine N_geF (G0 _ _ (by decide) (by decide)) eX1_init_69 (by decide) ?_
  refine N_iconst (n := 0) (v := (nI 0)) (G0 _ _ (by decide) (by decide)) eX1_init_72 rfl ?_
  refine N_istoreA_n (i := 2) (L' := [some (.ref o), some (.int (nI 1)), some (.int (nI 0))]) (G0 _ _ (by decide) (by decide)) rfl eX1_init_73 (by decide) rfl rfl ?_
  refine N_iload_n (i := 2) (G0 _ _ (by decide) (by decide)) eX1_init_74 rfl rfl ?_
  refine N_bipush (n := 8) (v := (nI 8)) (G0 _ _ (by decide) (by decide)) eX1_init_75 rfl ?_
  refine N_geF (G0 _ _ (by decide) (by decide)) eX1_init_77 (by decide) ?_
  refine N_aload_n (i := 0) (G0 _ _ (by decide) (by decide)) eX1_init_80 rfl rfl ?_
  refine C_get (v := .ref (s.heap.size + 2)) (G0 _ _ (by decide) (by decide)) K ggX1_20 (by rfl) eX1_init_81 ?_
  refine N_iload_n (i := 1) (G0 _ _ (by decide) (by decide)) eX1_init_84 rfl rfl ?_
  refine C_aald (w := w) (q := 2) (n := 8) (h := s.heap.size + 2) (a := s.heap.size + 4) (G0 _ _ (by decide) (by decide)) K rfl (by exact vp_in_nI (by decide) (by decide)) (by show s.heap.size + 2 + 1 + (nI 1).toNatClampNeg = _; rw [nI_clamp (by decide)]) eX1_init_85 ?_
  refine N_iload_n (i := 2) (G0 _ _ (by decide) (by decide)) eX1_init_86 rfl rfl ?_
  refine N_iload_n (i := 1) (G0 _ _ (by decide) (by decide)) eX1_init_87 rfl rfl ?_
  refine N_iload_n (i := 2) (G0 _ _ (by decide) (by decide)) eX1_init_88 rfl rfl ?_
  refine N_neT (G0 _ _ (by decide) (by decide)) eX1_init_89 (by decide) ?_
  refine N_bipush (n := 10) (v := (nI 10)) (G0 _ _ (by decide) (by decide)) eX1_init_96 rfl ?_
  refine C_iast (q := 4) (n := 8) (G0 _ _ (by decide) (by decide)) K (cOk_this ho) (by rfl) (by exact vp_in_nI (by decide) (by decide)) eX1_init_98 ?_
  refine N_iincC (i := 2) (v := (nI 1)) (L' := [some (.ref o), some (.int (nI 1)), some (.int (nI 1))]) (G0 _ _ (by decide) (by decide)) eX1_init_99 rfl (by decide) (by decide) rfl rfl ?_
  refine N_goto (G0 _ _ (by decide) (by decide)) eX1_init_102 ?_
  refine N_iload_n (i := 2) (G0 _ _ (by decide) (by decide)) eX1_init_74 rfl rfl ?_
  refine N_bipush (n := 8) (v := (nI 8)) (G0 _ _ (by decide) (by decide)) eX1_init_75 rfl ?_
  refine N_geF (G0 _ _ (by decide) (by decide)) eX1_init_77 (by decide) ?_
  refine N_aload_n (i := 0) (G0 _ _ (by decide) (by decide)) eX1_init_80 rfl rfl ?_
  refine C_get (v := .ref (s.heap.size + 2)) (G0 _ _ (by decide) (by decide)) K ggX1_20 (by rfl) eX1_init_81 ?_
  refine N_iload_n (i := 1) (G0 _ _ (by decide) (by decide)) eX1_init_84 rfl rfl ?_
  refine C_aald (w := w) (q := 2) (n := 8) (h := s.heap.size + 2) (a := s.heap.size + 4) (G0 _ _ (by decide) (by decide)) K rfl (by exact vp_in_nI (by decide) (by decide)) (by show s.heap.size + 2 + 1 + (nI 1).toNatClampNeg = _; rw [nI_clamp (by decide)]) eX1_init_85 ?_
  refine N_iload_n (i := 2) (G0 _ _ (by decide) (by decide)) eX1_init_86 rfl rfl ?_
  refine N_iload_n (i := 1) (G0 _ _ (by decide) (by decide)) eX1_init_87 rfl rfl ?_
  refine N_iload_n (i := 2) (G0 _ _ (by decide) (by decide)) eX1_init_88 rfl rfl ?_
  refine N_neF (G0 _ _ (by decide) (by decide)) eX1_init_89 (by decide) ?_
  refine N_iconst (n := 0) (v := (nI 0)) (G0 _ _ (by decide) (by decide)) eX1_init_92 rfl ?_
  refine N_goto (G0 _ _ (by decide) (by decide)) eX1_init_93 ?_
  refine C_iast (q := 4) (n := 8) (G0 _ _ (by decide) (by decide)) K (cOk_this ho) (by rfl) (by exact vp_in_nI (by decide) (by decide)) eX1_init_98 ?_
  refine N_iincC (i := 2) (v := (nI 2)) (L' := [some (.ref o), some (.int (nI 1)), some (.int (nI 2))]) (G0 _ _ (by decide) (by decide)) eX1_init_99 rfl (by decide) (by decide) rfl rfl ?_
  refine N_goto (G0 _ _ (by decide) (by decide)) eX1_init_102 ?_
  refine N_iload_n (i := 2) (G0 _ _ (by decide) (by decide)) eX1_init_74 rfl rfl ?_
  refine N_bipush (n := 8) (v := (nI 8)) (G0 _ _ (by decide) (by decide)) eX1_init_75 rfl ?_
  refine N_geF (G0 _ _ (by decide) (by decide)) eX1_init_77 (by decide) ?_
  refine N_aload_n (i := 0) (G0 _ _ (by decide) (by decide)) eX1_init_80 rfl rfl ?_
  refine C_get (v := .ref (s.heap.size + 2)) (G0 _ _ (by decide) (by decide)) K ggX1_20 (by rfl) eX1_init_81 ?_
  refine N_iload_n (i := 1) (G0 _ _ (by decide) (by decide)) eX1_init_84 rfl rfl ?_
  refine C_aald (w := w) (q := 2) (n := 8) (h := s.heap.size + 2) (a := s.heap.size + 4) (G0 _ _ (by decide) (by decide)) K rfl (by exact vp_in_nI (by decide) (by decide)) (by show s.heap.size + 2 + 1 + (nI 1).toNatClampNeg = _; rw [nI_clamp (by decide)]) eX1_init_85 ?_
  refine N_iload_n (i := 2) (G0 _ _ (by decide) (by decide)) eX1_init_86 rfl rfl ?_
  refine N_iload_n (i := 1) (G0 _ _ (by decide) (by decide)) eX1_init_87 rfl rfl ?_
  refine N_iload_n (i := 2) (G0 _ _ (by decide) (by decide)) eX1_init_88 rfl rfl ?_
  refine N_neT (G0 _ _ (by decide) (by decide)) eX1_init_89 (by decide) ?_
  refine N_bipush (n := 10) (v := (nI 10)) (G0 _ _ (by decide) (by decide)) eX1_init_96 rfl ?_
  refine C_iast (q := 4) (n := 8) (G0 _ _ (by decide) (by decide)) K (cOk_this ho) (by rfl) (by exact vp_in_nI (by decide) (by decide)) eX1_init_98 ?_
  refine N_iincC (i := 2) (v := (nI 3)) (L' := [some (.ref o), some (.int (nI 1)), some (.int (nI 3))]) (G0 _ _ (by decide) (by decide)) eX1_init_99 rfl (by decide) (by decide) rfl rfl ?_
  refine N_goto (G0 _ _ (by decide) (by decide)) eX1_init_102 ?_
  refine N_iload_n (i := 2) (G0 _ _ (by decide) (by decide)) eX1_init_74 rfl rfl ?_
  refine N_bipush (n := 8) (v := (nI 8)) (G0 _ _ (by decide) (by decide)) eX1_init_75 rfl ?_
  refine N_geF (G0 _ _ (by decide) (by decide)) eX1_init_77 (by decide) ?_
  refine N_aload_n (i := 0) (G0 _ _ (by decide) (by decide)) eX1_init_80 rfl rfl ?_
  refine C_get (v := .ref (s.heap.size + 2)) (G0 _ _ (by decide) (by decide)) K ggX1_20 (by rfl) eX1_init_81 ?_
  refine N_iload_n (i := 1) (G0 _ _ (by decide) (by decide)) eX1_init_84 rfl rfl ?_
  refine C_aald (w := w) (q := 2) (n := 8) (h := s.heap.size + 2) (a := s.heap.size + 4) (G0 _ _ (by decide) (by decide)) K rfl (by exact vp_in_nI (by decide) (by decide)) (by show s.heap.size + 2 + 1 + (nI 1).toNatClampNeg = _; rw [nI_clamp (by decide)]) eX1_init_85 ?_
  refine N_iload_n (i := 2) (G0 _ _ (by decide) (by decide)) eX1_init_86 rfl rfl ?_
  refine N_iload_n (i := 1) (G0 _ _ (by decide) (by decide)) eX1_init_87 rfl rfl ?_
  refine N_iload_n (i := 2) (G0 _ _ (by decide) (by decide)) eX1_init_88 rfl rfl ?_
  refine N_neT (G0 _ _ (by decide) (by decide)) eX1_init_89 (by decide) ?_
  refine N_bipush (n := 10) (v := (nI 10)) (G0 _ _ (by decide) (by decide)) eX1_init_96 rfl ?_
  refine C_iast (q := 4) (n := 8) (G0 _ _ (by decide) (by decide)) K (cOk_this ho) (by rfl) (by exact vp_in_nI (by decide) (by decide)) eX1_init_98 ?_
  refine N_iincC (i := 2) (v := (nI 4)) (L' := [some (.ref o), some (.int (nI 1)), some (.int (nI 4))]) (G0 _ _ (by decide) (by decide)) eX1_init_99 rfl (by decide) (by decide) rfl rfl ?_
  refine N_goto (G0 _ _ (by decide) (by decide)) eX1_init_102 ?_
  refine N_iload_n (i := 2) (G0 _ _ (by decide) (by decide)) eX1_init_74 rfl rfl ?_
  refine N_bipush (n := 8) (v := (nI 8)) (G0 _ _ (by decide) (by decide)) eX1_init_75 rfl ?_
  refine N_geF (G0 _ _ (by decide) (by decide)) eX1_init_77 (by decide) ?_
  refine N_aload_n (i := 0) (G0 _ _ (by decide) (by decide)) eX1_init_80 rfl rfl ?_
  refine C_get (v := .ref (s.heap.size + 2)) (G0 _ _ (by decide) (by decide)) K ggX1_20 (by rfl) eX1_init_81 ?_
  refine N_iload_n (i := 1) (G0 _ _ (by decide) (by decide)) eX1_init_84 rfl rfl ?_
  refine C_aald (w := w) (q := 2) (n := 8) (h := s.heap.size + 2) (a := s.heap.size + 4) (G0 _ _ (by decide) (by decide)) K rfl (by exact vp_in_nI (by decide) (by decide)) (by show s.heap.size + 2 + 1 + (nI 1).toNatClampNeg = _; rw [nI_clamp (by decide)]) eX1_init_85 ?_
  refine N_iload_n (i := 2) (G0 _ _ (by decide) (by decide)) eX1_init_86 rfl rfl ?_
  refine N_iload_n (i := 1) (G0 _ _ (by decide) (by decide)) eX1_init_87 rfl rfl ?_
  refine N_iload_n (i := 2) (G0 _ _ (by decide) (by decide)) eX1_init_88 rfl rfl ?_
  refine N_neT (G0 _ _ (by decide) (by decide)) eX1_init_89 (by decide) ?_
  refine N_bipush (n := 10) (v := (nI 10)) (G0 _ _ (by decide) (by decide)) eX1_init_96 rfl ?_
  refine C_iast (q := 4) (n := 8) (G0 _ _ (by decide) (by decide)) K (cOk_this ho) (by rfl) (by exact vp_in_nI (by decide) (by decide)) eX1_init_98 ?_
  refine N_iincC (i := 2) (v := (nI 5)) (L' := [some (.ref o), some (.int (nI 1)), some (.int (nI 5))]) (G0 _ _ (by decide) (by decide)) eX1_init_99 rfl (by decide) (by decide) rfl rfl ?_
  refine N_goto (G0 _ _ (by decide) (by decide)) eX1_init_102 ?_
  refine N_iload_n (i := 2) (G0 _ _ (by decide) (by decide)) eX1_init_74 rfl rfl ?_
  refine N_bipush (n := 8) (v := (nI 8)) (G0 _ _ (by decide) (by decide)) eX1_init_75 rfl ?_
  refine N_geF (G0 _ _ (by decide) (by decide)) eX1_init_77 (by decide) ?_
  refine N_aload_n (i := 0) (G0 _ _ (by decide) (by decide)) eX1_init_80 rfl rfl ?_
  refine C_get (v := .ref (s.heap.size + 2)) (G0 _ _ (by decide) (by decide)) K ggX1_20 (by rfl) eX1_init_81 ?_
  refine N_iload_n (i := 1) (G0 _ _ (by decide) (by decide)) eX1_init_84 rfl rfl ?_
  refine C_aald (w := w) (q := 2) (n := 8) (h := s.heap.size + 2) (a := s.heap.size + 4) (G0 _ _ (by decide) (by decide)) K rfl (by exact vp_in_nI (by decide) (by decide)) (by show s.heap.size + 2 + 1 + (nI 1).toNatClampNeg = _; rw [nI_clamp (by decide)]) eX1_init_85 ?_
  refine N_iload_n (i := 2) (G0 _ _ (by decide) (by decide)) eX1_init_86 rfl rfl ?_
  refine N_iload_n (i := 1) (G0 _ _ (by decide) (by decide)) eX1_init_87 rfl rfl ?_
  refine N_iload_n (i := 2) (G0 _ _ (by decide) (by decide)) eX1_init_88 rfl rfl ?_
  refine N_neT (G0 _ _ (by decide) (by decide)) eX1_init_89 (by decide) ?_
  refine N_bipush (n := 10) (v := (nI 10)) (G0 _ _ (by decide) (by decide)) eX1_init_96 rfl ?_
  refine C_iast (q := 4) (n := 8) (G0 _ _ (by decide) (by decide)) K (cOk_this ho) (by rfl) (by exact vp_in_nI (by decide) (by decide)) eX1_init_98 ?_
  refine N_iincC (i := 2) (v := (nI 6)) (L' := [some (.ref o), some (.int (nI 1)), some (.int (nI 6))]) (G0 _ _ (by decide) (by decide)) eX1_init_99 rfl (by decide) (by decide) rfl rfl ?_
  refine N_goto (G0 _ _ (by decide) (by decide)) eX1_init_102 ?_
  refine N_iload_n (i := 2) (G0 _ _ (by decide) (by decide)) eX1_init_74 rfl rfl ?_
  refine N_bipush (n := 8) (v := (nI 8)) (G0 _ _ (by decide) (by decide)) eX1_init_75 rfl ?_
  refine N_geF (G0 _ _ (by decide) (by decide)) eX1_init_77 (by decide) ?_
  refine N_aload_n (i := 0) (G0 _ _ (by decide) (by decide)) eX1_init_80 rfl rfl ?_
  refine C_get (v := .ref (s.heap.size + 2)) (G0 _ _ (by decide) (by decide)) K ggX1_20 (by rfl) eX1_init_81 ?_
  refine N_iload_n (i := 1) (G0 _ _ (by decide) (by decide)) eX1_init_84 rfl rfl ?_
  refine C_aald (w := w) (q := 2) (n := 8) (h := s.heap.size + 2) (a := s.heap.size + 4) (G0 _ _ (by decide) (by decide)) K rfl (by exact vp_in_nI (by decide) (by decide)) (by show s.heap.size + 2 + 1 + (nI 1).toNatClampNeg = _; rw [nI_clamp (by decide)]) eX1_init_85 ?_
  refine N_iload_n (i := 2) (G0 _ _ (by decide) (by decide)) eX1_init_86 rfl rfl ?_
  refine N_iload_n (i := 1) (G0 _ _ (by decide) (by decide)) eX1_init_87 rfl rfl ?_
  refine N_iload_n (i := 2) (G0 _ _ (by decide) (by decide)) eX1_init_88 rfl rfl ?_
  refine N_neT (G0 _ _ (by decide) (by decide)) eX1_init_89 (by decide) ?_
  refine N_bipush (n := 10) (v := (nI 10)) (G0 _ _ (by decide) (by decide)) eX1_init_96 rfl ?_
  refine C_iast (q := 4) (n := 8) (G0 _ _ (by decide) (by decide)) K (cOk_this ho) (by rfl) (by exact vp_in_nI (by decide) (by decide)) eX1_init_98 ?_
  refine N_iincC (i := 2) (v := (nI 7)) (L' := [some (.ref o), some (.int (nI 1)), some (.int (nI 7))]) (G0 _ _ (by decide) (by decide)) eX1_init_99 rfl (by decide) (by decide) rfl rfl ?_
  refine N_goto (G0 _ _ (by decide) (by decide)) eX1_init_102 ?_
  refine N_iload_n (i := 2) (G0 _ _ (by decide) (by decide)) eX1_init_74 rfl rfl ?_
  refine N_bipush (n := 8) (v := (nI 8)) (G0 _ _ (by decide) (by decide)) eX1_init_75 rfl ?_
  refine N_geF (G0 _ _ (by decide) (by decide)) eX1_init_77 (by decide) ?_
  refine N_aload_n (i := 0) (G0 _ _ (by decide) (by decide)) eX1_init_80 rfl rfl ?_
  refine C_get (v := .ref (s.heap.size + 2)) (G0 _ _ (by decide) (by decide)) K ggX1_20 (by rfl) eX1_init_81 ?_
  refine N_iload_n (i := 1) (G0 _ _ (by decide) (by decide)) eX1_init_84 rfl rfl ?_
  refine C_aald (w := w) (q := 2) (n := 8) (h := s.heap.size + 2) (a := s.heap.size + 4) (G0 _ _ (by decide) (by decide)) K rfl (by exact vp_in_nI (by decide) (by decide)) (by show s.heap.size + 2 + 1 + (nI 1).toNatClampNeg = _; rw [nI_clamp (by decide)]) eX1_init_85 ?_
  refine N_iload_n (i := 2) (G0 _ _ (by decide) (by decide)) eX1_init_86 rfl rfl ?_
  refine N_iload_n (i := 1) (G0 _ _ (by decide) (by decide)) eX1_init_87 rfl rfl ?_
  refine N_iload_n (i := 2) (G0 _ _ (by decide) (by decide)) eX1_init_88 rfl rfl ?_
  refine N_neT (G0 _ _ (by decide) (by decide)) eX1_init_89 (by decide) ?_
  refine N_bipush (n := 10) (v := (nI 10)) (G0 _ _ (by decide) (by decide)) eX1_init_96 rfl ?_
  refine C_iast (q := 4) (n := 8) (G0 _ _ (by decide) (by decide)) K (cOk_this ho) (by rfl) (by exact vp_in_nI (by decide) (by decide)) eX1_init_98 ?_
  refine N_iincC (i := 2) (v := (nI 8)) (L' := [some (.ref o), some (.int (nI 1)), some (.int (nI 8))]) (G0 _ _ (by decide) (by decide)) eX1_init_99 rfl (by decide) (by decide) rfl rfl ?_
  refine N_goto (G0 _ _ (by decide) (by decide)) eX1_init_102 ?_
  refine N_iload_n (i := 2) (G0 _ _ (by decide) (by decide)) eX1_init_74 rfl rfl ?_
  refine N_bipush (n := 8) (v := (nI 8)) (G0 _ _ (by decide) (by decide)) eX1_init_75 rfl ?_
  refine N_geT (G0 _ _ (by decide) (by decide)) eX1_init_77 (by decide) ?_
  refine N_iincC (i := 1) (v := (nI 2)) (L' := [some (.ref o), some (.int (nI 2)), some (.int (nI 8))]) (G0 _ _ (by decide) (by decide)) eX1_init_105 rfl (by decide) (by decide) rfl rfl ?_
  refine N_goto (G0 _ _ (by decide) (by decide)) eX1_init_108 ?_
  refine N_iload_n (i := 1) (G0 _ _ (by decide) (by decide)) eX1_init_66 rfl rfl ?_
  refine N_bipush (n := 8) (v := (nI 8)) (G0 _ _ (by decide) (by decide)) eX1_init_67 rfl ?_
  refine N_geF (G0 _ _ (by decide) (by decide)) eX1_init_69 (by decide) ?_
  refine N_iconst (n := 0) (v := (nI 0)) (G0 _ _ (by decide) (by decide)) eX1_init_72 rfl ?_
  refine N_istoreA_n (i := 2) (L' := [some (.ref o), some (.int (nI 2)), some (.int (nI 0))]) (G0 _ _ (by decide) (by decide)) rfl eX1_init_73 (by decide) rfl rfl ?_
  refine N_iload_n (i := 2) (G0 _ _ (by decide) (by decide)) eX1_init_74 rfl rfl ?_
  refine N_bipush (n := 8) (v := (nI 8)) (G0 _ _ (by decide) (by decide)) eX1_init_75 rfl ?_
  refine N_geF (G0 _ _ (by decide) (by decide)) eX1_init_77 (by decide) ?_
  refine N_aload_n (i := 0) (G0 _ _ (by decide) (by decide)) eX1_init_80 rfl rfl ?_
  refine C_get (v := .ref (s.heap.size + 2)) (G0 _ _ (by decide) (by decide)) K ggX1_20 (by rfl) eX1_init_81 ?_
  refine N_iload_n (i := 1) (G0 _ _ (by decide) (by decide)) eX1_init_84 rfl rfl ?_
  refine C_aald (w := w) (q := 2) (n := 8) (h := s.heap.size + 2) (a := s.heap.size + 5) (G0 _ _ (by decide) (by decide)) K rfl (by exact vp_in_nI (by decide) (by decide)) (by show s.heap.size + 2 + 1 + (nI 2).toNatClampNeg = _; rw [nI_clamp (by decide)]) eX1_init_85 ?_
  refine N_iload_n (i := 2) (G0 _ _ (by decide) (by decide)) eX1_init_86 rfl rfl ?_
  refine N_iload_n (i := 1) (G0 _ _ (by decide) (by decide)) eX1_init_87 rfl rfl ?_
  refine N_iload_n (i := 2) (G0 _ _ (by decide) (by decide)) eX1_init_88 rfl rfl ?_
  refine N_neT (G0 _ _ (by decide) (by decide)) eX1_init_89 (by decide) ?_
  refine N_bipush (n := 10) (v := (nI 10)) (G0 _ _ (by decide) (by decide)) eX1_init_96 rfl ?_
  refine C_iast (q := 5) (n := 8) (G0 _ _ (by decide) (by decide)) K (cOk_this ho) (by rfl) (by exact vp_in_nI (by decide) (by decide)) eX1_init_98 ?_
  refine N_iincC (i := 2) (v := (nI 1)) (L' := [some (.ref o), some (.int (nI 2)), some (.int (nI 1))]) (G0 _ _ (by decide) (by decide)) eX1_init_99 rfl (by decide) (by decide) rfl rfl ?_
  refine N_goto (G0 _ _ (by decide) (by decide)) eX1_init_102 ?_
  refine N_iload_n (i := 2) (G0 _ _ (by decide) (by decide)) eX1_init_74 rfl rfl ?_
  refine N_bipush (n := 8) (v := (nI 8)) (G0 _ _ (by decide) (by decide)) eX1_init_75 rfl ?_
  refine N_geF (G0 _ _ (by decide) (by decide)) eX1_init_77 (by decide) ?_
  refine N_aload_n (i := 0) (G0 _ _ (by decide) (by decide)) eX1_init_80 rfl rfl ?_
  refine C_get (v := .ref (s.heap.size + 2)) (G0 _ _ (by decide) (by decide)) K ggX1_20 (by rfl) eX1_init_81 ?_
  refine N_iload_n (i := 1) (G0 _ _ (by decide) (by decide)) eX1_init_84 rfl rfl ?_
  refine C_aald (w := w) (q := 2) (n := 8) (h := s.heap.size + 2) (a := s.heap.size + 5) (G0 _ _ (by decide) (by decide)) K rfl (by exact vp_in_nI (by decide) (by decide)) (by show s.heap.size + 2 + 1 + (nI 2).toNatClampNeg = _; rw [nI_clamp (by decide)]) eX1_init_85 ?_
  refine N_iload_n (i := 2) (G0 _ _ (by decide) (by decide)) eX1_init_86 rfl rfl ?_
  refine N_iload_n (i := 1) (G0 _ _ (by decide) (by decide)) eX1_init_87 rfl rfl ?_
  refine N_iload_n (i := 2) (G0 _ _ (by decide) (by decide)) eX1_init_88 rfl rfl ?_
  refine N_neT (G0 _ _ (by decide) (by decide)) eX1_init_89 (by decide) ?_
  refine N_bipush (n := 10) (v := (nI 10)) (G0 _ _ (by decide) (by decide)) eX1_init_96 rfl ?_
  refine C_iast (q := 5) (n := 8) (G0 _ _ (by decide) (by decide)) K (cOk_this ho) (by rfl) (by exact vp_in_nI (by decide) (by decide)) eX1_init_98 ?_
  refine N_iincC (i := 2) (v := (nI 2)) (L' := [some (.ref o), some (.int (nI 2)), some (.int (nI 2))]) (G0 _ _ (by decide) (by decide)) eX1_init_99 rfl (by decide) (by decide) rfl rfl ?_
  refine N_goto (G0 _ _ (by decide) (by decide)) eX1_init_102 ?_
  refine N_iload_n (i := 2) (G0 _ _ (by decide) (by decide)) eX1_init_74 rfl rfl ?_
  refine N_bipush (n := 8) (v := (nI 8)) (G0 _ _ (by decide) (by decide)) eX1_init_75 rfl ?_
  refine N_geF (G0 _ _ (by decide) (by decide)) eX1_init_77 (by decide) ?_
  refine N_aload_n (i := 0) (G0 _ _ (by decide) (by decide)) eX1_init_80 rfl rfl ?_
  refine C_get (v := .ref (s.heap.size + 2)) (G0 _ _ (by decide) (by decide)) K ggX1_20 (by rfl) eX1_init_81 ?_
  refine N_iload_n (i := 1) (G0 _ _ (by decide) (by decide)) eX1_init_84 rfl rfl ?_
  refine C_aald (w := w) (q := 2) (n := 8) (h := s.heap.size + 2) (a := s.heap.size + 5) (G0 _ _ (by decide) (by decide)) K rfl (by exact vp_in_nI (by decide) (by decide)) (by show s.heap.size + 2 + 1 + (nI 2).toNatClampNeg = _; rw [nI_clamp (by decide)]) eX1_init_85 ?_
  refine N_iload_n (i := 2) (G0 _ _ (by decide) (by decide)) eX1_init_86 rfl rfl ?_
  refine N_iload_n (i := 1) (G0 _ _ (by decide) (by decide)) eX1_init_87 rfl rfl ?_
  refine N_iload_n (i := 2) (G0 _ _ (by decide) (by decide)) eX1_init_88 rfl rfl ?_
  refine N_neF (G0 _ _ (by decide) (by decide)) eX1_init_89 (by decide) ?_
  refine N_iconst (n := 0) (v := (nI 0)) (G0 _ _ (by decide) (by decide)) eX1_init_92 rfl ?_
  refine N_goto (G0 _ _ (by decide) (by decide)) eX1_init_93 ?_
  refine C_iast (q := 5) (n := 8) (G0 _ _ (by decide) (by decide)) K (cOk_this ho) (by rfl) (by exact vp_in_nI (by decide) (by decide)) eX1_init_98 ?_
  refine N_iincC (i := 2) (v := (nI 3)) (L' := [some (.ref o), some (.int (nI 2)), some (.int (nI 3))]) (G0 _ _ (by decide) (by decide)) eX1_init_99 rfl (by decide) (by decide) rfl rfl ?_
  refine N_goto (G0 _ _ (by decide) (by decide)) eX1_init_102 ?_
  refine N_iload_n (i := 2) (G0 _ _ (by decide) (by decide)) eX1_init_74 rfl rfl ?_
  refine N_bipush (n := 8) (v := (nI 8)) (G0 _ _ (by decide) (by decide)) eX1_init_75 rfl ?_
  refine N_geF (G0 _ _ (by decide) (by decide)) eX1_init_77 (by decide) ?_
  refine N_aload_n (i := 0) (G0 _ _ (by decide) (by decide)) eX1_init_80 rfl rfl ?_
  refine C_get (v := .ref (s.heap.size + 2)) (G0 _ _ (by decide) (by decide)) K ggX1_20 (by rfl) eX1_init_81 ?_
  refine N_iload_n (i := 1) (G0 _ _ (by decide) (by decide)) eX1_init_84 rfl rfl ?_
  refine C_aald (w := w) (q := 2) (n := 8) (h := s.heap.size + 2) (a := s.heap.size + 5) (G0 _ _ (by decide) (by decide)) K rfl (by exact vp_in_nI (by decide) (by decide)) (by show s.heap.size + 2 + 1 + (nI 2).toNatClampNeg = _; rw [nI_clamp (by decide)]) eX1_init_85 ?_
  refine N_iload_n (i := 2) (G0 _ _ (by decide) (by decide)) eX1_init_86 rfl rfl ?_
  refine N_iload_n (i := 1) (G0 _ _ (by decide) (by decide)) eX1_init_87 rfl rfl ?_
  refine N_iload_n (i := 2) (G0 _ _ (by decide) (by decide)) eX1_init_88 rfl rfl ?_
  refine N_neT (G0 _ _ (by decide) (by decide)) eX1_init_89 (by decide) ?_
  refine N_bipush (n := 10) (v := (nI 10)) (G0 _ _ (by decide) (by decide)) eX1_init_96 rfl ?_
  refine C_iast (q := 5) (n := 8) (G0 _ _ (by decide) (by decide)) K (cOk_this ho) (by rfl) (by exact vp_in_nI (by decide) (by decide)) eX1_init_98 ?_
  refine N_iincC (i := 2) (v := (nI 4)) (L' := [some (.ref o), some (.int (nI 2)), some (.int (nI 4))]) (G0 _ _ (by decide) (by decide)) eX1_init_99 rfl (by decide) (by decide) rfl rfl ?_
  refine N_goto (G0 _ _ (by decide) (by decide)) eX1_init_102 ?_
  refine N_iload_n (i := 2) (G0 _ _ (by decide) (by decide)) eX1_init_74 rfl rfl ?_
  refine N_bipush (n := 8) (v := (nI 8)) (G0 _ _ (by decide) (by decide)) eX1_init_75 rfl ?_
  refine N_geF (G0 _ _ (by decide) (by decide)) eX1_init_77 (by decide) ?_
  refine N_aload_n (i := 0) (G0 _ _ (by decide) (by decide)) eX1_init_80 rfl rfl ?_
  refine C_get (v := .ref (s.heap.size + 2)) (G0 _ _ (by decide) (by decide)) K ggX1_20 (by rfl) eX1_init_81 ?_
  refine N_iload_n (i := 1) (G0 _ _ (by decide) (by decide)) eX1_init_84 rfl rfl ?_
  refine C_aald (w := w) (q := 2) (n := 8) (h := s.heap.size + 2) (a := s.heap.size + 5) (G0 _ _ (by decide) (by decide)) K rfl (by exact vp_in_nI (by decide) (by decide)) (by show s.heap.size + 2 + 1 + (nI 2).toNatClampNeg = _; rw [nI_clamp (by decide)]) eX1_init_85 ?_
  refine N_iload_n (i := 2) (G0 _ _ (by decide) (by decide)) eX1_init_86 rfl rfl ?_
  refine N_iload_n (i := 1) (G0 _ _ (by decide) (by decide)) eX1_init_87 rfl rfl ?_
  refine N_iload_n (i := 2) (G0 _ _ (by decide) (by decide)) eX1_init_88 rfl rfl ?_
  refine N_neT (G0 _ _ (by decide) (by decide)) eX1_init_89 (by decide) ?_
  refine N_bipush (n := 10) (v := (nI 10)) (G0 _ _ (by decide) (by decide)) eX1_init_96 rfl ?_
  refine C_iast (q := 5) (n := 8) (G0 _ _ (by decide) (by decide)) K (cOk_this ho) (by rfl) (by exact vp_in_nI (by decide) (by decide)) eX1_init_98 ?_
  refine N_iincC (i := 2) (v := (nI 5)) (L' := [some (.ref o), some (.int (nI 2)), some (.int (nI 5))]) (G0 _ _ (by decide) (by decide)) eX1_init_99 rfl (by decide) (by decide) rfl rfl ?_
  refine N_goto (G0 _ _ (by decide) (by decide)) eX1_init_102 ?_
  refine N_iload_n (i := 2) (G0 _ _ (by decide) (by decide)) eX1_init_74 rfl rfl ?_
  refine N_bipush (n := 8) (v := (nI 8)) (G0 _ _ (by decide) (by decide)) eX1_init_75 rfl ?_
  refine N_geF (G0 _ _ (by decide) (by decide)) eX1_init_77 (by decide) ?_
  refine N_aload_n (i := 0) (G0 _ _ (by decide) (by decide)) eX1_init_80 rfl rfl ?_
  refine C_get (v := .ref (s.heap.size + 2)) (G0 _ _ (by decide) (by decide)) K ggX1_20 (by rfl) eX1_init_81 ?_
  refine N_iload_n (i := 1) (G0 _ _ (by decide) (by decide)) eX1_init_84 rfl rfl ?_
  refine C_aald (w := w) (q := 2) (n := 8) (h := s.heap.size + 2) (a := s.heap.size + 5) (G0 _ _ (by decide) (by decide)) K rfl (by exact vp_in_nI (by decide) (by decide)) (by show s.heap.size + 2 + 1 + (nI 2).toNatClampNeg = _; rw [nI_clamp (by decide)]) eX1_init_85 ?_
  refine N_iload_n (i := 2) (G0 _ _ (by decide) (by decide)) eX1_init_86 rfl rfl ?_
  refine N_iload_n (i := 1) (G0 _ _ (by decide) (by decide)) eX1_init_87 rfl rfl ?_
  refine N_iload_n (i := 2) (G0 _ _ (by decide) (by decide)) eX1_init_88 rfl rfl ?_
  refine N_neT (G0 _ _ (by decide) (by decide)) eX1_init_89 (by decide) ?_
  refine N_bipush (n := 10) (v := (nI 10)) (G0 _ _ (by decide) (by decide)) eX1_init_96 rfl ?_
  refine C_iast (q := 5) (n := 8) (G0 _ _ (by decide) (by decide)) K (cOk_this ho) (by rfl) (by exact vp_in_nI (by decide) (by decide)) eX1_init_98 ?_
  refine N_iincC (i := 2) (v := (nI 6)) (L' := [some (.ref o), some (.int (nI 2)), some (.int (nI 6))]) (G0 _ _ (by decide) (by decide)) eX1_init_99 rfl (by decide) (by decide) rfl rfl ?_
  refine N_goto (G0 _ _ (by decide) (by decide)) eX1_init_102 ?_
  refine N_iload_n (i := 2) (G0 _ _ (by decide) (by decide)) eX1_init_74 rfl rfl ?_
  refine N_bipush (n := 8) (v := (nI 8)) (G0 _ _ (by decide) (by decide)) eX1_init_75 rfl ?_
  refine N_geF (G0 _ _ (by decide) (by decide)) eX1_init_77 (by decide) ?_
  refine N_aload_n (i := 0) (G0 _ _ (by decide) (by decide)) eX1_init_80 rfl rfl ?_
  refine C_get (v := .ref (s.heap.size + 2)) (G0 _ _ (by decide) (by decide)) K ggX1_20 (by rfl) eX1_init_81 ?_
  refine N_iload_n (i := 1) (G0 _ _ (by decide) (by decide)) eX1_init_84 rfl rfl ?_
  refine C_aald (w := w) (q := 2) (n := 8) (h := s.heap.size + 2) (a := s.heap.size + 5) (G0 _ _ (by decide) (by decide)) K rfl (by exact vp_in_nI (by decide) (by decide)) (by show s.heap.size + 2 + 1 + (nI 2).toNatClampNeg = _; rw [nI_clamp (by decide)]) eX1_init_85 ?_
  refine N_iload_n (i := 2) (G0 _ _ (by decide) (by decide)) eX1_init_86 rfl rfl ?_
  refine N_iload_n (i := 1) (G0 _ _ (by decide) (by decide)) eX1_init_87 rfl rfl ?_
  refine N_iload_n (i := 2) (G0 _ _ (by decide) (by decide)) eX1_init_88 rfl rfl ?_
  refine N_neT (G0 _ _ (by decide) (by decide)) eX1_init_89 (by decide) ?_
  refine N_bipush (n := 10) (v := (nI 10)) (G0 _ _ (by decide) (by decide)) eX1_init_96 rfl ?_
  refine C_iast (q := 5) (n := 8) (G0 _ _ (by decide) (by decide)) K (cOk_this ho) (by rfl) (by exact vp_in_nI (by decide) (by decide)) eX1_init_98 ?_
  refine N_iincC (i := 2) (v := (nI 7)) (L' := [some (.ref o), some (.int (nI 2)), some (.int (nI 7))]) (G0 _ _ (by decide) (by decide)) eX1_init_99 rfl (by decide) (by decide) rfl rfl ?_
  refine N_goto (G0 _ _ (by decide) (by decide)) eX1_init_102 ?_
  refine N_iload_n (i := 2) (G0 _ _ (by decide) (by decide)) eX1_init_74 rfl rfl ?_
  refine N_bipush (n := 8) (v := (nI 8)) (G0 _ _ (by decide) (by decide)) eX1_init_75 rfl ?_
  refine N_geF (G0 _ _ (by decide) (by decide)) eX1_init_77 (by decide) ?_
  refine N_aload_n (i := 0) (G0 _ _ (by decide) (by decide)) eX1_init_80 rfl rfl ?_
  refine C_get (v := .ref (s.heap.size + 2)) (G0 _ _ (by decide) (by decide)) K ggX1_20 (by rfl) eX1_init_81 ?_
  refine N_iload_n (i := 1) (G0 _ _ (by decide) (by decide)) eX1_init_84 rfl rfl ?_
  refine C_aald (w := w) (q := 2) (n := 8) (h := s.heap.size + 2) (a := s.heap.size + 5) (G0 _ _ (by decide) (by decide)) K rfl (by exact vp_in_nI (by decide) (by decide)) (by show s.heap.size + 2 + 1 + (nI 2).toNatClampNeg = _; rw [nI_clamp (by decide)]) eX1_init_85 ?_
  refine N_iload_n (i := 2) (G0 _ _ (by decide) (by decide)) eX1_init_86 rfl rfl ?_
  refine N_iload_n (i := 1) (G0 _ _ (by decide) (by decide)) eX1_init_87 rfl rfl ?_
  refine N_iload_n (i := 2) (G0 _ _ (by decide) (by decide)) eX1_init_88 rfl rfl ?_
  refine N_neT (G0 _ _ (by decide) (by decide)) eX1_init_89 (by decide) ?_
  refine N_bipush (n := 10) (v := (nI 10)) (G0 _ _ (by decide) (by decide)) eX1_init_96 rfl ?_
  refine C_iast (q := 5) (n := 8) (G0 _ _ (by decide) (by decide)) K (cOk_this ho) (by rfl) (by exact vp_in_nI (by decide) (by decide)) eX1_init_98 ?_
  refine N_iincC (i := 2) (v := (nI 8)) (L' := [some (.ref o), some (.int (nI 2)), some (.int (nI 8))]) (G0 _ _ (by decide) (by decide)) eX1_init_99 rfl (by decide) (by decide) rfl rfl ?_
  refine N_goto (G0 _ _ (by decide) (by decide)) eX1_init_102 ?_
  refine N_iload_n (i := 2) (G0 _ _ (by decide) (by decide)) eX1_init_74 rfl rfl ?_
  refine N_bipush (n := 8) (v := (nI 8)) (G0 _ _ (by decide) (by decide)) eX1_init_75 rfl ?_
  refine N_geT (G0 _ _ (by decide) (by decide)) eX1_init_77 (by decide) ?_
  refine N_iincC (i := 1) (v := (nI 3)) (L' := [some (.ref o), some (.int (nI 3)), some (.int (nI 8))]) (G0 _ _ (by decide) (by decide)) eX1_init_105 rfl (by decide) (by decide) rfl rfl ?_
  refine N_goto (G0 _ _ (by decide) (by decide)) eX1_init_108 ?_
  refine N_iload_n (i := 1) (G0 _ _ (by decide) (by decide)) eX1_init_66 rfl rfl ?_
  refine N_bipush (n := 8) (v := (nI 8)) (G0 _ _ (by decide) (by decide)) eX1_init_67 rfl ?_
  refine N_geF (G0 _ _ (by decide) (by decide)) eX1_init_69 (by decide) ?_
  refine N_iconst (n := 0) (v := (nI 0)) (G0 _ _ (by decide) (by decide)) eX1_init_72 rfl ?_
  refine N_istoreA_n (i := 2) (L' := [some (.ref o), some (.int (nI 3)), some (.int (nI 0))]) (G0 _ _ (by decide) (by decide)) rfl eX1_init_73 (by decide) rfl rfl ?_
  refine N_iload_n (i := 2) (G0 _ _ (by decide) (by decide)) eX1_init_74 rfl rfl ?_
  refine N_bipush (n := 8) (v := (nI 8)) (G0 _ _ (by decide) (by decide)) eX1_init_75 rfl ?_
  refine N_geF (G0 _ _ (by decide) (by decide)) eX1_init_77 (by decide) ?_
  refine N_aload_n (i := 0) (G0 _ _ (by decide) (by decide)) eX1_init_80 rfl rfl ?_
  refine C_get (v := .ref (s.heap.size + 2)) (G0 _ _ (by decide) (by decide)) K ggX1_20 (by rfl) eX1_init_81 ?_
  refine N_iload_n (i := 1) (G0 _ _ (by decide) (by decide)) eX1_init_84 rfl rfl ?_
  refine C_aald (w := w) (q := 2) (n := 8) (h := s.heap.size + 2) (a := s.heap.size + 6) (G0 _ _ (by decide) (by decide)) K rfl (by exact vp_in_nI (by decide) (by decide)) (by show s.heap.size + 2 + 1 + (nI 3).toNatClampNeg = _; rw [nI_clamp (by decide)]) eX1_init_85 ?_
  refine N_iload_n (i := 2) (G0 _ _ (by decide) (by decide)) eX1_init_86 rfl rfl ?_
  refine N_iload_n (i := 1) (G0 _ _ (by decide) (by decide)) eX1_init_87 rfl rfl ?_
  refine N_iload_n (i := 2) (G0 _ _ (by decide) (by decide)) eX1_init_88 rfl rfl ?_
  refine N_neT (G0 _ _ (by decide) (by decide)) eX1_init_89 (by decide) ?_
  refine N_bipush (n := 10) (v := (nI 10)) (G0 _ _ (by decide) (by decide)) eX1_init_96 rfl ?_
  refine C_iast (q := 6) (n := 8) (G0 _ _ (by decide) (by decide)) K (cOk_this ho) (by rfl) (by exact vp_in_nI (by decide) (by decide)) eX1_init_98 ?_
  refine N_iincC (i := 2) (v := (nI 1)) (L' := [some (.ref o), some (.int (nI 3)), some (.int (nI 1))]) (G0 _ _ (by decide) (by decide)) eX1_init_99 rfl (by decide) (by decide) rfl rfl ?_
  refine N_goto (G0 _ _ (by decide) (by decide)) eX1_init_102 ?_
  refine N_iload_n (i := 2) (G0 _ _ (by decide) (by decide)) eX1_init_74 rfl rfl ?_
  refine N_bipush (n := 8) (v := (nI 8)) (G0 _ _ (by decide) (by decide)) eX1_init_75 rfl ?_
  refine N_geF (G0 _ _ (by decide) (by decide)) eX1_init_77 (by decide) ?_
  refine N_aload_n (i := 0) (G0 _ _ (by decide) (by decide)) eX1_init_80 rfl rfl ?_
  refine C_get (v := .ref (s.heap.size + 2)) (G0 _ _ (by decide) (by decide)) K ggX1_20 (by rfl) eX1_init_81 ?_
  refine N_iload_n (i := 1) (G0 _ _ (by decide) (by decide)) eX1_init_84 rfl rfl ?_
  refine C_aald (w := w) (q := 2) (n := 8) (h := s.heap.size + 2) (a := s.heap.size + 6) (G0 _ _ (by decide) (by decide)) K rfl (by exact vp_in_nI (by decide) (by decide)) (by show s.heap.size + 2 + 1 + (nI 3).toNatClampNeg = _; rw [nI_clamp (by decide)]) eX1_init_85 ?_
  refine N_iload_n (i := 2) (G0 _ _ (by decide) (by decide)) eX1_init_86 rfl rfl ?_
  refine N_iload_n (i := 1) (G0 _ _ (by decide) (by decide)) eX1_init_87 rfl rfl ?_
  refine N_iload_n (i := 2) (G0 _ _ (by decide) (by decide)) eX1_init_88 rfl rfl ?_
  refine N_neT (G0 _ _ (by decide) (by decide)) eX1_init_89 (by decide) ?_
  refine N_bipush (n := 10) (v := (nI 10)) (G0 _ _ (by decide) (by decide)) eX1_init_96 rfl ?_
  refine C_iast (q := 6) (n := 8) (G0 _ _ (by decide) (by decide)) K (cOk_this ho) (by rfl) (by exact vp_in_nI (by decide) (by decide)) eX1_init_98 ?_
  refine N_iincC (i := 2) (v := (nI 2)) (L' := [some (.ref o), some (.int (nI 3)), some (.int (nI 2))]) (G0 _ _ (by decide) (by decide)) eX1_init_99 rfl (by decide) (by decide) rfl rfl ?_
  refine N_goto (G0 _ _ (by decide) (by decide)) eX1_init_102 ?_
  refine N_iload_n (i := 2) (G0 _ _ (by decide) (by decide)) eX1_init_74 rfl rfl ?_
  refine N_bipush (n := 8) (v := (nI 8)) (G0 _ _ (by decide) (by decide)) eX1_init_75 rfl ?_
  refine N_geF (G0 _ _ (by decide) (by decide)) eX1_init_77 (by decide) ?_
  refine N_aload_n (i := 0) (G0 _ _ (by decide) (by decide)) eX1_init_80 rfl rfl ?_
  refine C_get (v := .ref (s.heap.size + 2)) (G0 _ _ (by decide) (by decide)) K ggX1_20 (by rfl) eX1_init_81 ?_
  refine N_iload_n (i := 1) (G0 _ _ (by decide) (by decide)) eX1_init_84 rfl rfl ?_
  refine C_aald (w := w) (q := 2) (n := 8) (h := s.heap.size + 2) (a := s.heap.size + 6) (G0 _ _ (by decide) (by decide)) K rfl (by exact vp_in_nI (by decide) (by decide)) (by show s.heap.size + 2 + 1 + (nI 3).toNatClampNeg = _; rw [nI_clamp (by decide)]) eX1_init_85 ?_
  refine N_iload_n (i := 2) (G0 _ _ (by decide) (by decide)) eX1_init_86 rfl rfl ?_
  refine N_iload_n (i := 1) (G0 _ _ (by decide) (by decide)) eX1_init_87 rfl rfl ?_
  refine N_iload_n (i := 2) (G0 _ _ (by decide) (by decide)) eX1_init_88 rfl rfl ?_
  refine N_neT (G0 _ _ (by decide) (by decide)) eX1_init_89 (by decide) ?_
  refine N_bipush (n := 10) (v := (nI 10)) (G0 _ _ (by decide) (by decide)) eX1_init_96 rfl ?_
  refine C_iast (q := 6) (n := 8) (G0 _ _ (by decide) (by decide)) K (cOk_this ho) (by rfl) (by exact vp_in_nI (by decide) (by decide)) eX1_init_98 ?_
  refine N_iincC (i := 2) (v := (nI 3)) (L' := [some (.ref o), some (.int (nI 3)), some (.int (nI 3))]) (G0 _ _ (by decide) (by decide)) eX1_init_99 rfl (by decide) (by decide) rfl rfl ?_
  refine N_goto (G0 _ _ (by decide) (by decide)) eX1_init_102 ?_
  refine N_iload_n (i := 2) (G0 _ _ (by decide) (by decide)) eX1_init_74 rfl rfl ?_
  refine N_bipush (n := 8) (v := (nI 8)) (G0 _ _ (by decide) (by decide)) eX1_init_75 rfl ?_
  refine N_geF (G0 _ _ (by decide) (by decide)) eX1_init_77 (by decide) ?_
  refine N_aload_n (i := 0) (G0 _ _ (by decide) (by decide)) eX1_init_80 rfl rfl ?_
  refine C_get (v := .ref (s.heap.size + 2)) (G0 _ _ (by decide) (by decide)) K ggX1_20 (by rfl) eX1_init_81 ?_
  refine N_iload_n (i := 1) (G0 _ _ (by decide) (by decide)) eX1_init_84 rfl rfl ?_
  refine C_aald (w := w) (q := 2) (n := 8) (h := s.heap.size + 2) (a := s.heap.size + 6) (G0 _ _ (by decide) (by decide)) K rfl (by exact vp_in_nI (by decide) (by decide)) (by show s.heap.size + 2 + 1 + (nI 3).toNatClampNeg = _; rw [nI_clamp (by decide)]) eX1_init_85 ?_
  refine N_iload_n (i := 2) (G0 _ _ (by decide) (by decide)) eX1_init_86 rfl rfl ?_
  refine N_iload_n (i := 1) (G0 _ _ (by decide) (by decide)) eX1_init_87 rfl rfl ?_
  refine N_iload_n (i := 2) (G0 _ _ (by decide) (by decide)) eX1_init_88 rfl rfl ?_
  refine N_neF (G0 _ _ (by decide) (by decide)) eX1_init_89 (by decide) ?_
  refine N_iconst (n := 0) (v := (nI 0)) (G0 _ _ (by decide) (by decide)) eX1_init_92 rfl ?_
  refine N_goto (G0 _ _ (by decide) (by decide)) eX1_init_93 ?_
  refine C_iast (q := 6) (n := 8) (G0 _ _ (by decide) (by decide)) K (cOk_this ho) (by rfl) (by exact vp_in_nI (by decide) (by decide)) eX1_init_98 ?_
  refine N_iincC (i := 2) (v := (nI 4)) (L' := [some (.ref o), some (.int (nI 3)), some (.int (nI 4))]) (G0 _ _ (by decide) (by decide)) eX1_init_99 rfl (by decide) (by decide) rfl rfl ?_
  refine N_goto (G0 _ _ (by decide) (by decide)) eX1_init_102 ?_
  refine N_iload_n (i := 2) (G0 _ _ (by decide) (by decide)) eX1_init_74 rfl rfl ?_
  refine N_bipush (n := 8) (v := (nI 8)) (G0 _ _ (by decide) (by decide)) eX1_init_75 rfl ?_
  refine N_geF (G0 _ _ (by decide) (by decide)) eX1_init_77 (by decide) ?_
  refine N_aload_n (i := 0) (G0 _ _ (by decide) (by decide)) eX1_init_80 rfl rfl ?_
  refine C_get (v := .ref (s.heap.size + 2)) (G0 _ _ (by decide) (by decide)) K ggX1_20 (by rfl) eX1_init_81 ?_
  refine N_iload_n (i := 1) (G0 _ _ (by decide) (by decide)) eX1_init_84 rfl rfl ?_
  refine C_aald (w := w) (q := 2) (n := 8) (h := s.heap.size + 2) (a := s.heap.size + 6) (G0 _ _ (by decide) (by decide)) K rfl (by exact vp_in_nI (by decide) (by decide)) (by show s.heap.size + 2 + 1 + (nI 3).toNatClampNeg = _; rw [nI_clamp (by decide)]) eX1_init_85 ?_
  refine N_iload_n (i := 2) (G0 _ _ (by decide) (by decide)) eX1_init_86 rfl rfl ?_
  refine N_iload_n (i := 1) (G0 _ _ (by decide) (by decide)) eX1_init_87 rfl rfl ?_
  refine N_iload_n (i := 2) (G0 _ _ (by decide) (by decide)) eX1_init_88 rfl rfl ?_
  refine N_neT (G0 _ _ (by decide) (by decide)) eX1_init_89 (by decide) ?_
  refine N_bipush (n := 10) (v := (nI 10)) (G0 _ _ (by decide) (by decide)) eX1_init_96 rfl ?_
  refine C_iast (q := 6) (n := 8) (G0 _ _ (by decide) (by decide)) K (cOk_this ho) (by rfl) (by exact vp_in_nI (by decide) (by decide)) eX1_init_98 ?_
  refine N_iincC (i := 2) (v := (nI 5)) (L' := [some (.ref o), some (.int (nI 3)), some (.int (nI 5))]) (G0 _ _ (by decide) (by decide)) eX1_init_99 rfl (by decide) (by decide) rfl rfl ?_
  refine N_goto (G0 _ _ (by decide) (by decide)) eX1_init_102 ?_
  refine N_iload_n (i := 2) (G0 _ _ (by decide) (by decide)) eX1_init_74 rfl rfl ?_
  refine N_bipush (n := 8) (v := (nI 8)) (G0 _ _ (by decide) (by decide)) eX1_init_75 rfl ?_
  refine N_geF (G0 _ _ (by decide) (by decide)) eX1_init_77 (by decide) ?_
  refine N_aload_n (i := 0) (G0 _ _ (by decide) (by decide)) eX1_init_80 rfl rfl ?_
  refine C_get (v := .ref (s.heap.size + 2)) (G0 _ _ (by decide) (by decide)) K ggX1_20 (by rfl) eX1_init_81 ?_
  refine N_iload_n (i := 1) (G0 _ _ (by decide) (by decide)) eX1_init_84 rfl rfl ?_
  refine C_aald (w := w) (q := 2) (n := 8) (h := s.heap.size + 2) (a := s.heap.size + 6) (G0 _ _ (by decide) (by decide)) K rfl (by exact vp_in_nI (by decide) (by decide)) (by show s.heap.size + 2 + 1 + (nI 3).toNatClampNeg = _; rw [nI_clamp (by decide)]) eX1_init_85 ?_
  refine N_iload_n (i := 2) (G0 _ _ (by decide) (by decide)) eX1_init_86 rfl rfl ?_
  refine N_iload_n (i := 1) (G0 _ _ (by decide) (by decide)) eX1_init_87 rfl rfl ?_
  refine N_iload_n (i := 2) (G0 _ _ (by decide) (by decide)) eX1_init_88 rfl rfl ?_
  refine N_neT (G0 _ _ (by decide) (by decide)) eX1_init_89 (by decide) ?_
  refine N_bipush (n := 10) (v := (nI 10)) (G0 _ _ (by decide) (by decide)) eX1_init_96 rfl ?_
  refine C_iast (q := 6) (n := 8) (G0 _ _ (by decide) (by decide)) K (cOk_this ho) (by rfl) (by exact vp_in_nI (by decide) (by decide)) eX1_init_98 ?_
  refine N_iincC (i := 2) (v := (nI 6)) (L' := [some (.ref o), some (.int (nI 3)), some (.int (nI 6))]) (G0 _ _ (by decide) (by decide)) eX1_init_99 rfl (by decide) (by decide) rfl rfl ?_
  refine N_goto (G0 _ _ (by decide) (by decide)) eX1_init_102 ?_
  refine N_iload_n (i := 2) (G0 _ _ (by decide) (by decide)) eX1_init_74 rfl rfl ?_
  refine N_bipush (n := 8) (v := (nI 8)) (G0 _ _ (by decide) (by decide)) eX1_init_75 rfl ?_
  refine N_geF (G0 _ _ (by decide) (by decide)) eX1_init_77 (by decide) ?_
  refine N_aload_n (i := 0) (G0 _ _ (by decide) (by decide)) eX1_init_80 rfl rfl ?_
  refine C_get (v := .ref (s.heap.size + 2)) (G0 _ _ (by decide) (by decide)) K ggX1_20 (by rfl) eX1_init_81 ?_
  refine N_iload_n (i := 1) (G0 _ _ (by decide) (by decide)) eX1_init_84 rfl rfl ?_
  refine C_aald (w := w) (q := 2) (n := 8) (h := s.heap.size + 2) (a := s.heap.size + 6) (G0 _ _ (by decide) (by decide)) K rfl (by exact vp_in_nI (by decide) (by decide)) (by show s.heap.size + 2 + 1 + (nI 3).toNatClampNeg = _; rw [nI_clamp (by decide)]) eX1_init_85 ?_
  refine N_iload_n (i := 2) (G0 _ _ (by decide) (by decide)) eX1_init_86 rfl rfl ?_
  refine N_iload_n (i := 1) (G0 _ _ (by decide) (by decide)) eX1_init_87 rfl rfl ?_
  refine N_iload_n (i := 2) (G0 _ _ (by decide) (by decide)) eX1_init_88 rfl rfl ?_
  refine N_neT (G0 _ _ (by decide) (by decide)) eX1_init_89 (by decide) ?_
  refine N_bipush (n := 10) (v := (nI 10)) (G0 _ _ (by decide) (by decide)) eX1_init_96 rfl ?_
  refine C_iast (q := 6) (n := 8) (G0 _ _ (by decide) (by decide)) K (cOk_this ho) (by rfl) (by exact vp_in_nI (by decide) (by decide)) eX1_init_98 ?_
  refine N_iincC (i := 2) (v := (nI 7)) (L' := [some (.ref o), some (.int (nI 3)), some (.int (nI 7))]) (G0 _ _ (by decide) (by decide)) eX1_init_99 rfl (by decide) (by decide) rfl rfl ?_
  refine N_goto (G0 _ _ (by decide) (by decide)) eX1_init_102 ?_
  refine N_iload_n (i := 2) (G0 _ _ (by decide) (by decide)) eX1_init_74 rfl rfl ?_
  refine N_bipush (n := 8) (v := (nI 8)) (G0 _ _ (by decide) (by decide)) eX1_init_75 rfl ?_
  refine N_geF (G0 _ _ (by decide) (by decide)) eX1_init_77 (by decide) ?_
  refine N_aload_n (i := 0) (G0 _ _ (by decide) (by decide)) eX1_init_80 rfl rfl ?_
  refine C_get (v := .ref (s.heap.size + 2)) (G0 _ _ (by decide) (by decide)) K ggX1_20 (by rfl) eX1_init_81 ?_
  refine N_iload_n (i := 1) (G0 _ _ (by decide) (by decide)) eX1_init_84 rfl rfl ?_
  refine C_aald (w := w) (q := 2) (n := 8) (h := s.heap.size + 2) (a := s.heap.size + 6) (G0 _ _ (by decide) (by decide)) K rfl (by exact vp_in_nI (by decide) (by decide)) (by show s.heap.size + 2 + 1 + (nI 3).toNatClampNeg = _; rw [nI_clamp (by decide)]) eX1_init_85 ?_
  refine N_iload_n (i := 2) (G0 _ _ (by decide) (by decide)) eX1_init_86 rfl rfl ?_
  refine N_iload_n (i := 1) (G0 _ _ (by decide) (by decide)) eX1_init_87 rfl rfl ?_
  refine N_iload_n (i := 2) (G0 _ _ (by decide) (by decide)) eX1_init_88 rfl rfl ?_
  refine N_neT (G0 _ _ (by decide) (by decide)) eX1_init_89 (by decide) ?_
  refine N_bipush (n := 10) (v := (nI 10)) (G0 _ _ (by decide) (by decide)) eX1_init_96 rfl ?_
  refine C_iast (q := 6) (n := 8) (G0 _ _ (by decide) (by decide)) K (cOk_this ho) (by rfl) (by exact vp_in_nI (by decide) (by decide)) eX1_init_98 ?_
  refine N_iincC (i := 2) (v := (nI 8)) (L' := [some (.ref o), some (.int (nI 3)), some (.int (nI 8))]) (G0 _ _ (by decide) (by decide)) eX1_init_99 rfl (by decide) (by decide) rfl rfl ?_
  refine N_goto (G0 _ _ (by decide) (by decide)) eX1_init_102 ?_
  refine N_iload_n (i := 2) (G0 _ _ (by decide) (by decide)) eX1_init_74 rfl rfl ?_
  refine N_bipush (n := 8) (v := (nI 8)) (G0 _ _ (by decide) (by decide)) eX1_init_75 rfl ?_
  refine N_geT (G0 _ _ (by decide) (by decide)) eX1_init_77 (by decide) ?_
  refine N_iincC (i := 1) (v := (nI 4)) (L' := [some (.ref o), some (.int (nI 4)), some (.int (nI 8))]) (G0 _ _ (by decide) (by decide)) eX1_init_105 rfl (by decide) (by decide) rfl rfl ?_
  refine N_goto (G0 _ _ (by decide) (by decide)) eX1_init_108 ?_
  refine N_iload_n (i := 1) (G0 _ _ (by decide) (by decide)) eX1_init_66 rfl rfl ?_
  refine N_bipush (n := 8) (v := (nI 8)) (G0 _ _ (by decide) (by decide)) eX1_init_67 rfl ?_
  refine N_geF (G0 _ _ (by decide) (by decide)) eX1_init_69 (by decide) ?_
  refine N_iconst (n := 0) (v := (nI 0)) (G0 _ _ (by decide) (by decide)) eX1_init_72 rfl ?_
  refine N_istoreA_n (i := 2) (L' := [some (.ref o), some (.int (nI 4)), some (.int (nI 0))]) (G0 _ _ (by decide) (by decide)) rfl eX1_init_73 (by decide) rfl rfl ?_
  refine N_iload_n (i := 2) (G0 _ _ (by decide) (by decide)) eX1_init_74 rfl rfl ?_
  refine N_bipush (n := 8) (v := (nI 8)) (G0 _ _ (by decide) (by decide)) eX1_init_75 rfl ?_
  refine N_geF (G0 _ _ (by decide) (by decide)) eX1_init_77 (by decide) ?_
  refine N_aload_n (i := 0) (G0 _ _ (by decide) (by decide)) eX1_init_80 rfl rfl ?_
  refine C_get (v := .ref (s.heap.size + 2)) (G0 _ _ (by decide) (by decide)) K ggX1_20 (by rfl) eX1_init_81 ?_
  refine N_iload_n (i := 1) (G0 _ _ (by decide) (by decide)) eX1_init_84 rfl rfl ?_
  refine C_aald (w := w) (q := 2) (n := 8) (h := s.heap.size + 2) (a := s.heap.size + 7) (G0 _ _ (by decide) (by decide)) K rfl (by exact vp_in_nI (by decide) (by decide)) (by show s.heap.size + 2 + 1 + (nI 4).toNatClampNeg = _; rw [nI_clamp (by decide)]) eX1_init_85 ?_
  refine N_iload_n (i := 2) (G0 _ _ (by decide) (by decide)) eX1_init_86 rfl rfl ?_
  refine N_iload_n (i := 1) (G0 _ _ (by decide) (by decide)) eX1_init_87 rfl rfl ?_
  refine N_iload_n (i := 2) (G0 _ _ (by decide) (by decide)) eX1_init_88 rfl rfl ?_
  refine N_neT (G0 _ _ (by decide) (by decide)) eX1_init_89 (by decide) ?_
  refine N_bipush (n := 10) (v := (nI 10)) (G0 _ _ (by decide) (by decide)) eX1_init_96 rfl ?_
  refine C_iast (q := 7) (n := 8) (G0 _ _ (by decide) (by decide)) K (cOk_this ho) (by rfl) (by exact vp_in_nI (by decide) (by decide)) eX1_init_98 ?_
  refine N_iincC (i := 2) (v := (nI 1)) (L' := [some (.ref o), some (.int (nI 4)), some (.int (nI 1))]) (G0 _ _ (by decide) (by decide)) eX1_init_99 rfl (by decide) (by decide) rfl rfl ?_
  refine N_goto (G0 _ _ (by decide) (by decide)) eX1_init_102 ?_
  refine N_iload_n (i := 2) (G0 _ _ (by decide) (by decide)) eX1_init_74 rfl rfl ?_
  refine N_bipush (n := 8) (v := (nI 8)) (G0 _ _ (by decide) (by decide)) eX1_init_75 rfl ?_
  refine N_geF (G0 _ _ (by decide) (by decide)) eX1_init_77 (by decide) ?_
  refine N_aload_n (i := 0) (G0 _ _ (by decide) (by decide)) eX1_init_80 rfl rfl ?_
  refine C_get (v := .ref (s.heap.size + 2)) (G0 _ _ (by decide) (by decide)) K ggX1_20 (by rfl) eX1_init_81 ?_
  refine N_iload_n (i := 1) (G0 _ _ (by decide) (by decide)) eX1_init_84 rfl rfl ?_
  refine C_aald (w := w) (q := 2) (n := 8) (h := s.heap.size + 2) (a := s.heap.size + 7) (G0 _ _ (by decide) (by decide)) K rfl (by exact vp_in_nI (by decide) (by decide)) (by show s.heap.size + 2 + 1 + (nI 4).toNatClampNeg = _; rw [nI_clamp (by decide)]) eX1_init_85 ?_
  refine N_iload_n (i := 2) (G0 _ _ (by decide) (by decide)) eX1_init_86 rfl rfl ?_
  refine N_iload_n (i := 1) (G0 _ _ (by decide) (by decide)) eX1_init_87 rfl rfl ?_
  refine N_iload_n (i := 2) (G0 _ _ (by decide) (by decide)) eX1_init_88 rfl rfl ?_
  refine N_neT (G0 _ _ (by decide) (by decide)) eX1_init_89 (by decide) ?_
  refine N_bipush (n := 10) (v := (nI 10)) (G0 _ _ (by decide) (by decide)) eX1_init_96 rfl ?_
  refine C_iast (q := 7) (n := 8) (G0 _ _ (by decide) (by decide)) K (cOk_this ho) (by rfl) (by exact vp_in_nI (by decide) (by decide)) eX1_init_98 ?_
  refine N_iincC (i := 2) (v := (nI 2)) (L' := [some (.ref o), some (.int (nI 4)), some (.int (nI 2))]) (G0 _ _ (by decide) (by decide)) eX1_init_99 rfl (by decide) (by decide) rfl rfl ?_
  refine N_goto (G0 _ _ (by decide) (by decide)) eX1_init_102 ?_
  refine N_iload_n (i := 2) (G0 _ _ (by decide) (by decide)) eX1_init_74 rfl rfl ?_
  refine N_bipush (n := 8) (v := (nI 8)) (G0 _ _ (by decide) (by decide)) eX1_init_75 rfl ?_
  refine N_geF (G0 _ _ (by decide) (by decide)) eX1_init_77 (by decide) ?_
  refine N_aload_n (i := 0) (G0 _ _ (by decide) (by decide)) eX1_init_80 rfl rfl ?_
  refine C_get (v := .ref (s.heap.size + 2)) (G0 _ _ (by decide) (by decide)) K ggX1_20 (by rfl) eX1_init_81 ?_
  refine N_iload_n (i := 1) (G0 _ _ (by decide) (by decide)) eX1_init_84 rfl rfl ?_
  refine C_aald (w := w) (q := 2) (n := 8) (h := s.heap.size + 2) (a := s.heap.size + 7) (G0 _ _ (by decide) (by decide)) K rfl (by exact vp_in_nI (by decide) (by decide)) (by show s.heap.size + 2 + 1 + (nI 4).toNatClampNeg = _; rw [nI_clamp (by decide)]) eX1_init_85 ?_
  refine N_iload_n (i := 2) (G0 _ _ (by decide) (by decide)) eX1_init_86 rfl rfl ?_
  refine N_iload_n (i := 1) (G0 _ _ (by decide) (by decide)) eX1_init_87 rfl rfl ?_
  refine N_iload_n (i := 2) (G0 _ _ (by decide) (by decide)) eX1_init_88 rfl rfl ?_
  refine N_neT (G0 _ _ (by decide) (by decide)) eX1_init_89 (by decide) ?_
  refine N_bipush (n := 10) (v := (nI 10)) (G0 _ _ (by decide) (by decide)) eX1_init_96 rfl ?_
  refine C_iast (q := 7) (n := 8) (G0 _ _ (by decide) (by decide)) K (cOk_this ho) (by rfl) (by exact vp_in_nI (by decide) (by decide)) eX1_init_98 ?_
  refine N_iincC (i := 2) (v := (nI 3)) (L' := [some (.ref o), some (.int (nI 4)), some (.int (nI 3))]) (G0 _ _ (by decide) (by decide)) eX1_init_99 rfl (by decide) (by decide) rfl rfl ?_
  refine N_goto (G0 _ _ (by decide) (by decide)) eX1_init_102 ?_
  refine N_iload_n (i := 2) (G0 _ _ (by decide) (by decide)) eX1_init_74 rfl rfl ?_
  refine N_bipush (n := 8) (v := (nI 8)) (G0 _ _ (by decide) (by decide)) eX1_init_75 rfl ?_
  refine N_geF (G0 _ _ (by decide) (by decide)) eX1_init_77 (by decide) ?_
  refine N_aload_n (i := 0) (G0 _ _ (by decide) (by decide)) eX1_init_80 rfl rfl ?_
  refine C_get (v := .ref (s.heap.size + 2)) (G0 _ _ (by decide) (by decide)) K ggX1_20 (by rfl) eX1_init_81 ?_
  refine N_iload_n (i := 1) (G0 _ _ (by decide) (by decide)) eX1_init_84 rfl rfl ?_
  refine C_aald (w := w) (q := 2) (n := 8) (h := s.heap.size + 2) (a := s.heap.size + 7) (G0 _ _ (by decide) (by decide)) K rfl (by exact vp_in_nI (by decide) (by decide)) (by show s.heap.size + 2 + 1 + (nI 4).toNatClampNeg = _; rw [nI_clamp (by decide)]) eX1_init_85 ?_
  refine N_iload_n (i := 2) (G0 _ _ (by decide) (by decide)) eX1_init_86 rfl rfl ?_
  refine N_iload_n (i := 1) (G0 _ _ (by decide) (by decide)) eX1_init_87 rfl rfl ?_
  refine N_iload_n (i := 2) (G0 _ _ (by decide) (by decide)) eX1_init_88 rfl rfl ?_
  refine N_neT (G0 _ _ (by decide) (by decide)) eX1_init_89 (by decide) ?_
  refine N_bipush (n := 10) (v := (nI 10)) (G0 _ _ (by decide) (by decide)) eX1_init_96 rfl ?_
  refine C_iast (q := 7) (n := 8) (G0 _ _ (by decide) (by decide)) K (cOk_this ho) (by rfl) (by exact vp_in_nI (by decide) (by decide)) eX1_init_98 ?_
  refine N_iincC (i := 2) (v := (nI 4)) (L' := [some (.ref o), some (.int (nI 4)), some (.int (nI 4))]) (G0 _ _ (by decide) (by decide)) eX1_init_99 rfl (by decide) (by decide) rfl rfl ?_
  refine N_goto (G0 _ _ (by decide) (by decide)) eX1_init_102 ?_
  refine N_iload_n (i := 2) (G0 _ _ (by decide) (by decide)) eX1_init_74 rfl rfl ?_
  refine N_bipush (n := 8) (v := (nI 8)) (G0 _ _ (by decide) (by decide)) eX1_init_75 rfl ?_
  refine N_geF (G0 _ _ (by decide) (by decide)) eX1_init_77 (by decide) ?_
  refine N_aload_n (i := 0) (G0 _ _ (by decide) (by decide)) eX1_init_80 rfl rfl ?_
  refine C_get (v := .ref (s.heap.size + 2)) (G0 _ _ (by decide) (by decide)) K ggX1_20 (by rfl) eX1_init_81 ?_
  refine N_iload_n (i := 1) (G0 _ _ (by decide) (by decide)) eX1_init_84 rfl rfl ?_
  refine C_aald (w := w) (q := 2) (n := 8) (h := s.heap.size + 2) (a := s.heap.size + 7) (G0 _ _ (by decide) (by decide)) K rfl (by exact vp_in_nI (by decide) (by decide)) (by show s.heap.size + 2 + 1 + (nI 4).toNatClampNeg = _; rw [nI_clamp (by decide)]) eX1_init_85 ?_
  refine N_iload_n (i := 2) (G0 _ _ (by decide) (by decide)) eX1_init_86 rfl rfl ?_
  refine N_iload_n (i := 1) (G0 _ _ (by decide) (by decide)) eX1_init_87 rfl rfl ?_
  refine N_iload_n (i := 2) (G0 _ _ (by decide) (by decide)) eX1_init_88 rfl rfl ?_
  refine N_neF (G0 _ _ (by decide) (by decide)) eX1_init_89 (by decide) ?_
  refine N_iconst (n := 0) (v := (nI 0)) (G0 _ _ (by decide) (by decide)) eX1_init_92 rfl ?_
  refine N_goto (G0 _ _ (by decide) (by decide)) eX1_init_93 ?_
  refine C_iast (q := 7) (n := 8) (G0 _ _ (by decide) (by decide)) K (cOk_this ho) (by rfl) (by exact vp_in_nI (by decide) (by decide)) eX1_init_98 ?_
  refine N_iincC (i := 2) (v := (nI 5)) (L' := [some (.ref o), some (.int (nI 4)), some (.int (nI 5))]) (G0 _ _ (by decide) (by decide)) eX1_init_99 rfl (by decide) (by decide) rfl rfl ?_
  refine N_goto (G0 _ _ (by decide) (by decide)) eX1_init_102 ?_
  refine N_iload_n (i := 2) (G0 _ _ (by decide) (by decide)) eX1_init_74 rfl rfl ?_
  refine N_bipush (n := 8) (v := (nI 8)) (G0 _ _ (by decide) (by decide)) eX1_init_75 rfl ?_
  refine N_geF (G0 _ _ (by decide) (by decide)) eX1_init_77 (by decide) ?_
  refine N_aload_n (i := 0) (G0 _ _ (by decide) (by decide)) eX1_init_80 rfl rfl ?_
  refine C_get (v := .ref (s.heap.size + 2)) (G0 _ _ (by decide) (by decide)) K ggX1_20 (by rfl) eX1_init_81 ?_
  refine N_iload_n (i := 1) (G0 _ _ (by decide) (by decide)) eX1_init_84 rfl rfl ?_
  refine C_aald (w := w) (q := 2) (n := 8) (h := s.heap.size + 2) (a := s.heap.size + 7) (G0 _ _ (by decide) (by decide)) K rfl (by exact vp_in_nI (by decide) (by decide)) (by show s.heap.size + 2 + 1 + (nI 4).toNatClampNeg = _; rw [nI_clamp (by decide)]) eX1_init_85 ?_
  refine N_iload_n (i := 2) (G0 _ _ (by decide) (by decide)) eX1_init_86 rfl rfl ?_
  refine N_iload_n (i := 1) (G0 _ _ (by decide) (by decide)) eX1_init_87 rfl rfl ?_
  refine N_iload_n (i := 2) (G0 _ _ (by decide) (by decide)) eX1_init_88 rfl rfl ?_
  refine N_neT (G0 _ _ (by decide) (by decide)) eX1_init_89 (by decide) ?_
  refine N_bipush (n := 10) (v := (nI 10)) (G0 _ _ (by decide) (by decide)) eX1_init_96 rfl ?_
  refine C_iast (q := 7) (n := 8) (G0 _ _ (by decide) (by decide)) K (cOk_this ho) (by rfl) (by exact vp_in_nI (by decide) (by decide)) eX1_init_98 ?_
  refine N_iincC (i := 2) (v := (nI 6)) (L' := [some (.ref o), some (.int (nI 4)), some (.int (nI 6))]) (G0 _ _ (by decide) (by decide)) eX1_init_99 rfl (by decide) (by decide) rfl rfl ?_
  refine N_goto (G0 _ _ (by decide) (by decide)) eX1_init_102 ?_
  refine N_iload_n (i := 2) (G0 _ _ (by decide) (by decide)) eX1_init_74 rfl rfl ?_
  refine N_bipush (n := 8) (v := (nI 8)) (G0 _ _ (by decide) (by decide)) eX1_init_75 rfl ?_
  refine N_geF (G0 _ _ (by decide) (by decide)) eX1_init_77 (by decide) ?_
  refine N_aload_n (i := 0) (G0 _ _ (by decide) (by decide)) eX1_init_80 rfl rfl ?_
  refine C_get (v := .ref (s.heap.size + 2)) (G0 _ _ (by decide) (by decide)) K ggX1_20 (by rfl) eX1_init_81 ?_
  refine N_iload_n (i := 1) (G0 _ _ (by decide) (by decide)) eX1_init_84 rfl rfl ?_
  refine C_aald (w := w) (q := 2) (n := 8) (h := s.heap.size + 2) (a := s.heap.size + 7) (G0 _ _ (by decide) (by decide)) K rfl (by exact vp_in_nI (by decide) (by decide)) (by show s.heap.size + 2 + 1 + (nI 4).toNatClampNeg = _; rw [nI_clamp (by decide)]) eX1_init_85 ?_
  refine N_iload_n (i := 2) (G0 _ _ (by decide) (by decide)) eX1_init_86 rfl rfl ?_
  refine N_iload_n (i := 1) (G0 _ _ (by decide) (by decide)) eX1_init_87 rfl rfl ?_
  refine N_iload_n (i := 2) (G0 _ _ (by decide) (by decide)) eX1_init_88 rfl rfl ?_
  refine N_neT (G0 _ _ (by decide) (by decide)) eX1_init_89 (by decide) ?_
  refine N_bipush (n := 10) (v := (nI 10)) (G0 _ _ (by decide) (by decide)) eX1_init_96 rfl ?_
  refine C_iast (q := 7) (n := 8) (G0 _ _ (by decide) (by decide)) K (cOk_this ho) (by rfl) (by exact vp_in_nI (by decide) (by decide)) eX1_init_98 ?_
  refine N_iincC (i := 2) (v := (nI 7)) (L' := [some (.ref o), some (.int (nI 4)), some (.int (nI 7))]) (G0 _ _ (by decide) (by decide)) eX1_init_99 rfl (by decide) (by decide) rfl rfl ?_
  refine N_goto (G0 _ _ (by decide) (by decide)) eX1_init_102 ?_
  refine N_iload_n (i := 2) (G0 _ _ (by decide) (by decide)) eX1_init_74 rfl rfl ?_
  refine N_bipush (n := 8) (v := (nI 8)) (G0 _ _ (by decide) (by decide)) eX1_init_75 rfl ?_
  refine N_geF (G0 _ _ (by decide) (by decide)) eX1_init_77 (by decide) ?_
  refine N_aload_n (i := 0) (G0 _ _ (by decide) (by decide)) eX1_init_80 rfl rfl ?_
  refine C_get (v := .ref (s.heap.size + 2)) (G0 _ _ (by decide) (by decide)) K ggX1_20 (by rfl) eX1_init_81 ?_
  refine N_iload_n (i := 1) (G0 _ _ (by decide) (by decide)) eX1_init_84 rfl rfl ?_
  refine C_aald (w := w) (q := 2) (n := 8) (h := s.heap.size + 2) (a := s.heap.size + 7) (G0 _ _ (by decide) (by decide)) K rfl (by exact vp_in_nI (by decide) (by decide)) (by show s.heap.size + 2 + 1 + (nI 4).toNatClampNeg = _; rw [nI_clamp (by decide)]) eX1_init_85 ?_
  refine N_iload_n (i := 2) (G0 _ _ (by decide) (by decide)) eX1_init_86 rfl rfl ?_
  refine N_iload_n (i := 1) (G0 _ _ (by decide) (by decide)) eX1_init_87 rfl rfl ?_
  refine N_iload_n (i := 2) (G0 _ _ (by decide) (by decide)) eX1_init_88 rfl rfl ?_
  refine N_neT (G0 _ _ (by decide) (by decide)) eX1_init_89 (by decide) ?_
  refine N_bipush (n := 10) (v := (nI 10)) (G0 _ _ (by decide) (by decide)) eX1_init_96 rfl ?_
  refine C_iast (q := 7) (n := 8) (G0 _ _ (by decide) (by decide)) K (cOk_this ho) (by rfl) (by exact vp_in_nI (by decide) (by decide)) eX1_init_98 ?_
  refine N_iincC (i := 2) (v := (nI 8)) (L' := [some (.ref o), some (.int (nI 4)), some (.int (nI 8))]) (G0 _ _ (by decide) (by decide)) eX1_init_99 rfl (by decide) (by decide) rfl rfl ?_
  refine N_goto (G0 _ _ (by decide) (by decide)) eX1_init_102 ?_
  refine N_iload_n (i := 2) (G0 _ _ (by decide) (by decide)) eX1_init_74 rfl rfl ?_
  refine N_bipush (n := 8) (v := (nI 8)) (G0 _ _ (by decide) (by decide)) eX1_init_75 rfl ?_
  refine N_geT (G0 _ _ (by decide) (by decide)) eX1_init_77 (by decide) ?_
  refine N_iincC (i := 1) (v := (nI 5)) (L' := [some (.ref o), some (.int (nI 5)), some (.int (nI 8))]) (G0 _ _ (by decide) (by decide)) eX1_init_105 rfl (by decide) (by decide) rfl rfl ?_
  refine N_goto (G0 _ _ (by decide) (by decide)) eX1_init_108 ?_
  refine N_iload_n (i := 1) (G0 _ _ (by decide) (by decide)) eX1_init_66 rfl rfl ?_
  refine N_bipush (n := 8) (v := (nI 8)) (G0 _ _ (by decide) (by decide)) eX1_init_67 rfl ?_
  refine N_geF (G0 _ _ (by decide) (by decide)) eX1_init_69 (by decide) ?_
  refine N_iconst (n := 0) (v := (nI 0)) (G0 _ _ (by decide) (by decide)) eX1_init_72 rfl ?_
  refine N_istoreA_n (i := 2) (L' := [some (.ref o), some (.int (nI 5)), some (.int (nI 0))]) (G0 _ _ (by decide) (by decide)) rfl eX1_init_73 (by decide) rfl rfl ?_
  refine N_iload_n (i := 2) (G0 _ _ (by decide) (by decide)) eX1_init_74 rfl rfl ?_
  refine N_bipush (n := 8) (v := (nI 8)) (G0 _ _ (by decide) (by decide)) eX1_init_75 rfl ?_
  refine N_geF (G0 _ _ (by decide) (by decide)) eX1_init_77 (by decide) ?_
  refine N_aload_n (i := 0) (G0 _ _ (by decide) (by decide)) eX1_init_80 rfl rfl ?_
  refine C_get (v := .ref (s.heap.size + 2)) (G0 _ _ (by decide) (by decide)) K ggX1_20 (by rfl) eX1_init_81 ?_
  refine N_iload_n (i := 1) (G0 _ _ (by decide) (by decide)) eX1_init_84 rfl rfl ?_
  refine C_aald (w := w) (q := 2) (n := 8) (h := s.heap.size + 2) (a := s.heap.size + 8) (G0 _ _ (by decide) (by decide)) K rfl (by exact vp_in_nI (by decide) (by decide)) (by show s.heap.size + 2 + 1 + (nI 5).toNatClampNeg = _; rw [nI_clamp (by decide)]) eX1_init_85 ?_
  refine N_iload_n (i := 2) (G0 _ _ (by decide) (by decide)) eX1_init_86 rfl rfl ?_
  refine N_iload_n (i := 1) (G0 _ _ (by decide) (by decide)) eX1_init_87 rfl rfl ?_
  refine N_iload_n (i := 2) (G0 _ _ (by decide) (by decide)) eX1_init_88 rfl rfl ?_
  refine N_neT (G0 _ _ (by decide) (by decide)) eX1_init_89 (by decide) ?_
  refine N_bipush (n := 10) (v := (nI 10)) (G0 _ _ (by decide) (by decide)) eX1_init_96 rfl ?_
  refine C_iast (q := 8) (n := 8) (G0 _ _ (by decide) (by decide)) K (cOk_this ho) (by rfl) (by exact vp_in_nI (by decide) (by decide)) eX1_init_98 ?_
  refine N_iincC (i := 2) (v := (nI 1)) (L' := [some (.ref o), some (.int (nI 5)), some (.int (nI 1))]) (G0 _ _ (by decide) (by decide)) eX1_init_99 rfl (by decide) (by decide) rfl rfl ?_
  refine N_goto (G0 _ _ (by decide) (by decide)) eX1_init_102 ?_
  refine N_iload_n (i := 2) (G0 _ _ (by decide) (by decide)) eX1_init_74 rfl rfl ?_
  refine N_bipush (n := 8) (v := (nI 8)) (G0 _ _ (by decide) (by decide)) eX1_init_75 rfl ?_
  refine N_geF (G0 _ _ (by decide) (by decide)) eX1_init_77 (by decide) ?_
  refine N_aload_n (i := 0) (G0 _ _ (by decide) (by decide)) eX1_init_80 rfl rfl ?_
  refine C_get (v := .ref (s.heap.size + 2)) (G0 _ _ (by decide) (by decide)) K ggX1_20 (by rfl) eX1_init_81 ?_
  refine N_iload_n (i := 1) (G0 _ _ (by decide) (by decide)) eX1_init_84 rfl rfl ?_
  refine C_aald (w := w) (q := 2) (n := 8) (h := s.heap.size + 2) (a := s.heap.size + 8) (G0 _ _ (by decide) (by decide)) K rfl (by exact vp_in_nI (by decide) (by decide)) (by show s.heap.size + 2 + 1 + (nI 5).toNatClampNeg = _; rw [nI_clamp (by decide)]) eX1_init_85 ?_
  refine N_iload_n (i := 2) (G0 _ _ (by decide) (by decide)) eX1_init_86 rfl rfl ?_
  refine N_iload_n (i := 1) (G0 _ _ (by decide) (by decide)) eX1_init_87 rfl rfl ?_
  refine N_iload_n (i := 2) (G0 _ _ (by decide) (by decide)) eX1_init_88 rfl rfl ?_
  refine N_neT (G0 _ _ (by decide) (by decide)) eX1_init_89 (by decide) ?_
  refine N_bipush (n := 10) (v := (nI 10)) (G0 _ _ (by decide) (by decide)) eX1_init_96 rfl ?_
  refine C_iast (q := 8) (n := 8) (G0 _ _ (by decide) (by decide)) K (cOk_this ho) (by rfl) (by exact vp_in_nI (by decide) (by decide)) eX1_init_98 ?_
  refine N_iincC (i := 2) (v := (nI 2)) (L' := [some (.ref o), some (.int (nI 5)), some (.int (nI 2))]) (G0 _ _ (by decide) (by decide)) eX1_init_99 rfl (by decide) (by decide) rfl rfl ?_
  refine N_goto (G0 _ _ (by decide) (by decide)) eX1_init_102 ?_
  refine N_iload_n (i := 2) (G0 _ _ (by decide) (by decide)) eX1_init_74 rfl rfl ?_
  refine N_bipush (n := 8) (v := (nI 8)) (G0 _ _ (by decide) (by decide)) eX1_init_75 rfl ?_
  refine N_geF (G0 _ _ (by decide) (by decide)) eX1_init_77 (by decide) ?_
  refine N_aload_n (i := 0) (G0 _ _ (by decide) (by decide)) eX1_init_80 rfl rfl ?_
  refine C_get (v := .ref (s.heap.size + 2)) (G0 _ _ (by decide) (by decide)) K ggX1_20 (by rfl) eX1_init_81 ?_
  refine N_iload_n (i := 1) (G0 _ _ (by decide) (by decide)) eX1_init_84 rfl rfl ?_
  refine C_aald (w := w) (q := 2) (n := 8) (h := s.heap.size + 2) (a := s.heap.size + 8) (G0 _ _ (by decide) (by decide)) K rfl (by exact vp_in_nI (by decide) (by decide)) (by show s.heap.size + 2 + 1 + (nI 5).toNatClampNeg = _; rw [nI_clamp (by decide)]) eX1_init_85 ?_
  refine N_iload_n (i := 2) (G0 _ _ (by decide) (by decide)) eX1_init_86 rfl rfl ?_
  refine N_iload_n (i := 1) (G0 _ _ (by decide) (by decide)) eX1_init_87 rfl rfl ?_
  refine N_iload_n (i := 2) (G0 _ _ (by decide) (by decide)) eX1_init_88 rfl rfl ?_
  refine N_neT (G0 _ _ (by decide) (by decide)) eX1_init_89 (by decide) ?_
  refine N_bipush (n := 10) (v := (nI 10)) (G0 _ _ (by decide) (by decide)) eX1_init_96 rfl ?_
  refine C_iast (q := 8) (n := 8) (G0 _ _ (by decide) (by decide)) K (cOk_this ho) (by rfl) (by exact vp_in_nI (by decide) (by decide)) eX1_init_98 ?_
  refine N_iincC (i := 2) (v := (nI 3)) (L' := [some (.ref o), some (.int (nI 5)), some (.int (nI 3))]) (G0 _ _ (by decide) (by decide)) eX1_init_99 rfl (by decide) (by decide) rfl rfl ?_
  refine N_goto (G0 _ _ (by decide) (by decide)) eX1_init_102 ?_
  refine N_iload_n (i := 2) (G0 _ _ (by decide) (by decide)) eX1_init_74 rfl rfl ?_
  refine N_bipush (n := 8) (v := (nI 8)) (G0 _ _ (by decide) (by decide)) eX1_init_75 rfl ?_
  refine N_geF (G0 _ _ (by decide) (by decide)) eX1_init_77 (by decide) ?_
  refine N_aload_n (i := 0) (G0 _ _ (by decide) (by decide)) eX1_init_80 rfl rfl ?_
  refine C_get (v := .ref (s.heap.size + 2)) (G0 _ _ (by decide) (by decide)) K ggX1_20 (by rfl) eX1_init_81 ?_
  refine N_iload_n (i := 1) (G0 _ _ (by decide) (by decide)) eX1_init_84 rfl rfl ?_
  refine C_aald (w := w) (q := 2) (n := 8) (h := s.heap.size + 2) (a := s.heap.size + 8) (G0 _ _ (by decide) (by decide)) K rfl (by exact vp_in_nI (by decide) (by decide)) (by show s.heap.size + 2 + 1 + (nI 5).toNatClampNeg = _; rw [nI_clamp (by decide)]) eX1_init_85 ?_
  refine N_iload_n (i := 2) (G0 _ _ (by decide) (by decide)) eX1_init_86 rfl rfl ?_
  refine N_iload_n (i := 1) (G0 _ _ (by decide) (by decide)) eX1_init_87 rfl rfl ?_
  refine N_iload_n (i := 2) (G0 _ _ (by decide) (by decide)) eX1_init_88 rfl rfl ?_
  refine N_neT (G0 _ _ (by decide) (by decide)) eX1_init_89 (by decide) ?_
  refine N_bipush (n := 10) (v := (nI 10)) (G0 _ _ (by decide) (by decide)) eX1_init_96 rfl ?_
  refine C_iast (q := 8) (n := 8) (G0 _ _ (by decide) (by decide)) K (cOk_this ho) (by rfl) (by exact vp_in_nI (by decide) (by decide)) eX1_init_98 ?_
  refine N_iincC (i := 2) (v := (nI 4)) (L' := [some (.ref o), some (.int (nI 5)), some (.int (nI 4))]) (G0 _ _ (by decide) (by decide)) eX1_init_99 rfl (by decide) (by decide) rfl rfl ?_
  refine N_goto (G0 _ _ (by decide) (by decide)) eX1_init_102 ?_
  refine N_iload_n (i := 2) (G0 _ _ (by decide) (by decide)) eX1_init_74 rfl rfl ?_
  refine N_bipush (n := 8) (v := (nI 8)) (G0 _ _ (by decide) (by decide)) eX1_init_75 rfl ?_
  refine N_geF (G0 _ _ (by decide) (by decide)) eX1_init_77 (by decide) ?_
  refine N_aload_n (i := 0) (G0 _ _ (by decide) (by decide)) eX1_init_80 rfl rfl ?_
  refine C_get (v := .ref (s.heap.size + 2)) (G0 _ _ (by decide) (by decide)) K ggX1_20 (by rfl) eX1_init_81 ?_
  refine N_iload_n (i := 1) (G0 _ _ (by decide) (by decide)) eX1_init_84 rfl rfl ?_
  refine C_aald (w := w) (q := 2) (n := 8) (h := s.heap.size + 2) (a := s.heap.size + 8) (G0 _ _ (by decide) (by decide)) K rfl (by exact vp_in_nI (by decide) (by decide)) (by show s.heap.size + 2 + 1 + (nI 5).toNatClampNeg = _; rw [nI_clamp (by decide)]) eX1_init_85 ?_
  refine N_iload_n (i := 2) (G0 _ _ (by decide) (by decide)) eX1_init_86 rfl rfl ?_
  refine N_iload_n (i := 1) (G0 _ _ (by decide) (by decide)) eX1_init_87 rfl rfl ?_
  refine N_iload_n (i := 2) (G0 _ _ (by decide) (by decide)) eX1_init_88 rfl rfl ?_
  refine N_neT (G0 _ _ (by decide) (by decide)) eX1_init_89 (by decide) ?_
  refine N_bipush (n := 10) (v := (nI 10)) (G0 _ _ (by decide) (by decide)) eX1_init_96 rfl ?_
  refine C_iast (q := 8) (n := 8) (G0 _ _ (by decide) (by decide)) K (cOk_this ho) (by rfl) (by exact vp_in_nI (by decide) (by decide)) eX1_init_98 ?_
  refine N_iincC (i := 2) (v := (nI 5)) (L' := [some (.ref o), some (.int (nI 5)), some (.int (nI 5))]) (G0 _ _ (by decide) (by decide)) eX1_init_99 rfl (by decide) (by decide) rfl rfl ?_
  refine N_goto (G0 _ _ (by decide) (by decide)) eX1_init_102 ?_
  refine N_iload_n (i := 2) (G0 _ _ (by decide) (by decide)) eX1_init_74 rfl rfl ?_
  refine N_bipush (n := 8) (v := (nI 8)) (G0 _ _ (by decide) (by decide)) eX1_init_75 rfl ?_
  refine N_geF (G0 _ _ (by decide) (by decide)) eX1_init_77 (by decide) ?_
  refine N_aload_n (i := 0) (G0 _ _ (by decide) (by decide)) eX1_init_80 rfl rfl ?_
  refine C_get (v := .ref (s.heap.size + 2)) (G0 _ _ (by decide) (by decide)) K ggX1_20 (by rfl) eX1_init_81 ?_
  refine N_iload_n (i := 1) (G0 _ _ (by decide) (by decide)) eX1_init_84 rfl rfl ?_
  refine C_aald (w := w) (q := 2) (n := 8) (h := s.heap.size + 2) (a := s.heap.size + 8) (G0 _ _ (by decide) (by decide)) K rfl (by exact vp_in_nI (by decide) (by decide)) (by show s.heap.size + 2 + 1 + (nI 5).toNatClampNeg = _; rw [nI_clamp (by decide)]) eX1_init_85 ?_
  refine N_iload_n (i := 2) (G0 _ _ (by decide) (by decide)) eX1_init_86 rfl rfl ?_
  refine N_iload_n (i := 1) (G0 _ _ (by decide) (by decide)) eX1_init_87 rfl rfl ?_
  refine N_iload_n (i := 2) (G0 _ _ (by decide) (by decide)) eX1_init_88 rfl rfl ?_
  refine N_neF (G0 _ _ (by decide) (by decide)) eX1_init_89 (by decide) ?_
  refine N_iconst (n := 0) (v := (nI 0)) (G0 _ _ (by decide) (by decide)) eX1_init_92 rfl ?_
  refine N_goto (G0 _ _ (by decide) (by decide)) eX1_init_93 ?_
  refine C_iast (q := 8) (n := 8) (G0 _ _ (by decide) (by decide)) K (cOk_this ho) (by rfl) (by exact vp_in_nI (by decide) (by decide)) eX1_init_98 ?_
  refine N_iincC (i := 2) (v := (nI 6)) (L' := [some (.ref o), some (.int (nI 5)), some (.int (nI 6))]) (G0 _ _ (by decide) (by decide)) eX1_init_99 rfl (by decide) (by decide) rfl rfl ?_
  refine N_goto (G0 _ _ (by decide) (by decide)) eX1_init_102 ?_
  refine N_iload_n (i := 2) (G0 _ _ (by decide) (by decide)) eX1_init_74 rfl rfl ?_
  refine N_bipush (n := 8) (v := (nI 8)) (G0 _ _ (by decide) (by decide)) eX1_init_75 rfl ?_
  refine N_geF (G0 _ _ (by decide) (by decide)) eX1_init_77 (by decide) ?_
  refine N_aload_n (i := 0) (G0 _ _ (by decide) (by decide)) eX1_init_80 rfl rfl ?_
  refine C_get (v := .ref (s.heap.size + 2)) (G0 _ _ (by decide) (by decide)) K ggX1_20 (by rfl) eX1_init_81 ?_
  refine N_iload_n (i := 1) (G0 _ _ (by decide) (by decide)) eX1_init_84 rfl rfl ?_
  refine C_aald (w := w) (q := 2) (n := 8) (h := s.heap.size + 2) (a := s.heap.size + 8) (G0 _ _ (by decide) (by decide)) K rfl (by exact vp_in_nI (by decide) (by decide)) (by show s.heap.size + 2 + 1 + (nI 5).toNatClampNeg = _; rw [nI_clamp (by decide)]) eX1_init_85 ?_
  refine N_iload_n (i := 2) (G0 _ _ (by decide) (by decide)) eX1_init_86 rfl rfl ?_
  refine N_iload_n (i := 1) (G0 _ _ (by decide) (by decide)) eX1_init_87 rfl rfl ?_
  refine N_iload_n (i := 2) (G0 _ _ (by decide) (by decide)) eX1_init_88 rfl rfl ?_
  refine N_neT (G0 _ _ (by decide) (by decide)) eX1_init_89 (by decide) ?_
  refine N_bipush (n := 10) (v := (nI 10)) (G0 _ _ (by decide) (by decide)) eX1_init_96 rfl ?_
  refine C_iast (q := 8) (n := 8) (G0 _ _ (by decide) (by decide)) K (cOk_this ho) (by rfl) (by exact vp_in_nI (by decide) (by decide)) eX1_init_98 ?_
  refine N_iincC (i := 2) (v := (nI 7)) (L' := [some (.ref o), some (.int (nI 5)), some (.int (nI 7))]) (G0 _ _ (by decide) (by decide)) eX1_init_99 rfl (by decide) (by decide) rfl rfl ?_
  refine N_goto (G0 _ _ (by decide) (by decide)) eX1_init_102 ?_
  refine N_iload_n (i := 2) (G0 _ _ (by decide) (by decide)) eX1_init_74 rfl rfl ?_
  refine N_bipush (n := 8) (v := (nI 8)) (G0 _ _ (by decide) (by decide)) eX1_init_75 rfl ?_
  refine N_geF (G0 _ _ (by decide) (by decide)) eX1_init_77 (by decide) ?_
  refine N_aload_n (i := 0) (G0 _ _ (by decide) (by decide)) eX1_init_80 rfl rfl ?_
  refine C_get (v := .ref (s.heap.size + 2)) (G0 _ _ (by decide) (by decide)) K ggX1_20 (by rfl) eX1_init_81 ?_
  refine N_iload_n (i := 1) (G0 _ _ (by decide) (by decide)) eX1_init_84 rfl rfl ?_
  refine C_aald (w := w) (q := 2) (n := 8) (h := s.heap.size + 2) (a := s.heap.size + 8) (G0 _ _ (by decide) (by decide)) K rfl (by exact vp_in_nI (by decide) (by decide)) (by show s.heap.size + 2 + 1 + (nI 5).toNatClampNeg = _; rw [nI_clamp (by decide)]) eX1_init_85 ?_
  refine N_iload_n (i := 2) (G0 _ _ (by decide) (by decide)) eX1_init_86 rfl rfl ?_
  refine N_iload_n (i := 1) (G0 _ _ (by decide) (by decide)) eX1_init_87 rfl rfl ?_
  refine N_iload_n (i := 2) (G0 _ _ (by decide) (by decide)) eX1_init_88 rfl rfl ?_
  refine N_neT (G0 _ _ (by decide) (by decide)) eX1_init_89 (by decide) ?_
  refine N_bipush (n := 10) (v := (nI 10)) (G0 _ _ (by decide) (by decide)) eX1_init_96 rfl ?_
  refine C_iast (q := 8) (n := 8) (G0 _ _ (by decide) (by decide)) K (cOk_this ho) (by rfl) (by exact vp_in_nI (by decide) (by decide)) eX1_init_98 ?_
  refine N_iincC (i := 2) (v := (nI 8)) (L' := [some (.ref o), some (.int (nI 5)), some (.int (nI 8))]) (G0 _ _ (by decide) (by decide)) eX1_init_99 rfl (by decide) (by decide) rfl rfl ?_
  refine N_goto (G0 _ _ (by decide) (by decide)) eX1_init_102 ?_
  refine N_iload_n (i := 2) (G0 _ _ (by decide) (by decide)) eX1_init_74 rfl rfl ?_
  refine N_bipush (n := 8) (v := (nI 8)) (G0 _ _ (by decide) (by decide)) eX1_init_75 rfl ?_
  refine N_geT (G0 _ _ (by decide) (by decide)) eX1_init_77 (by decide) ?_
  refine N_iincC (i := 1) (v := (nI 6)) (L' := [some (.ref o), some (.int (nI 6)), some (.int (nI 8))]) (G0 _ _ (by decide) (by decide)) eX1_init_105 rfl (by decide) (by decide) rfl rfl ?_
  refine N_goto (G0 _ _ (by decide) (by decide)) eX1_init_108 ?_
  refine N_iload_n (i := 1) (G0 _ _ (by decide) (by decide)) eX1_init_66 rfl rfl ?_
  refine N_bipush (n := 8) (v := (nI 8)) (G0 _ _ (by decide) (by decide)) eX1_init_67 rfl ?_
  refine N_geF (G0 _ _ (by decide) (by decide)) eX1_init_69 (by decide) ?_
  refine N_iconst (n := 0) (v := (nI 0)) (G0 _ _ (by decide) (by decide)) eX1_init_72 rfl ?_
  refine N_istoreA_n (i := 2) (L' := [some (.ref o), some (.int (nI 6)), some (.int (nI 0))]) (G0 _ _ (by decide) (by decide)) rfl eX1_init_73 (by decide) rfl rfl ?_
  refine N_iload_n (i := 2) (G0 _ _ (by decide) (by decide)) eX1_init_74 rfl rfl ?_
  refine N_bipush (n := 8) (v := (nI 8)) (G0 _ _ (by decide) (by decide)) eX1_init_75 rfl ?_
  refine N_geF (G0 _ _ (by decide) (by decide)) eX1_init_77 (by decide) ?_
  refine N_aload_n (i := 0) (G0 _ _ (by decide) (by decide)) eX1_init_80 rfl rfl ?_
  refine C_get (v := .ref (s.heap.size + 2)) (G0 _ _ (by decide) (by decide)) K ggX1_20 (by rfl) eX1_init_81 ?_
  refine N_iload_n (i := 1) (G0 _ _ (by decide) (by decide)) eX1_init_84 rfl rfl ?_
  refine C_aald (w := w) (q := 2) (n := 8) (h := s.heap.size + 2) (a := s.heap.size + 9) (G0 _ _ (by decide) (by decide)) K rfl (by exact vp_in_nI (by decide) (by decide)) (by show s.heap.size + 2 + 1 + (nI 6).toNatClampNeg = _; rw [nI_clamp (by decide)]) eX1_init_85 ?_
  refine N_iload_n (i := 2) (G0 _ _ (by decide) (by decide)) eX1_init_86 rfl rfl ?_
  refine N_iload_n (i := 1) (G0 _ _ (by decide) (by decide)) eX1_init_87 rfl rfl ?_
  refine N_iload_n (i := 2) (G0 _ _ (by decide) (by decide)) eX1_init_88 rfl rfl ?_
  refine N_neT (G0 _ _ (by decide) (by decide)) eX1_init_89 (by decide) ?_
  refine N_bipush (n := 10) (v := (nI 10)) (G0 _ _ (by decide) (by decide)) eX1_init_96 rfl ?_
  refine C_iast (q := 9) (n := 8) (G0 _ _ (by decide) (by decide)) K (cOk_this ho) (by rfl) (by exact vp_in_nI (by decide) (by decide)) eX1_init_98 ?_
  refine N_iincC (i := 2) (v := (nI 1)) (L' := [some (.ref o), some (.int (nI 6)), some (.int (nI 1))]) (G0 _ _ (by decide) (by decide)) eX1_init_99 rfl (by decide) (by decide) rfl rfl ?_
  refine N_goto (G0 _ _ (by decide) (by decide)) eX1_init_102 ?_
  refine N_iload_n (i := 2) (G0 _ _ (by decide) (by decide)) eX1_init_74 rfl rfl ?_
  refine N_bipush (n := 8) (v := (nI 8)) (G0 _ _ (by decide) (by decide)) eX1_init_75 rfl ?_
  refine N_geF (G0 _ _ (by decide) (by decide)) eX1_init_77 (by decide) ?_
  refine N_aload_n (i := 0) (G0 _ _ (by decide) (by decide)) eX1_init_80 rfl rfl ?_
  refine C_get (v := .ref (s.heap.size + 2)) (G0 _ _ (by decide) (by decide)) K ggX1_20 (by rfl) eX1_init_81 ?_
  refine N_iload_n (i := 1) (G0 _ _ (by decide) (by decide)) eX1_init_84 rfl rfl ?_
  refine C_aald (w := w) (q := 2) (n := 8) (h := s.heap.size + 2) (a := s.heap.size + 9) (G0 _ _ (by decide) (by decide)) K rfl (by exact vp_in_nI (by decide) (by decide)) (by show s.heap.size + 2 + 1 + (nI 6).toNatClampNeg = _; rw [nI_clamp (by decide)]) eX1_init_85 ?_
  refine N_iload_n (i := 2) (G0 _ _ (by decide) (by decide)) eX1_init_86 rfl rfl ?_
  refine N_iload_n (i := 1) (G0 _ _ (by decide) (by decide)) eX1_init_87 rfl rfl ?_
  refine N_iload_n (i := 2) (G0 _ _ (by decide) (by decide)) eX1_init_88 rfl rfl ?_
  refine N_neT (G0 _ _ (by decide) (by decide)) eX1_init_89 (by decide) ?_
  refine N_bipush (n := 10) (v := (nI 10)) (G0 _ _ (by decide) (by decide)) eX1_init_96 rfl ?_
  refine C_iast (q := 9) (n := 8) (G0 _ _ (by decide) (by decide)) K (cOk_this ho) (by rfl) (by exact vp_in_nI (by decide) (by decide)) eX1_init_98 ?_
  refine N_iincC (i := 2) (v := (nI 2)) (L' := [some (.ref o), some (.int (nI 6)), some (.int (nI 2))]) (G0 _ _ (by decide) (by decide)) eX1_init_99 rfl (by decide) (by decide) rfl rfl ?_
  refine N_goto (G0 _ _ (by decide) (by decide)) eX1_init_102 ?_
  refine N_iload_n (i := 2) (G0 _ _ (by decide) (by decide)) eX1_init_74 rfl rfl ?_
  refine N_bipush (n := 8) (v := (nI 8)) (G0 _ _ (by decide) (by decide)) eX1_init_75 rfl ?_
  refine N_geF (G0 _ _ (by decide) (by decide)) eX1_init_77 (by decide) ?_
  refine N_aload_n (i := 0) (G0 _ _ (by decide) (by decide)) eX1_init_80 rfl rfl ?_
  refine C_get (v := .ref (s.heap.size + 2)) (G0 _ _ (by decide) (by decide)) K ggX1_20 (by rfl) eX1_init_81 ?_
  refine N_iload_n (i := 1) (G0 _ _ (by decide) (by decide)) eX1_init_84 rfl rfl ?_
  refine C_aald (w := w) (q := 2) (n := 8) (h := s.heap.size + 2) (a := s.heap.size + 9) (G0 _ _ (by decide) (by decide)) K rfl (by exact vp_in_nI (by decide) (by decide)) (by show s.heap.size + 2 + 1 + (nI 6).toNatClampNeg = _; rw [nI_clamp (by decide)]) eX1_init_85 ?_
  refine N_iload_n (i := 2) (G0 _ _ (by decide) (by decide)) eX1_init_86 rfl rfl ?_
  refine N_iload_n (i := 1) (G0 _ _ (by decide) (by decide)) eX1_init_87 rfl rfl ?_
  refine N_iload_n (i := 2) (G0 _ _ (by decide) (by decide)) eX1_init_88 rfl rfl ?_
  refine N_neT (G0 _ _ (by decide) (by decide)) eX1_init_89 (by decide) ?_
  refine N_bipush (n := 10) (v := (nI 10)) (G0 _ _ (by decide) (by decide)) eX1_init_96 rfl ?_
  refine C_iast (q := 9) (n := 8) (G0 _ _ (by decide) (by decide)) K (cOk_this ho) (by rfl) (by exact vp_in_nI (by decide) (by decide)) eX1_init_98 ?_
  refine N_iincC (i := 2) (v := (nI 3)) (L' := [some (.ref o), some (.int (nI 6)), some (.int (nI 3))]) (G0 _ _ (by decide) (by decide)) eX1_init_99 rfl (by decide) (by decide) rfl rfl ?_
  refine N_goto (G0 _ _ (by decide) (by decide)) eX1_init_102 ?_
  refine N_iload_n (i := 2) (G0 _ _ (by decide) (by decide)) eX1_init_74 rfl rfl ?_
  refine N_bipush (n := 8) (v := (nI 8)) (G0 _ _ (by decide) (by decide)) eX1_init_75 rfl ?_
  refine N_geF (G0 _ _ (by decide) (by decide)) eX1_init_77 (by decide) ?_
  refine N_aload_n (i := 0) (G0 _ _ (by decide) (by decide)) eX1_init_80 rfl rfl ?_
  refine C_get (v := .ref (s.heap.size + 2)) (G0 _ _ (by decide) (by decide)) K ggX1_20 (by rfl) eX1_init_81 ?_
  refine N_iload_n (i := 1) (G0 _ _ (by decide) (by decide)) eX1_init_84 rfl rfl ?_
  refine C_aald (w := w) (q := 2) (n := 8) (h := s.heap.size + 2) (a := s.heap.size + 9) (G0 _ _ (by decide) (by decide)) K rfl (by exact vp_in_nI (by decide) (by decide)) (by show s.heap.size + 2 + 1 + (nI 6).toNatClampNeg = _; rw [nI_clamp (by decide)]) eX1_init_85 ?_
  refine N_iload_n (i := 2) (G0 _ _ (by decide) (by decide)) eX1_init_86 rfl rfl ?_
  refine N_iload_n (i := 1) (G0 _ _ (by decide) (by decide)) eX1_init_87 rfl rfl ?_
  refine N_iload_n (i := 2) (G0 _ _ (by decide) (by decide)) eX1_init_88 rfl rfl ?_
  refine N_neT (G0 _ _ (by decide) (by decide)) eX1_init_89 (by decide) ?_
  refine N_bipush (n := 10) (v := (nI 10)) (G0 _ _ (by decide) (by decide)) eX1_init_96 rfl ?_
  refine C_iast (q := 9) (n := 8) (G0 _ _ (by decide) (by decide)) K (cOk_this ho) (by rfl) (by exact vp_in_nI (by decide) (by decide)) eX1_init_98 ?_
  refine N_iincC (i := 2) (v := (nI 4)) (L' := [some (.ref o), some (.int (nI 6)), some (.int (nI 4))]) (G0 _ _ (by decide) (by decide)) eX1_init_99 rfl (by decide) (by decide) rfl rfl ?_
  refine N_goto (G0 _ _ (by decide) (by decide)) eX1_init_102 ?_
  refine N_iload_n (i := 2) (G0 _ _ (by decide) (by decide)) eX1_init_74 rfl rfl ?_
  refine N_bipush (n := 8) (v := (nI 8)) (G0 _ _ (by decide) (by decide)) eX1_init_75 rfl ?_
  refine N_geF (G0 _ _ (by decide) (by decide)) eX1_init_77 (by decide) ?_
  refine N_aload_n (i := 0) (G0 _ _ (by decide) (by decide)) eX1_init_80 rfl rfl ?_
  refine C_get (v := .ref (s.heap.size + 2)) (G0 _ _ (by decide) (by decide)) K ggX1_20 (by rfl) eX1_init_81 ?_
  refine N_iload_n (i := 1) (G0 _ _ (by decide) (by decide)) eX1_init_84 rfl rfl ?_
  refine C_aald (w := w) (q := 2) (n := 8) (h := s.heap.size + 2) (a := s.heap.size + 9) (G0 _ _ (by decide) (by decide)) K rfl (by exact vp_in_nI (by decide) (by decide)) (by show s.heap.size + 2 + 1 + (nI 6).toNatClampNeg = _; rw [nI_clamp (by decide)]) eX1_init_85 ?_
  refine N_iload_n (i := 2) (G0 _ _ (by decide) (by decide)) eX1_init_86 rfl rfl ?_
  refine N_iload_n (i := 1) (G0 _ _ (by decide) (by decide)) eX1_init_87 rfl rfl ?_
  refine N_iload_n (i := 2) (G0 _ _ (by decide) (by decide)) eX1_init_88 rfl rfl ?_
  refine N_neT (G0 _ _ (by decide) (by decide)) eX1_init_89 (by decide) ?_
  refine N_bipush (n := 10) (v := (nI 10)) (G0 _ _ (by decide) (by decide)) eX1_init_96 rfl ?_
  refine C_iast (q := 9) (n := 8) (G0 _ _ (by decide) (by decide)) K (cOk_this ho) (by rfl) (by exact vp_in_nI (by decide) (by decide)) eX1_init_98 ?_
  refine N_iincC (i := 2) (v := (nI 5)) (L' := [some (.ref o), some (.int (nI 6)), some (.int (nI 5))]) (G0 _ _ (by decide) (by decide)) eX1_init_99 rfl (by decide) (by decide) rfl rfl ?_
  refine N_goto (G0 _ _ (by decide) (by decide)) eX1_init_102 ?_
  refine N_iload_n (i := 2) (G0 _ _ (by decide) (by decide)) eX1_init_74 rfl rfl ?_
  refine N_bipush (n := 8) (v := (nI 8)) (G0 _ _ (by decide) (by decide)) eX1_init_75 rfl ?_
  refine N_geF (G0 _ _ (by decide) (by decide)) eX1_init_77 (by decide) ?_
  refine N_aload_n (i := 0) (G0 _ _ (by decide) (by decide)) eX1_init_80 rfl rfl ?_
  refine C_get (v := .ref (s.heap.size + 2)) (G0 _ _ (by decide) (by decide)) K ggX1_20 (by rfl) eX1_init_81 ?_
  refine N_iload_n (i := 1) (G0 _ _ (by decide) (by decide)) eX1_init_84 rfl rfl ?_
  refine C_aald (w := w) (q := 2) (n := 8) (h := s.heap.size + 2) (a := s.heap.size + 9) (G0 _ _ (by decide) (by decide)) K rfl (by exact vp_in_nI (by decide) (by decide)) (by show s.heap.size + 2 + 1 + (nI 6).toNatClampNeg = _; rw [nI_clamp (by decide)]) eX1_init_85 ?_
  refine N_iload_n (i := 2) (G0 _ _ (by decide) (by decide)) eX1_init_86 rfl rfl ?_
  refine N_iload_n (i := 1) (G0 _ _ (by decide) (by decide)) eX1_init_87 rfl rfl ?_
  refine N_iload_n (i := 2) (G0 _ _ (by decide) (by decide)) eX1_init_88 rfl rfl ?_
  refine N_neT (G0 _ _ (by decide) (by decide)) eX1_init_89 (by decide) ?_
  refine N_bipush (n := 10) (v := (nI 10)) (G0 _ _ (by decide) (by decide)) eX1_init_96 rfl ?_
  refine C_iast (q := 9) (n := 8) (G0 _ _ (by decide) (by decide)) K (cOk_this ho) (by rfl) (by exact vp_in_nI (by decide) (by decide)) eX1_init_98 ?_
  refine N_iincC (i := 2) (v := (nI 6)) (L' := [some (.ref o), some (.int (nI 6)), some (.int (nI 6))]) (G0 _ _ (by decide) (by decide)) eX1_init_99 rfl (by decide) (by decide) rfl rfl ?_
  refine N_goto (G0 _ _ (by decide) (by decide)) eX1_init_102 ?_
  refine N_iload_n (i := 2) (G0 _ _ (by decide) (by decide)) eX1_init_74 rfl rfl ?_
  refine N_bipush (n := 8) (v := (nI 8)) (G0 _ _ (by decide) (by decide)) eX1_init_75 rfl ?_
  refine N_geF (G0 _ _ (by decide) (by decide)) eX1_init_77 (by decide) ?_
  refine N_aload_n (i := 0) (G0 _ _ (by decide) (by decide)) eX1_init_80 rfl rfl ?_
  refine C_get (v := .ref (s.heap.size + 2)) (G0 _ _ (by decide) (by decide)) K ggX1_20 (by rfl) eX1_init_81 ?_
  refine N_iload_n (i := 1) (G0 _ _ (by decide) (by decide)) eX1_init_84 rfl rfl ?_
  refine C_aald (w := w) (q := 2) (n := 8) (h := s.heap.size + 2) (a := s.heap.size + 9) (G0 _ _ (by decide) (by decide)) K rfl (by exact vp_in_nI (by decide) (by decide)) (by show s.heap.size + 2 + 1 + (nI 6).toNatClampNeg = _; rw [nI_clamp (by decide)]) eX1_init_85 ?_
  refine N_iload_n (i := 2) (G0 _ _ (by decide) (by decide)) eX1_init_86 rfl rfl ?_
  refine N_iload_n (i := 1) (G0 _ _ (by decide) (by decide)) eX1_init_87 rfl rfl ?_
  refine N_iload_n (i := 2) (G0 _ _ (by decide) (by decide)) eX1_init_88 rfl rfl ?_
  refine N_neF (G0 _ _ (by decide) (by decide)) eX1_init_89 (by decide) ?_
  refine N_iconst (n := 0) (v := (nI 0)) (G0 _ _ (by decide) (by decide)) eX1_init_92 rfl ?_
  refine N_goto (G0 _ _ (by decide) (by decide)) eX1_init_93 ?_
  refine C_iast (q := 9) (n := 8) (G0 _ _ (by decide) (by decide)) K (cOk_this ho) (by rfl) (by exact vp_in_nI (by decide) (by decide)) eX1_init_98 ?_
  refine N_iincC (i := 2) (v := (nI 7)) (L' := [some (.ref o), some (.int (nI 6)), some (.int (nI 7))]) (G0 _ _ (by decide) (by decide)) eX1_init_99 rfl (by decide) (by decide) rfl rfl ?_
  refine N_goto (G0 _ _ (by decide) (by decide)) eX1_init_102 ?_
  refine N_iload_n (i := 2) (G0 _ _ (by decide) (by decide)) eX1_init_74 rfl rfl ?_
  refine N_bipush (n := 8) (v := (nI 8)) (G0 _ _ (by decide) (by decide)) eX1_init_75 rfl ?_
  refine N_geF (G0 _ _ (by decide) (by decide)) eX1_init_77 (by decide) ?_
  refine N_aload_n (i := 0) (G0 _ _ (by decide) (by decide)) eX1_init_80 rfl rfl ?_
  refine C_get (v := .ref (s.heap.size + 2)) (G0 _ _ (by decide) (by decide)) K ggX1_20 (by rfl) eX1_init_81 ?_
  refine N_iload_n (i := 1) (G0 _ _ (by decide) (by decide)) eX1_init_84 rfl rfl ?_
  refine C_aald (w := w) (q := 2) (n := 8) (h := s.heap.size + 2) (a := s.heap.size + 9) (G0 _ _ (by decide) (by decide)) K rfl (by exact vp_in_nI (by decide) (by decide)) (by show s.heap.size + 2 + 1 + (nI 6).toNatClampNeg = _; rw [nI_clamp (by decide)]) eX1_init_85 ?_
  refine N_iload_n (i := 2) (G0 _ _ (by decide) (by decide)) eX1_init_86 rfl rfl ?_
  refine N_iload_n (i := 1) (G0 _ _ (by decide) (by decide)) eX1_init_87 rfl rfl ?_
  refine N_iload_n (i := 2) (G0 _ _ (by decide) (by decide)) eX1_init_88 rfl rfl ?_
  refine N_neT (G0 _ _ (by decide) (by decide)) eX1_init_89 (by decide) ?_
  refine N_bipush (n := 10) (v := (nI 10)) (G0 _ _ (by decide) (by decide)) eX1_init_96 rfl ?_
  refine C_iast (q := 9) (n := 8) (G0 _ _ (by decide) (by decide)) K (cOk_this ho) (by rfl) (by exact vp_in_nI (by decide) (by decide)) eX1_init_98 ?_
  refine N_iincC (i := 2) (v := (nI 8)) (L' := [some (.ref o), some (.int (nI 6)), some (.int (nI 8))]) (G0 _ _ (by decide) (by decide)) eX1_init_99 rfl (by decide) (by decide) rfl rfl ?_
  refine N_goto (G0 _ _ (by decide) (by decide)) eX1_init_102 ?_
  refine N_iload_n (i := 2) (G0 _ _ (by decide) (by decide)) eX1_init_74 rfl rfl ?_
  refine N_bipush (n := 8) (v := (nI 8)) (G0 _ _ (by decide) (by decide)) eX1_init_75 rfl ?_
  refine N_geT (G0 _ _ (by decide) (by decide)) eX1_init_77 (by decide) ?_
  refine N_iincC (i := 1) (v := (nI 7)) (L' := [some (.ref o), some (.int (nI 7)), some (.int (nI 8))]) (G0 _ _ (by decide) (by decide)) eX1_init_105 rfl (by decide) (by decide) rfl rfl ?_
  refine N_goto (G0 _ _ (by decide) (by decide)) eX1_init_108 ?_
  refine N_iload_n (i := 1) (G0 _ _ (by decide) (by decide)) eX1_init_66 rfl rfl ?_
  refine N_bipush (n := 8) (v := (nI 8)) (G0 _ _ (by decide) (by decide)) eX1_init_67 rfl ?_
  refine N_geF (G0 _ _ (by decide) (by decide)) eX1_init_69 (by decide) ?_
  refine N_iconst (n := 0) (v := (nI 0)) (G0 _ _ (by decide) (by decide)) eX1_init_72 rfl ?_
  refine N_istoreA_n (i := 2) (L' := [some (.ref o), some (.int (nI 7)), some (.int (nI 0))]) (G0 _ _ (by decide) (by decide)) rfl eX1_init_73 (by decide) rfl rfl ?_
  refine N_iload_n (i := 2) (G0 _ _ (by decide) (by decide)) eX1_init_74 rfl rfl ?_
  refine N_bipush (n := 8) (v := (nI 8)) (G0 _ _ (by decide) (by decide)) eX1_init_75 rfl ?_
  refine N_geF (G0 _ _ (by decide) (by decide)) eX1_init_77 (by decide) ?_
  refine N_aload_n (i := 0) (G0 _ _ (by decide) (by decide)) eX1_init_80 rfl rfl ?_
  refine C_get (v := .ref (s.heap.size + 2)) (G0 _ _ (by decide) (by decide)) K ggX1_20 (by rfl) eX1_init_81 ?_
  refine N_iload_n (i := 1) (G0 _ _ (by decide) (by decide)) eX1_init_84 rfl rfl ?_
  refine C_aald (w := w) (q := 2) (n := 8) (h := s.heap.size + 2) (a := s.heap.size + 10) (G0 _ _ (by decide) (by decide)) K rfl (by exact vp_in_nI (by decide) (by decide)) (by show s.heap.size + 2 + 1 + (nI 7).toNatClampNeg = _; rw [nI_clamp (by decide)]) eX1_init_85 ?_
  refine N_iload_n (i := 2) (G0 _ _ (by decide) (by decide)) eX1_init_86 rfl rfl ?_
  refine N_iload_n (i := 1) (G0 _ _ (by decide) (by decide)) eX1_init_87 rfl rfl ?_
  refine N_iload_n (i := 2) (G0 _ _ (by decide) (by decide)) eX1_init_88 rfl rfl ?_
  refine N_neT (G0 _ _ (by decide) (by decide)) eX1_init_89 (by decide) ?_
  refine N_bipush (n := 10) (v := (nI 10)) (G0 _ _ (by decide) (by decide)) eX1_init_96 rfl ?_
  refine C_iast (q := 10) (n := 8) (G0 _ _ (by decide) (by decide)) K (cOk_this ho) (by rfl) (by exact vp_in_nI (by decide) (by decide)) eX1_init_98 ?_
  refine N_iincC (i := 2) (v := (nI 1)) (L' := [some (.ref o), some (.int (nI 7)), some (.int (nI 1))]) (G0 _ _ (by decide) (by decide)) eX1_init_99 rfl (by decide) (by decide) rfl rfl ?_
  refine N_goto (G0 _ _ (by decide) (by decide)) eX1_init_102 ?_
  refine N_iload_n (i := 2) (G0 _ _ (by decide) (by decide)) eX1_init_74 rfl rfl ?_
  refine N_bipush (n := 8) (v := (nI 8)) (G0 _ _ (by decide) (by decide)) eX1_init_75 rfl ?_
  refine N_geF (G0 _ _ (by decide) (by decide)) eX1_init_77 (by decide) ?_
  refine N_aload_n (i := 0) (G0 _ _ (by decide) (by decide)) eX1_init_80 rfl rfl ?_
  refine C_get (v := .ref (s.heap.size + 2)) (G0 _ _ (by decide) (by decide)) K ggX1_20 (by rfl) eX1_init_81 ?_
  refine N_iload_n (i := 1) (G0 _ _ (by decide) (by decide)) eX1_init_84 rfl rfl ?_
  refine C_aald (w := w) (q := 2) (n := 8) (h := s.heap.size + 2) (a := s.heap.size + 10) (G0 _ _ (by decide) (by decide)) K rfl (by exact vp_in_nI (by decide) (by decide)) (by show s.heap.size + 2 + 1 + (nI 7).toNatClampNeg = _; rw [nI_clamp (by decide)]) eX1_init_85 ?_
  refine N_iload_n (i := 2) (G0 _ _ (by decide) (by decide)) eX1_init_86 rfl rfl ?_
  refine N_iload_n (i := 1) (G0 _ _ (by decide) (by decide)) eX1_init_87 rfl rfl ?_
  refine N_iload_n (i := 2) (G0 _ _ (by decide) (by decide)) eX1_init_88 rfl rfl ?_
  refine N_neT (G0 _ _ (by decide) (by decide)) eX1_init_89 (by decide) ?_
  refine N_bipush (n := 10) (v := (nI 10)) (G0 _ _ (by decide) (by decide)) eX1_init_96 rfl ?_
  refine C_iast (q := 10) (n := 8) (G0 _ _ (by decide) (by decide)) K (cOk_this ho) (by rfl) (by exact vp_in_nI (by decide) (by decide)) eX1_init_98 ?_
  refine N_iincC (i := 2) (v := (nI 2)) (L' := [some (.ref o), some (.int (nI 7)), some (.int (nI 2))]) (G0 _ _ (by decide) (by decide)) eX1_init_99 rfl (by decide) (by decide) rfl rfl ?_
  refine N_goto (G0 _ _ (by decide) (by decide)) eX1_init_102 ?_
  refine N_iload_n (i := 2) (G0 _ _ (by decide) (by decide)) eX1_init_74 rfl rfl ?_
  refine N_bipush (n := 8) (v := (nI 8)) (G0 _ _ (by decide) (by decide)) eX1_init_75 rfl ?_
  refine N_geF (G0 _ _ (by decide) (by decide)) eX1_init_77 (by decide) ?_
  refine N_aload_n (i := 0) (G0 _ _ (by decide) (by decide)) eX1_init_80 rfl rfl ?_
  refine C_get (v := .ref (s.heap.size + 2)) (G0 _ _ (by decide) (by decide)) K ggX1_20 (by rfl) eX1_init_81 ?_
  refine N_iload_n (i := 1) (G0 _ _ (by decide) (by decide)) eX1_init_84 rfl rfl ?_
  refine C_aald (w := w) (q := 2) (n := 8) (h := s.heap.size + 2) (a := s.heap.size + 10) (G0 _ _ (by decide) (by decide)) K rfl (by exact vp_in_nI (by decide) (by decide)) (by show s.heap.size + 2 + 1 + (nI 7).toNatClampNeg = _; rw [nI_clamp (by decide)]) eX1_init_85 ?_
  refine N_iload_n (i := 2) (G0 _ _ (by decide) (by decide)) eX1_init_86 rfl rfl ?_
  refine N_iload_n (i := 1) (G0 _ _ (by decide) (by decide)) eX1_init_87 rfl rfl ?_
  refine N_iload_n (i := 2) (G0 _ _ (by decide) (by decide)) eX1_init_88 rfl rfl ?_
  refine N_neT (G0 _ _ (by decide) (by decide)) eX1_init_89 (by decide) ?_
  refine N_bipush (n := 10) (v := (nI 10)) (G0 _ _ (by decide) (by decide)) eX1_init_96 rfl ?_
  refine C_iast (q := 10) (n := 8) (G0 _ _ (by decide) (by decide)) K (cOk_this ho) (by rfl) (by exact vp_in_nI (by decide) (by decide)) eX1_init_98 ?_
  refine N_iincC (i := 2) (v := (nI 3)) (L' := [some (.ref o), some (.int (nI 7)), some (.int (nI 3))]) (G0 _ _ (by decide) (by decide)) eX1_init_99 rfl (by decide) (by decide) rfl rfl ?_
  refine N_goto (G0 _ _ (by decide) (by decide)) eX1_init_102 ?_
  refine N_iload_n (i := 2) (G0 _ _ (by decide) (by decide)) eX1_init_74 rfl rfl ?_
  refine N_bipush (n := 8) (v := (nI 8)) (G0 _ _ (by decide) (by decide)) eX1_init_75 rfl ?_
  refine N_geF (G0 _ _ (by decide) (by decide)) eX1_init_77 (by decide) ?_
  refine N_aload_n (i := 0) (G0 _ _ (by decide) (by decide)) eX1_init_80 rfl rfl ?_
  refine C_get (v := .ref (s.heap.size + 2)) (G0 _ _ (by decide) (by decide)) K ggX1_20 (by rfl) eX1_init_81 ?_
  refine N_iload_n (i := 1) (G0 _ _ (by decide) (by decide)) eX1_init_84 rfl rfl ?_
  refine C_aald (w := w) (q := 2) (n := 8) (h := s.heap.size + 2) (a := s.heap.size + 10) (G0 _ _ (by decide) (by decide)) K rfl (by exact vp_in_nI (by decide) (by decide)) (by show s.heap.size + 2 + 1 + (nI 7).toNatClampNeg = _; rw [nI_clamp (by decide)]) eX1_init_85 ?_
  refine N_iload_n (i := 2) (G0 _ _ (by decide) (by decide)) eX1_init_86 rfl rfl ?_
  refine N_iload_n (i := 1) (G0 _ _ (by decide) (by decide)) eX1_init_87 rfl rfl ?_
  refine N_iload_n (i := 2) (G0 _ _ (by decide) (by decide)) eX1_init_88 rfl rfl ?_
  refine N_neT (G0 _ _ (by decide) (by decide)) eX1_init_89 (by decide) ?_
  refine N_bipush (n := 10) (v := (nI 10)) (G0 _ _ (by decide) (by decide)) eX1_init_96 rfl ?_
  refine C_iast (q := 10) (n := 8) (G0 _ _ (by decide) (by decide)) K (cOk_this ho) (by rfl) (by exact vp_in_nI (by decide) (by decide)) eX1_init_98 ?_
  refine N_iincC (i := 2) (v := (nI 4)) (L' := [some (.ref o), some (.int (nI 7)), some (.int (nI 4))]) (G0 _ _ (by decide) (by decide)) eX1_init_99 rfl (by decide) (by decide) rfl rfl ?_
  refine N_goto (G0 _ _ (by decide) (by decide)) eX1_init_102 ?_
  refine N_iload_n (i := 2) (G0 _ _ (by decide) (by decide)) eX1_init_74 rfl rfl ?_
  refine N_bipush (n := 8) (v := (nI 8)) (G0 _ _ (by decide) (by decide)) eX1_init_75 rfl ?_
  refine N_geF (G0 _ _ (by decide) (by decide)) eX1_init_77 (by decide) ?_
  refine N_aload_n (i := 0) (G0 _ _ (by decide) (by decide)) eX1_init_80 rfl rfl ?_
  refine C_get (v := .ref (s.heap.size + 2)) (G0 _ _ (by decide) (by decide)) K ggX1_20 (by rfl) eX1_init_81 ?_
  refine N_iload_n (i := 1) (G0 _ _ (by decide) (by decide)) eX1_init_84 rfl rfl ?_
  refine C_aald (w := w) (q := 2) (n := 8) (h := s.heap.size + 2) (a := s.heap.size + 10) (G0 _ _ (by decide) (by decide)) K rfl (by exact vp_in_nI (by decide) (by decide)) (by show s.heap.size + 2 + 1 + (nI 7).toNatClampNeg = _; rw [nI_clamp (by decide)]) eX1_init_85 ?_
  refine N_iload_n (i := 2) (G0 _ _ (by decide) (by decide)) eX1_init_86 rfl rfl ?_
  refine N_iload_n (i := 1) (G0 _ _ (by decide) (by decide)) eX1_init_87 rfl rfl ?_
  refine N_iload_n (i := 2) (G0 _ _ (by decide) (by decide)) eX1_init_88 rfl rfl ?_
  refine N_neT (G0 _ _ (by decide) (by decide)) eX1_init_89 (by decide) ?_
  refine N_bipush (n := 10) (v := (nI 10)) (G0 _ _ (by decide) (by decide)) eX1_init_96 rfl ?_
  refine C_iast (q := 10) (n := 8) (G0 _ _ (by decide) (by decide)) K (cOk_this ho) (by rfl) (by exact vp_in_nI (by decide) (by decide)) eX1_init_98 ?_
  refine N_iincC (i := 2) (v := (nI 5)) (L' := [some (.ref o), some (.int (nI 7)), some (.int (nI 5))]) (G0 _ _ (by decide) (by decide)) eX1_init_99 rfl (by decide) (by decide) rfl rfl ?_
  refine N_goto (G0 _ _ (by decide) (by decide)) eX1_init_102 ?_
  refine N_iload_n (i := 2) (G0 _ _ (by decide) (by decide)) eX1_init_74 rfl rfl ?_
  refine N_bipush (n := 8) (v := (nI 8)) (G0 _ _ (by decide) (by decide)) eX1_init_75 rfl ?_
  refine N_geF (G0 _ _ (by decide) (by decide)) eX1_init_77 (by decide) ?_
  refine N_aload_n (i := 0) (G0 _ _ (by decide) (by decide)) eX1_init_80 rfl rfl ?_
  refine C_get (v := .ref (s.heap.size + 2)) (G0 _ _ (by decide) (by decide)) K ggX1_20 (by rfl) eX1_init_81 ?_
  refine N_iload_n (i := 1) (G0 _ _ (by decide) (by decide)) eX1_init_84 rfl rfl ?_
  refine C_aald (w := w) (q := 2) (n := 8) (h := s.heap.size + 2) (a := s.heap.size + 10) (G0 _ _ (by decide) (by decide)) K rfl (by exact vp_in_nI (by decide) (by decide)) (by show s.heap.size + 2 + 1 + (nI 7).toNatClampNeg = _; rw [nI_clamp (by decide)]) eX1_init_85 ?_
  refine N_iload_n (i := 2) (G0 _ _ (by decide) (by decide)) eX1_init_86 rfl rfl ?_
  refine N_iload_n (i := 1) (G0 _ _ (by decide) (by decide)) eX1_init_87 rfl rfl ?_
  refine N_iload_n (i := 2) (G0 _ _ (by decide) (by decide)) eX1_init_88 rfl rfl ?_
  refine N_neT (G0 _ _ (by decide) (by decide)) eX1_init_89 (by decide) ?_
  refine N_bipush (n := 10) (v := (nI 10)) (G0 _ _ (by decide) (by decide)) eX1_init_96 rfl ?_
  refine C_iast (q := 10) (n := 8) (G0 _ _ (by decide) (by decide)) K (cOk_this ho) (by rfl) (by exact vp_in_nI (by decide) (by decide)) eX1_init_98 ?_
  refine N_iincC (i := 2) (v := (nI 6)) (L' := [some (.ref o), some (.int (nI 7)), some (.int (nI 6))]) (G0 _ _ (by decide) (by decide)) eX1_init_99 rfl (by decide) (by decide) rfl rfl ?_
  refine N_goto (G0 _ _ (by decide) (by decide)) eX1_init_102 ?_
  refine N_iload_n (i := 2) (G0 _ _ (by decide) (by decide)) eX1_init_74 rfl rfl ?_
  refine N_bipush (n := 8) (v := (nI 8)) (G0 _ _ (by decide) (by decide)) eX1_init_75 rfl ?_
  refine N_geF (G0 _ _ (by decide) (by decide)) eX1_init_77 (by decide) ?_
  refine N_aload_n (i := 0) (G0 _ _ (by decide) (by decide)) eX1_init_80 rfl rfl ?_
  refine C_get (v := .ref (s.heap.size + 2)) (G0 _ _ (by decide) (by decide)) K ggX1_20 (by rfl) eX1_init_81 ?_
  refine N_iload_n (i := 1) (G0 _ _ (by decide) (by decide)) eX1_init_84 rfl rfl ?_
  refine C_aald (w := w) (q := 2) (n := 8) (h := s.heap.size + 2) (a := s.heap.size + 10) (G0 _ _ (by decide) (by decide)) K rfl (by exact vp_in_nI (by decide) (by decide)) (by show s.heap.size + 2 + 1 + (nI 7).toNatClampNeg = _; rw [nI_clamp (by decide)]) eX1_init_85 ?_
  refine N_iload_n (i := 2) (G0 _ _ (by decide) (by decide)) eX1_init_86 rfl rfl ?_
  refine N_iload_n (i := 1) (G0 _ _ (by decide) (by decide)) eX1_init_87 rfl rfl ?_
  refine N_iload_n (i := 2) (G0 _ _ (by decide) (by decide)) eX1_init_88 rfl rfl ?_
  refine N_neT (G0 _ _ (by decide) (by decide)) eX1_init_89 (by decide) ?_
  refine N_bipush (n := 10) (v := (nI 10)) (G0 _ _ (by decide) (by decide)) eX1_init_96 rfl ?_
  refine C_iast (q := 10) (n := 8) (G0 _ _ (by decide) (by decide)) K (cOk_this ho) (by rfl) (by exact vp_in_nI (by decide) (by decide)) eX1_init_98 ?_
  refine N_iincC (i := 2) (v := (nI 7)) (L' := [some (.ref o), some (.int (nI 7)), some (.int (nI 7))]) (G0 _ _ (by decide) (by decide)) eX1_init_99 rfl (by decide) (by decide) rfl rfl ?_
  refine N_goto (G0 _ _ (by decide) (by decide)) eX1_init_102 ?_
  refine N_iload_n (i := 2) (G0 _ _ (by decide) (by decide)) eX1_init_74 rfl rfl ?_
  refine N_bipush (n := 8) (v := (nI 8)) (G0 _ _ (by decide) (by decide)) eX1_init_75 rfl ?_
  refine N_geF (G0 _ _ (by decide) (by decide)) eX1_init_77 (by decide) ?_
  refine N_aload_n (i := 0) (G0 _ _ (by decide) (by decide)) eX1_init_80 rfl rfl ?_
  refine C_get (v := .ref (s.heap.size + 2)) (G0 _ _ (by decide) (by decide)) K ggX1_20 (by rfl) eX1_init_81 ?_
  refine N_iload_n (i := 1) (G0 _ _ (by decide) (by decide)) eX1_init_84 rfl rfl ?_
  refine C_aald (w := w) (q := 2) (n := 8) (h := s.heap.size + 2) (a := s.heap.size + 10) (G0 _ _ (by decide) (by decide)) K rfl (by exact vp_in_nI (by decide) (by decide)) (by show s.heap.size + 2 + 1 + (nI 7).toNatClampNeg = _; rw [nI_clamp (by decide)]) eX1_init_85 ?_
  refine N_iload_n (i := 2) (G0 _ _ (by decide) (by decide)) eX1_init_86 rfl rfl ?_
  refine N_iload_n (i := 1) (G0 _ _ (by decide) (by decide)) eX1_init_87 rfl rfl ?_
  refine N_iload_n (i := 2) (G0 _ _ (by decide) (by decide)) eX1_init_88 rfl rfl ?_
  refine N_neF (G0 _ _ (by decide) (by decide)) eX1_init_89 (by decide) ?_
  refine N_iconst (n := 0) (v := (nI 0)) (G0 _ _ (by decide) (by decide)) eX1_init_92 rfl ?_
  refine N_goto (G0 _ _ (by decide) (by decide)) eX1_init_93 ?_
  refine C_iast (q := 10) (n := 8) (G0 _ _ (by decide) (by decide)) K (cOk_this ho) (by rfl) (by exact vp_in_nI (by decide) (by decide)) eX1_init_98 ?_
  refine N_iincC (i := 2) (v := (nI 8)) (L' := [some (.ref o), some (.int (nI 7)), some (.int (nI 8))]) (G0 _ _ (by decide) (by decide)) eX1_init_99 rfl (by decide) (by decide) rfl rfl ?_
  refine N_goto (G0 _ _ (by decide) (by decide)) eX1_init_102 ?_
  refine N_iload_n (i := 2) (G0 _ _ (by decide) (by decide)) eX1_init_74 rfl rfl ?_
  refine N_bipush (n := 8) (v := (nI 8)) (G0 _ _ (by decide) (by decide)) eX1_init_75 rfl ?_
  refine N_geT (G0 _ _ (by decide) (by decide)) eX1_init_77 (by decide) ?_
  refine N_iincC (i := 1) (v := (nI 8)) (L' := [some (.ref o), some (.int (nI 8)), some (.int (nI 8))]) (G0 _ _ (by decide) (by decide)) eX1_init_105 rfl (by decide) (by decide) rfl rfl ?_
  refine N_goto (G0 _ _ (by decide) (by decide)) eX1_init_108 ?_
  refine N_iload_n (i := 1) (G0 _ _ (by decide) (by decide)) eX1_init_66 rfl rfl ?_
  refine N_bipush (n := 8) (v := (nI 8)) (G0 _ _ (by decide) (by decide)) eX1_init_67 rfl ?_
  refine N_geT (G0 _ _ (by decide) (by decide)) eX1_init_69 (by decide) ?_
  exact C_ret (G0 _ _ (by decide) (by decide)) hr hlk rfl eX1_init_111
def X0_fs (h : Nat) (a1 : Nat) (a2 : Nat) (a3 : Nat) : List Value := [.ref a1, .ref a2, .ref a3, .ref (h + 0), .ref (h + 1), .ref (h + 2), .int 0]
def X0_ds (w : Wld) (h : Nat) : List va_E := [.inl (w.2.1 0, (10, .inl (fun _ => 0))), .inl (w.2.1 1, (10, .inl (fun _ => 0))), eOut w 3 10 (h + 2), .inl (w.2.1 0, (12, .inl (fun _ => 0))), .inl (w.2.1 0, (12, .inl (fun _ => 0))), .inl (w.2.1 0, (12, .inl (fun _ => 0))), .inl (w.2.1 0, (12, .inl (fun _ => 0))), .inl (w.2.1 0, (12, .inl (fun _ => 0))), .inl (w.2.1 0, (12, .inl (fun _ => 0))), .inl (w.2.1 0, (12, .inl (fun _ => 0))), .inl (w.2.1 0, (12, .inl (fun _ => 0))), .inl (w.2.1 0, (12, .inl (fun _ => 0))), .inl (w.2.1 0, (12, .inl (fun _ => 0)))]
set_option maxRecDepth 100000 in
set_option maxHeartbeats 4000000 in
theorem X0_c {l : Launch} {w : Wld} {o sz a1 a2 a3 : Nat} : CtC l w yX0_init cX0_init 4 1 [.ref o, .ref a1, .ref a2, .ref a3] o 0 sz [.null, .null, .null, .null, .null, .null, .int 0] (X0_fs sz a1 a2 a3) (X0_ds w) 13 150 := by
  refine CtC_of (own := "PotBook$Account") [some (.ref o), some (.ref a1), some (.ref a2), some (.ref a3)] (by decide +kernel) rfl rfl rfl (Nat.le_of_ble_eq_true rfl) ?_
  intro p e s m args below meth c hx hb hml hown hts K hsz ho hin hr hlk
  subst hsz
  have G0 : ∀ kc ns : Nat, kc ≤ 13 → ns ≤ 150 → Cxg p (rmC 1 13 150) s m args meth c cX0_init 4 "PotBook$Account" kc ns := fun kc ns h1 h2 => ⟨hx, hb, hml, hown, hts, h1, h2⟩
  refine N_aload_n (i := 0) (G0 _ _ (by decide) (by decide)) eX0_init_0 rfl rfl ?_
  refine C_objInit (G0 _ _ (by decide) (by decide)) oiX0_3 (by decide) (Nat.le_of_ble_eq_true rfl) (by decide) eX0_init_1 ?_
  refine N_aload_n (i := 0) (G0 _ _ (by decide) (by decide)) eX0_init_4 rfl rfl ?_
  refine N_bipush (n := 10) (v := (nI 10)) (G0 _ _ (by decide) (by decide)) eX0_init_5 rfl ?_
  refine C_newarr (ty := .int) (i := 0) (atype := .int) (N := 10) (z := (10, .inl (fun _ => 0))) (G0 _ _ (by decide) (by decide)) K rfl rfl (fun _ h => h) aw_I (by decide) (by decide) (by decide) (fun _ => rfl) (by decide) (by decide) eX0_init_7 ?_
  refine C_putF (G0 _ _ (by decide) (by decide)) K hin ho ffX0_9 rfl rfl (by exact Nat.le_of_ble_eq_true rfl) eX0_init_9 ?_
  refine N_aload_n (i := 0) (G0 _ _ (by decide) (by decide)) eX0_init_12 rfl rfl ?_
  refine N_bipush (n := 10) (v := (nI 10)) (G0 _ _ (by decide) (by decide)) eX0_init_13 rfl ?_
  refine C_newarr (ty := .boolean) (i := 1) (atype := .boolean) (N := 10) (z := (10, .inl (fun _ => 0))) (G0 _ _ (by decide) (by decide)) K rfl rfl (fun _ h => h) aw_Z (by decide) (by decide) (by decide) (fun _ => rfl) (by decide) (by decide) eX0_init_15 ?_
  refine C_putF (G0 _ _ (by decide) (by decide)) K hin ho ffX0_15 rfl rfl (by exact Nat.le_of_ble_eq_true rfl) eX0_init_17 ?_
  refine N_aload_n (i := 0) (G0 _ _ (by decide) (by decide)) eX0_init_20 rfl rfl ?_
  refine N_bipush (n := 10) (v := (nI 10)) (G0 _ _ (by decide) (by decide)) eX0_init_21 rfl ?_
  refine N_bipush (n := 12) (v := (nI 12)) (G0 _ _ (by decide) (by decide)) eX0_init_23 rfl ?_
  refine C_mna (ty := .int) (i := 0) (i' := 3) (N := 10) (M := 12) (z := (12, .inl (fun _ => 0))) (G0 _ _ (by decide) (by decide)) K rfl rfl clX0_19 K.2.2.1 aw_I (fun _ h => h) (fun _ h => h) (by decide) (by decide) (by decide) (by decide) (by decide) (by decide) (by decide) rfl rfl (fun _ => inner_i) (by decide) (by decide) eX0_init_25 ?_
  refine C_putF (G0 _ _ (by decide) (by decide)) K hin ho ffX0_21 rfl rfl (by exact Nat.le_of_ble_eq_true rfl) eX0_init_29 ?_
  refine N_aload_n (i := 0) (G0 _ _ (by decide) (by decide)) eX0_init_32 rfl rfl ?_
  refine N_aload_n (i := 1) (G0 _ _ (by decide) (by decide)) eX0_init_33 rfl rfl ?_
  refine C_putF (G0 _ _ (by decide) (by decide)) K hin ho ffX0_24 rfl rfl (by exact Nat.le_of_ble_eq_true rfl) eX0_init_34 ?_
  refine N_aload_n (i := 0) (G0 _ _ (by decide) (by decide)) eX0_init_37 rfl rfl ?_
  refine N_aload_n (i := 2) (G0 _ _ (by decide) (by decide)) eX0_init_38 rfl rfl ?_
  refine C_putF (G0 _ _ (by decide) (by decide)) K hin ho ffX0_28 rfl rfl (by exact Nat.le_of_ble_eq_true rfl) eX0_init_39 ?_
  refine N_aload_n (i := 0) (G0 _ _ (by decide) (by decide)) eX0_init_42 rfl rfl ?_
  refine N_aload_n (i := 3) (G0 _ _ (by decide) (by decide)) eX0_init_43 rfl rfl ?_
  refine C_putF (G0 _ _ (by decide) (by decide)) K hin ho ffX0_32 rfl rfl (by exact Nat.le_of_ble_eq_true rfl) eX0_init_44 ?_
  exact C_ret (G0 _ _ (by decide) (by decide)) hr hlk rfl eX0_init_47
def X5_fs (h : Nat) (a1 : Nat) (a2 : Nat) (a3 : Nat) : List Value := [.ref a1, .ref a2, .ref a3, .ref (h + 0), .ref (h + 1), .ref (h + 2), .ref (h + 8), .ref (h + 15), .ref (h + 16), .ref (h + 17), .ref (h + 18), .int 0, .int 0, .int 0, .int 0, .int 0]
def X5_ds (w : Wld) (h : Nat) : List va_E := [.inl (w.2.1 0, (5, .inl (fun _ => 0))), .inl (w.2.1 0, (5, .inl (fun _ => 0))), eOut w 3 5 (h + 2), .inl (w.2.1 0, (12, .inl (fun _ => 0))), .inl (w.2.1 0, (12, .inl (fun _ => 0))), .inl (w.2.1 0, (12, .inl (fun _ => 0))), .inl (w.2.1 0, (12, .inl (fun _ => 0))), .inl (w.2.1 0, (12, .inl (fun _ => 0))), eOut w 3 6 (h + 8), .inl (w.2.1 0, (12, .inl (fun _ => 0))), .inl (w.2.1 0, (12, .inl (fun _ => 0))), .inl (w.2.1 0, (12, .inl (fun _ => 0))), .inl (w.2.1 0, (12, .inl (fun _ => 0))), .inl (w.2.1 0, (12, .inl (fun _ => 0))), .inl (w.2.1 0, (12, .inl (fun _ => 0))), .inl (w.2.1 0, (12, .inl (fun _ => 0))), .inl (w.2.1 0, (5, .inl (fun _ => 0))), .inl (w.2.1 0, (5, .inl (fun _ => 0))), .inl (w.2.1 0, (8, .inl (fun _ => 0)))]
set_option maxRecDepth 100000 in
set_option maxHeartbeats 4000000 in
theorem X5_c {l : Launch} {w : Wld} {o sz a1 a2 a3 : Nat} : CtC l w yX5_init cX5_init 4 1 [.ref o, .ref a1, .ref a2, .ref a3] o 5 sz [.null, .null, .null, .null, .null, .null, .null, .null, .null, .null, .null, .int 0, .int 0, .int 0, .int 0, .int 0] (X5_fs sz a1 a2 a3) (X5_ds w) 19 183 := by
  refine CtC_of (own := "PotBook$Menus") [some (.ref o), some (.ref a1), some (.ref a2), some (.ref a3)] (by decide +kernel) rfl rfl rfl (Nat.le_of_ble_eq_true rfl) ?_
  intro p e s m args below meth c hx hb hml hown hts K hsz ho hin hr hlk
  subst hsz
  have G0 : ∀ kc ns : Nat, kc ≤ 19 → ns ≤ 183 → Cxg p (rmC 1 19 183) s m args meth c cX5_init 4 "PotBook$Menus" kc ns := fun kc ns h1 h2 => ⟨hx, hb, hml, hown, hts, h1, h2⟩
  refine N_aload_n (i := 0) (G0 _ _ (by decide) (by decide)) eX5_init_0 rfl rfl ?_
  refine C_objInit (G0 _ _ (by decide) (by decide)) oiX5_3 (by decide) (Nat.le_of_ble_eq_true rfl) (by decide) eX5_init_1 ?_
  refine N_aload_n (i := 0) (G0 _ _ (by decide) (by decide)) eX5_init_4 rfl rfl ?_
  refine N_iconst (n := 5) (v := (nI 5)) (G0 _ _ (by decide) (by decide)) eX5_init_5 rfl ?_
  refine C_newarr (ty := .int) (i := 0) (atype := .int) (N := 5) (z := (5, .inl (fun _ => 0))) (G0 _ _ (by decide) (by decide)) K rfl rfl (fun _ h => h) aw_I (by decide) (by decide) (by decide) (fun _ => rfl) (by decide) (by decide) eX5_init_6 ?_
  refine C_putF (G0 _ _ (by decide) (by decide)) K hin ho ffX5_9 rfl rfl (by exact Nat.le_of_ble_eq_true rfl) eX5_init_8 ?_
  refine N_aload_n (i := 0) (G0 _ _ (by decide) (by decide)) eX5_init_11 rfl rfl ?_
  refine N_iconst (n := 5) (v := (nI 5)) (G0 _ _ (by decide) (by decide)) eX5_init_12 rfl ?_
  refine C_newarr (ty := .int) (i := 0) (atype := .int) (N := 5) (z := (5, .inl (fun _ => 0))) (G0 _ _ (by decide) (by decide)) K rfl rfl (fun _ h => h) aw_I (by decide) (by decide) (by decide) (fun _ => rfl) (by decide) (by decide) eX5_init_13 ?_
  refine C_putF (G0 _ _ (by decide) (by decide)) K hin ho ffX5_15 rfl rfl (by exact Nat.le_of_ble_eq_true rfl) eX5_init_15 ?_
  refine N_aload_n (i := 0) (G0 _ _ (by decide) (by decide)) eX5_init_18 rfl rfl ?_
  refine N_iconst (n := 5) (v := (nI 5)) (G0 _ _ (by decide) (by decide)) eX5_init_19 rfl ?_
  refine N_bipush (n := 12) (v := (nI 12)) (G0 _ _ (by decide) (by decide)) eX5_init_20 rfl ?_
  refine C_mna (ty := .int) (i := 0) (i' := 3) (N := 5) (M := 12) (z := (12, .inl (fun _ => 0))) (G0 _ _ (by decide) (by decide)) K rfl rfl clX5_18 K.2.2.1 aw_I (fun _ h => h) (fun _ h => h) (by decide) (by decide) (by decide) (by decide) (by decide) (by decide) (by decide) rfl rfl (fun _ => inner_i) (by decide) (by decide) eX5_init_22 ?_
  refine C_putF (G0 _ _ (by decide) (by decide)) K hin ho ffX5_20 rfl rfl (by exact Nat.le_of_ble_eq_true rfl) eX5_init_26 ?_
  refine N_aload_n (i := 0) (G0 _ _ (by decide) (by decide)) eX5_init_29 rfl rfl ?_
  refine N_bipush (n := 6) (v := (nI 6)) (G0 _ _ (by decide) (by decide)) eX5_init_30 rfl ?_
  refine N_bipush (n := 12) (v := (nI 12)) (G0 _ _ (by decide) (by decide)) eX5_init_32 rfl ?_
  refine C_mna (ty := .int) (i := 0) (i' := 3) (N := 6) (M := 12) (z := (12, .inl (fun _ => 0))) (G0 _ _ (by decide) (by decide)) K rfl rfl clX5_18 K.2.2.1 aw_I (fun _ h => h) (fun _ h => h) (by decide) (by decide) (by decide) (by decide) (by decide) (by decide) (by decide) rfl rfl (fun _ => inner_i) (by decide) (by decide) eX5_init_34 ?_
  refine C_putF (G0 _ _ (by decide) (by decide)) K hin ho ffX5_23 rfl rfl (by exact Nat.le_of_ble_eq_true rfl) eX5_init_38 ?_
  refine N_aload_n (i := 0) (G0 _ _ (by decide) (by decide)) eX5_init_41 rfl rfl ?_
  refine N_bipush (n := 12) (v := (nI 12)) (G0 _ _ (by decide) (by decide)) eX5_init_42 rfl ?_
  refine C_newarr (ty := .int) (i := 0) (atype := .int) (N := 12) (z := (12, .inl (fun _ => 0))) (G0 _ _ (by decide) (by decide)) K rfl rfl (fun _ h => h) aw_I (by decide) (by decide) (by decide) (fun _ => rfl) (by decide) (by decide) eX5_init_44 ?_
  refine C_putF (G0 _ _ (by decide) (by decide)) K hin ho ffX5_26 rfl rfl (by exact Nat.le_of_ble_eq_true rfl) eX5_init_46 ?_
  refine N_aload_n (i := 0) (G0 _ _ (by decide) (by decide)) eX5_init_49 rfl rfl ?_
  refine N_iconst (n := 5) (v := (nI 5)) (G0 _ _ (by decide) (by decide)) eX5_init_50 rfl ?_
  refine C_newarr (ty := .int) (i := 0) (atype := .int) (N := 5) (z := (5, .inl (fun _ => 0))) (G0 _ _ (by decide) (by decide)) K rfl rfl (fun _ h => h) aw_I (by decide) (by decide) (by decide) (fun _ => rfl) (by decide) (by decide) eX5_init_51 ?_
  refine C_putF (G0 _ _ (by decide) (by decide)) K hin ho ffX5_29 rfl rfl (by exact Nat.le_of_ble_eq_true rfl) eX5_init_53 ?_
  refine N_aload_n (i := 0) (G0 _ _ (by decide) (by decide)) eX5_init_56 rfl rfl ?_
  refine N_iconst (n := 5) (v := (nI 5)) (G0 _ _ (by decide) (by decide)) eX5_init_57 rfl ?_
  refine C_newarr (ty := .int) (i := 0) (atype := .int) (N := 5) (z := (5, .inl (fun _ => 0))) (G0 _ _ (by decide) (by decide)) K rfl rfl (fun _ h => h) aw_I (by decide) (by decide) (by decide) (fun _ => rfl) (by decide) (by decide) eX5_init_58 ?_
  refine C_putF (G0 _ _ (by decide) (by decide)) K hin ho ffX5_32 rfl rfl (by exact Nat.le_of_ble_eq_true rfl) eX5_init_60 ?_
  refine N_aload_n (i := 0) (G0 _ _ (by decide) (by decide)) eX5_init_63 rfl rfl ?_
  refine N_bipush (n := 8) (v := (nI 8)) (G0 _ _ (by decide) (by decide)) eX5_init_64 rfl ?_
  refine C_newarr (ty := .int) (i := 0) (atype := .int) (N := 8) (z := (8, .inl (fun _ => 0))) (G0 _ _ (by decide) (by decide)) K rfl rfl (fun _ h => h) aw_I (by decide) (by decide) (by decide) (fun _ => rfl) (by decide) (by decide) eX5_init_66 ?_
  refine C_putF (G0 _ _ (by decide) (by decide)) K hin ho ffX5_35 rfl rfl (by exact Nat.le_of_ble_eq_true rfl) eX5_init_68 ?_
  refine N_aload_n (i := 0) (G0 _ _ (by decide) (by decide)) eX5_init_71 rfl rfl ?_
  refine N_aload_n (i := 1) (G0 _ _ (by decide) (by decide)) eX5_init_72 rfl rfl ?_
  refine C_putF (G0 _ _ (by decide) (by decide)) K hin ho ffX5_38 rfl rfl (by exact Nat.le_of_ble_eq_true rfl) eX5_init_73 ?_
  refine N_aload_n (i := 0) (G0 _ _ (by decide) (by decide)) eX5_init_76 rfl rfl ?_
  refine N_aload_n (i := 2) (G0 _ _ (by decide) (by decide)) eX5_init_77 rfl rfl ?_
  refine C_putF (G0 _ _ (by decide) (by decide)) K hin ho ffX5_42 rfl rfl (by exact Nat.le_of_ble_eq_true rfl) eX5_init_78 ?_
  refine N_aload_n (i := 0) (G0 _ _ (by decide) (by decide)) eX5_init_81 rfl rfl ?_
  refine N_aload_n (i := 3) (G0 _ _ (by decide) (by decide)) eX5_init_82 rfl rfl ?_
  refine C_putF (G0 _ _ (by decide) (by decide)) K hin ho ffX5_46 rfl rfl (by exact Nat.le_of_ble_eq_true rfl) eX5_init_83 ?_
  exact C_ret (G0 _ _ (by decide) (by decide)) hr hlk rfl eX5_init_86
def X11_fs (h : Nat) : List Value := [.ref (h + 0), .ref (h + 2), .ref (h + 34), .ref (h + 130), .ref (h + 143), .ref (h + 144), .ref (h + 205), .ref (h + 210), .ref (h + 249), .ref (h + 290), .ref (h + 304)]
def X11_ds (w : Wld) (h : Nat) : List va_E := [.inr (9, X9_fs (h + 1))] ++ (X9_ds w (h + 1) ++ ([.inr (7, X7_fs (h + 3))] ++ (X7_ds w (h + 3) ++ ([.inr (6, X6_fs (h + 35) (h + 0) (h + 2))] ++ (X6_ds w (h + 35) ++ ([.inr (4, X4_fs (h + 131))] ++ (X4_ds w (h + 131) ++ ([.inr (3, X3_fs (h + 144) (h + 0) (h + 130)), .inr (8, X8_fs (h + 145) (h + 34) (h + 2) (h + 130))] ++ (X8_ds w (h + 145) ++ ([.inr (10, X10_fs (h + 206) (h + 34) (h + 2) (h + 130) (h + 144))] ++ (X10_ds w (h + 206) ++ ([.inr (2, X2_fs (h + 211) (h + 34))] ++ (X2_ds w (h + 211) ++ ([.inr (1, X1_fs (h + 250))] ++ (X1_ds w (h + 250) ++ ([.inr (0, X0_fs (h + 291) (h + 34) (h + 2) (h + 144))] ++ (X0_ds w (h + 291) ++ ([.inr (5, X5_fs (h + 305) (h + 34) (h + 144) (h + 290))] ++ (X5_ds w (h + 305))))))))))))))))))))
set_option maxRecDepth 100000 in
set_option maxHeartbeats 4000000 in
theorem X11_c {l : Launch} {w : Wld} {o sz : Nat} : CtC l w yX11_init cX11_init 1 2 [.ref o] o 11 sz [.null, .null, .null, .null, .null, .null, .null, .null, .null, .null, .null] (X11_fs sz) (X11_ds w) 324 10754 := by
  refine CtC_of (own := "PotBook") [some (.ref o)] (by decide +kernel) rfl rfl rfl (Nat.le_of_ble_eq_true rfl) ?_
  intro p e s m args below meth c hx hb hml hown hts K hsz ho hin hr hlk
  subst hsz
  have G0 : ∀ kc ns : Nat, kc ≤ 324 → ns ≤ 10754 → Cxg p (rmC 2 324 10754) s m args meth c cX11_init 1 "PotBook" kc ns := fun kc ns h1 h2 => ⟨hx, hb, hml, hown, hts, h1, h2⟩
  refine N_aload_n (i := 0) (G0 _ _ (by decide) (by decide)) eX11_init_0 rfl rfl ?_
  refine C_objInit (G0 _ _ (by decide) (by decide)) oiX11_1 (by decide) (Nat.le_of_ble_eq_true rfl) (by decide) eX11_init_1 ?_
  refine N_aload_n (i := 0) (G0 _ _ (by decide) (by decide)) eX11_init_4 rfl rfl ?_
  refine C_new (ty := tyX9) (fs' := [.null, .int 0, .int 0, .int 0]) (G0 _ _ (by decide) (by decide)) K cf_9.1 cf_9.2.1 tyX9_ok df_9 nwX11_7 (by decide) (by decide) eX11_init_5 ?_
  refine N_dup (G0 _ _ (by decide) (by decide)) eX11_init_8 rfl ?_
  refine C_ctor (As := []) (st := [.ref (s.heap.size + 0), .ref o]) (q := 0) (fs' := X9_fs (s.heap.size + 1)) (ds' := X9_ds w) (mc := 1) (ms := 120) (G0 _ _ (by decide) (by decide)) K (cOk_this ho) lcX11_9 (by rfl) X9_c (by decide) rfl rfl (Nat.le_of_ble_eq_true rfl) (by decide) eX11_init_9 ?_
  refine C_putF (G0 _ _ (by decide) (by decide)) K hin ho ffX11_10 rfl rfl (by exact Nat.le_of_ble_eq_true rfl) eX11_init_12 ?_
  refine N_aload_n (i := 0) (G0 _ _ (by decide) (by decide)) eX11_init_15 rfl rfl ?_
  refine C_new (ty := tyX7) (fs' := [.null, .null, .null, .null, .null, .null, .null, .int 0, .int 0]) (G0 _ _ (by decide) (by decide)) K cf_7.1 cf_7.2.1 tyX7_ok df_7 nwX11_16 (by decide) (by decide) eX11_init_16 ?_
  refine N_dup (G0 _ _ (by decide) (by decide)) eX11_init_19 rfl ?_
  refine C_ctor (As := []) (st := [.ref (s.heap.size + 2), .ref o]) (q := 2) (fs' := X7_fs (s.heap.size + 3)) (ds' := X7_ds w) (mc := 31) (ms := 228) (G0 _ _ (by decide) (by decide)) K (cOk_this ho) lcX11_18 (by rfl) X7_c (by decide) rfl rfl (Nat.le_of_ble_eq_true rfl) (by decide) eX11_init_20 ?_
  refine C_putF (G0 _ _ (by decide) (by decide)) K hin ho ffX11_19 rfl rfl (by exact Nat.le_of_ble_eq_true rfl) eX11_init_23 ?_
  refine N_aload_n (i := 0) (G0 _ _ (by decide) (by decide)) eX11_init_26 rfl rfl ?_
  refine C_new (ty := tyX6) (fs' := [.null, .null, .null, .null, .null, .null, .null, .null, .null, .null, .null, .null, .int 0]) (G0 _ _ (by decide) (by decide)) K cf_6.1 cf_6.2.1 tyX6_ok df_6 nwX11_23 (by decide) (by decide) eX11_init_27 ?_
  refine N_dup (G0 _ _ (by decide) (by decide)) eX11_init_30 rfl ?_
  refine N_aload_n (i := 0) (G0 _ _ (by decide) (by decide)) eX11_init_31 rfl rfl ?_
  refine C_get (v := .ref (s.heap.size + 0)) (G0 _ _ (by decide) (by decide)) K ggX11_10 (by rfl) eX11_init_32 ?_
  refine N_aload_n (i := 0) (G0 _ _ (by decide) (by decide)) eX11_init_35 rfl rfl ?_
  refine C_get (v := .ref (s.heap.size + 2)) (G0 _ _ (by decide) (by decide)) K ggX11_19 (by rfl) eX11_init_36 ?_
  refine C_ctor (As := [.ref (s.heap.size + 0), .ref (s.heap.size + 2)]) (st := [.ref (s.heap.size + 34), .ref o]) (q := 34) (fs' := X6_fs (s.heap.size + 35) (s.heap.size + 0) (s.heap.size + 2)) (ds' := X6_ds w) (mc := 95) (ms := 1870) (G0 _ _ (by decide) (by decide)) K (cOk_this ho) lcX11_25 (by rfl) X6_c (by decide) rfl rfl (Nat.le_of_ble_eq_true rfl) (by decide) eX11_init_39 ?_
  refine C_putF (G0 _ _ (by decide) (by decide)) K hin ho ffX11_28 rfl rfl (by exact Nat.le_of_ble_eq_true rfl) eX11_init_42 ?_
  refine N_aload_n (i := 0) (G0 _ _ (by decide) (by decide)) eX11_init_45 rfl rfl ?_
  refine C_new (ty := tyX4) (fs' := [.null, .null, .null, .int 0, .int 0, .null, .null, .int 0]) (G0 _ _ (by decide) (by decide)) K cf_4.1 cf_4.2.1 tyX4_ok df_4 nwX11_32 (by decide) (by decide) eX11_init_46 ?_
  refine N_dup (G0 _ _ (by decide) (by decide)) eX11_init_49 rfl ?_
  refine C_ctor (As := []) (st := [.ref (s.heap.size + 130), .ref o]) (q := 130) (fs' := X4_fs (s.heap.size + 131)) (ds' := X4_ds w) (mc := 12) (ms := 930) (G0 _ _ (by decide) (by decide)) K (cOk_this ho) lcX11_34 (by rfl) X4_c (by decide) rfl rfl (Nat.le_of_ble_eq_true rfl) (by decide) eX11_init_50 ?_
  refine C_putF (G0 _ _ (by decide) (by decide)) K hin ho ffX11_35 rfl rfl (by exact Nat.le_of_ble_eq_true rfl) eX11_init_53 ?_
  refine N_aload_n (i := 0) (G0 _ _ (by decide) (by decide)) eX11_init_56 rfl rfl ?_
  refine C_new (ty := tyX3) (fs' := [.null, .null]) (G0 _ _ (by decide) (by decide)) K cf_3.1 cf_3.2.1 tyX3_ok df_3 nwX11_39 (by decide) (by decide) eX11_init_57 ?_
  refine N_dup (G0 _ _ (by decide) (by decide)) eX11_init_60 rfl ?_
  refine N_aload_n (i := 0) (G0 _ _ (by decide) (by decide)) eX11_init_61 rfl rfl ?_
  refine C_get (v := .ref (s.heap.size + 0)) (G0 _ _ (by decide) (by decide)) K ggX11_10 (by rfl) eX11_init_62 ?_
  refine N_aload_n (i := 0) (G0 _ _ (by decide) (by decide)) eX11_init_65 rfl rfl ?_
  refine C_get (v := .ref (s.heap.size + 130)) (G0 _ _ (by decide) (by decide)) K ggX11_35 (by rfl) eX11_init_66 ?_
  refine C_ctor (As := [.ref (s.heap.size + 0), .ref (s.heap.size + 130)]) (st := [.ref (s.heap.size + 143), .ref o]) (q := 143) (fs' := X3_fs (s.heap.size + 144) (s.heap.size + 0) (s.heap.size + 130)) (ds' := X3_ds w) (mc := 0) (ms := 0) (G0 _ _ (by decide) (by decide)) K (cOk_this ho) lcX11_41 (by rfl) X3_c (by decide) rfl rfl (Nat.le_of_ble_eq_true rfl) (by decide) eX11_init_69 ?_
  refine C_putF (G0 _ _ (by decide) (by decide)) K hin ho ffX11_44 rfl rfl (by exact Nat.le_of_ble_eq_true rfl) eX11_init_72 ?_
  refine N_aload_n (i := 0) (G0 _ _ (by decide) (by decide)) eX11_init_75 rfl rfl ?_
  refine C_new (ty := tyX8) (fs' := [.null, .null, .null, .int 0, .int 0, .null, .null, .null, .int 0, .null, .null, .null, .int 0, .null, .null, .null, .null, .null, .null]) (G0 _ _ (by decide) (by decide)) K cf_8.1 cf_8.2.1 tyX8_ok df_8 nwX11_48 (by decide) (by decide) eX11_init_76 ?_
  refine N_dup (G0 _ _ (by decide) (by decide)) eX11_init_79 rfl ?_
  refine N_aload_n (i := 0) (G0 _ _ (by decide) (by decide)) eX11_init_80 rfl rfl ?_
  refine C_get (v := .ref (s.heap.size + 34)) (G0 _ _ (by decide) (by decide)) K ggX11_28 (by rfl) eX11_init_81 ?_
  refine N_aload_n (i := 0) (G0 _ _ (by decide) (by decide)) eX11_init_84 rfl rfl ?_
  refine C_get (v := .ref (s.heap.size + 2)) (G0 _ _ (by decide) (by decide)) K ggX11_19 (by rfl) eX11_init_85 ?_
  refine N_aload_n (i := 0) (G0 _ _ (by decide) (by decide)) eX11_init_88 rfl rfl ?_
  refine C_get (v := .ref (s.heap.size + 130)) (G0 _ _ (by decide) (by decide)) K ggX11_35 (by rfl) eX11_init_89 ?_
  refine C_ctor (As := [.ref (s.heap.size + 34), .ref (s.heap.size + 2), .ref (s.heap.size + 130)]) (st := [.ref (s.heap.size + 144), .ref o]) (q := 144) (fs' := X8_fs (s.heap.size + 145) (s.heap.size + 34) (s.heap.size + 2) (s.heap.size + 130)) (ds' := X8_ds w) (mc := 60) (ms := 5457) (G0 _ _ (by decide) (by decide)) K (cOk_this ho) lcX11_50 (by rfl) X8_c (by decide) rfl rfl (Nat.le_of_ble_eq_true rfl) (by decide) eX11_init_92 ?_
  refine C_putF (G0 _ _ (by decide) (by decide)) K hin ho ffX11_53 rfl rfl (by exact Nat.le_of_ble_eq_true rfl) eX11_init_95 ?_
  refine N_aload_n (i := 0) (G0 _ _ (by decide) (by decide)) eX11_init_98 rfl rfl ?_
  refine C_new (ty := tyX10) (fs' := [.null, .null, .null, .null, .null, .null, .null, .null]) (G0 _ _ (by decide) (by decide)) K cf_10.1 cf_10.2.1 tyX10_ok df_10 nwX11_57 (by decide) (by decide) eX11_init_99 ?_
  refine N_dup (G0 _ _ (by decide) (by decide)) eX11_init_102 rfl ?_
  refine N_aload_n (i := 0) (G0 _ _ (by decide) (by decide)) eX11_init_103 rfl rfl ?_
  refine C_get (v := .ref (s.heap.size + 34)) (G0 _ _ (by decide) (by decide)) K ggX11_28 (by rfl) eX11_init_104 ?_
  refine N_aload_n (i := 0) (G0 _ _ (by decide) (by decide)) eX11_init_107 rfl rfl ?_
  refine C_get (v := .ref (s.heap.size + 2)) (G0 _ _ (by decide) (by decide)) K ggX11_19 (by rfl) eX11_init_108 ?_
  refine N_aload_n (i := 0) (G0 _ _ (by decide) (by decide)) eX11_init_111 rfl rfl ?_
  refine C_get (v := .ref (s.heap.size + 130)) (G0 _ _ (by decide) (by decide)) K ggX11_35 (by rfl) eX11_init_112 ?_
  refine N_aload_n (i := 0) (G0 _ _ (by decide) (by decide)) eX11_init_115 rfl rfl ?_
  refine C_get (v := .ref (s.heap.size + 144)) (G0 _ _ (by decide) (by decide)) K ggX11_53 (by rfl) eX11_init_116 ?_
  refine C_ctor (As := [.ref (s.heap.size + 34), .ref (s.heap.size + 2), .ref (s.heap.size + 130), .ref (s.heap.size + 144)]) (st := [.ref (s.heap.size + 205), .ref o]) (q := 205) (fs' := X10_fs (s.heap.size + 206) (s.heap.size + 34) (s.heap.size + 2) (s.heap.size + 130) (s.heap.size + 144)) (ds' := X10_ds w) (mc := 4) (ms := 708) (G0 _ _ (by decide) (by decide)) K (cOk_this ho) lcX11_59 (by rfl) X10_c (by decide) rfl rfl (Nat.le_of_ble_eq_true rfl) (by decide) eX11_init_119 ?_
  refine C_putF (G0 _ _ (by decide) (by decide)) K hin ho ffX11_62 rfl rfl (by exact Nat.le_of_ble_eq_true rfl) eX11_init_122 ?_
  refine N_aload_n (i := 0) (G0 _ _ (by decide) (by decide)) eX11_init_125 rfl rfl ?_
  refine C_new (ty := tyX2) (fs' := [.null, .null, .null, .null, .null, .null, .null]) (G0 _ _ (by decide) (by decide)) K cf_2.1 cf_2.2.1 tyX2_ok df_2 nwX11_66 (by decide) (by decide) eX11_init_126 ?_
  refine N_dup (G0 _ _ (by decide) (by decide)) eX11_init_129 rfl ?_
  refine N_aload_n (i := 0) (G0 _ _ (by decide) (by decide)) eX11_init_130 rfl rfl ?_
  refine C_get (v := .ref (s.heap.size + 34)) (G0 _ _ (by decide) (by decide)) K ggX11_28 (by rfl) eX11_init_131 ?_
  refine C_ctor (As := [.ref (s.heap.size + 34)]) (st := [.ref (s.heap.size + 210), .ref o]) (q := 210) (fs' := X2_fs (s.heap.size + 211) (s.heap.size + 34)) (ds' := X2_ds w) (mc := 38) (ms := 665) (G0 _ _ (by decide) (by decide)) K (cOk_this ho) lcX11_68 (by rfl) X2_c (by decide) rfl rfl (Nat.le_of_ble_eq_true rfl) (by decide) eX11_init_134 ?_
  refine C_putF (G0 _ _ (by decide) (by decide)) K hin ho ffX11_71 rfl rfl (by exact Nat.le_of_ble_eq_true rfl) eX11_init_137 ?_
  refine N_aload_n (i := 0) (G0 _ _ (by decide) (by decide)) eX11_init_140 rfl rfl ?_
  refine C_new (ty := tyX1) (fs' := [.null, .null, .null, .null, .null, .null, .int 0]) (G0 _ _ (by decide) (by decide)) K cf_1.1 cf_1.2.1 tyX1_ok df_1 nwX11_75 (by decide) (by decide) eX11_init_141 ?_
  refine N_dup (G0 _ _ (by decide) (by decide)) eX11_init_144 rfl ?_
  refine C_ctor (As := []) (st := [.ref (s.heap.size + 249), .ref o]) (q := 249) (fs' := X1_fs (s.heap.size + 250)) (ds' := X1_ds w) (mc := 40) (ms := 343) (G0 _ _ (by decide) (by decide)) K (cOk_this ho) lcX11_77 (by rfl) X1_c (by decide) rfl rfl (Nat.le_of_ble_eq_true rfl) (by decide) eX11_init_145 ?_
  refine C_putF (G0 _ _ (by decide) (by decide)) K hin ho ffX11_78 rfl rfl (by exact Nat.le_of_ble_eq_true rfl) eX11_init_148 ?_
  refine N_aload_n (i := 0) (G0 _ _ (by decide) (by decide)) eX11_init_151 rfl rfl ?_
  refine C_new (ty := tyX0) (fs' := [.null, .null, .null, .null, .null, .null, .int 0]) (G0 _ _ (by decide) (by decide)) K cf_0.1 cf_0.2.1 tyX0_ok df_0 nwX11_82 (by decide) (by decide) eX11_init_152 ?_
  refine N_dup (G0 _ _ (by decide) (by decide)) eX11_init_155 rfl ?_
  refine N_aload_n (i := 0) (G0 _ _ (by decide) (by decide)) eX11_init_156 rfl rfl ?_
  refine C_get (v := .ref (s.heap.size + 34)) (G0 _ _ (by decide) (by decide)) K ggX11_28 (by rfl) eX11_init_157 ?_
  refine N_aload_n (i := 0) (G0 _ _ (by decide) (by decide)) eX11_init_160 rfl rfl ?_
  refine C_get (v := .ref (s.heap.size + 2)) (G0 _ _ (by decide) (by decide)) K ggX11_19 (by rfl) eX11_init_161 ?_
  refine N_aload_n (i := 0) (G0 _ _ (by decide) (by decide)) eX11_init_164 rfl rfl ?_
  refine C_get (v := .ref (s.heap.size + 144)) (G0 _ _ (by decide) (by decide)) K ggX11_53 (by rfl) eX11_init_165 ?_
  refine C_ctor (As := [.ref (s.heap.size + 34), .ref (s.heap.size + 2), .ref (s.heap.size + 144)]) (st := [.ref (s.heap.size + 290), .ref o]) (q := 290) (fs' := X0_fs (s.heap.size + 291) (s.heap.size + 34) (s.heap.size + 2) (s.heap.size + 144)) (ds' := X0_ds w) (mc := 13) (ms := 150) (G0 _ _ (by decide) (by decide)) K (cOk_this ho) lcX11_84 (by rfl) X0_c (by decide) rfl rfl (Nat.le_of_ble_eq_true rfl) (by decide) eX11_init_168 ?_
  refine C_putF (G0 _ _ (by decide) (by decide)) K hin ho ffX11_87 rfl rfl (by exact Nat.le_of_ble_eq_true rfl) eX11_init_171 ?_
  refine N_aload_n (i := 0) (G0 _ _ (by decide) (by decide)) eX11_init_174 rfl rfl ?_
  refine C_new (ty := tyX5) (fs' := [.null, .null, .null, .null, .null, .null, .null, .null, .null, .null, .null, .int 0, .int 0, .int 0, .int 0, .int 0]) (G0 _ _ (by decide) (by decide)) K cf_5.1 cf_5.2.1 tyX5_ok df_5 nwX11_91 (by decide) (by decide) eX11_init_175 ?_
  refine N_dup (G0 _ _ (by decide) (by decide)) eX11_init_178 rfl ?_
  refine N_aload_n (i := 0) (G0 _ _ (by decide) (by decide)) eX11_init_179 rfl rfl ?_
  refine C_get (v := .ref (s.heap.size + 34)) (G0 _ _ (by decide) (by decide)) K ggX11_28 (by rfl) eX11_init_180 ?_
  refine N_aload_n (i := 0) (G0 _ _ (by decide) (by decide)) eX11_init_183 rfl rfl ?_
  refine C_get (v := .ref (s.heap.size + 144)) (G0 _ _ (by decide) (by decide)) K ggX11_53 (by rfl) eX11_init_184 ?_
  refine N_aload_n (i := 0) (G0 _ _ (by decide) (by decide)) eX11_init_187 rfl rfl ?_
  refine C_get (v := .ref (s.heap.size + 290)) (G0 _ _ (by decide) (by decide)) K ggX11_87 (by rfl) eX11_init_188 ?_
  refine C_ctor (As := [.ref (s.heap.size + 34), .ref (s.heap.size + 144), .ref (s.heap.size + 290)]) (st := [.ref (s.heap.size + 304), .ref o]) (q := 304) (fs' := X5_fs (s.heap.size + 305) (s.heap.size + 34) (s.heap.size + 144) (s.heap.size + 290)) (ds' := X5_ds w) (mc := 19) (ms := 183) (G0 _ _ (by decide) (by decide)) K (cOk_this ho) lcX11_93 (by rfl) X5_c (by decide) rfl rfl (Nat.le_of_ble_eq_true rfl) (by decide) eX11_init_191 ?_
  refine C_putF (G0 _ _ (by decide) (by decide)) K hin ho ffX11_96 rfl rfl (by exact Nat.le_of_ble_eq_true rfl) eX11_init_194 ?_
  exact C_ret (G0 _ _ (by decide) (by decide)) hr hlk rfl eX11_init_197
def X12_fs (h : Nat) : List Value := [.int 0, .ref (h + 0), .int 0, .int 0, .int 0, .int 0, .ref (h + 1), .ref (h + 2), .ref (h + 3), .ref (h + 4), .ref (h + 5), .ref (h + 6), .ref (h + 7), .ref (h + 8), .int 0, .ref (h + 9), .ref (h + 10), .ref (h + 11), .ref (h + 12), .ref (h + 13), .ref (h + 14), .ref (h + 15), .int 0, .ref (h + 16), .ref (h + 17), .ref (h + 18), .ref (h + 19), .ref (h + 20), .ref (h + 21), .ref (h + 22), .int 0, .int 0, .ref (h + 23), .ref (h + 24), .ref (h + 25), .ref (h + 26), .ref (h + 27), .ref (h + 28), .int 0, .int (nI 6), .ref (h + 29), .ref (h + 30), .int 0, .int 0, .ref (h + 31), .ref (h + 32), .ref (h + 33), .ref (h + 34), .int 0, .ref (h + 35), .ref (h + 36), .ref (h + 37), .ref (h + 38), .ref (h + 39), .int 0, .ref (h + 40), .ref (h + 41), .ref (h + 42), .int 0, .ref (h + 43), .ref (h + 44), .ref (h + 45), .ref (h + 46), .ref (h + 47), .int 0, .int 0, .int 0, .int 0, .int 0, .int 0, .int 0, .int 0, .int 0, .int 0, .int 0, .int 0, .int 0, .ref (h + 48), .ref (h + 49), .ref (h + 50), .ref (h + 51), .ref (h + 52)]
def X12_ds (w : Wld) (h : Nat) : List va_E := [.inl (w.2.1 0, (120, .inl (fun _ => 0))), .inl (w.2.1 0, (12, .inl (fun _ => 0))), .inl (w.2.1 0, (12, .inl (fun _ => 0))), .inl (w.2.1 0, (12, .inl (fun _ => 0))), .inl (w.2.1 1, (12, .inl (fun _ => 0))), .inl (w.2.1 0, (12, .inl (fun _ => 0))), .inl (w.2.1 0, (12, .inl (fun _ => 0))), .inl (w.2.1 0, (72, .inl (fun _ => 0))), .inl (w.2.1 0, (72, .inl (fun _ => 0))), .inl (w.2.1 0, (17, .inl (fun _ => 0))), .inl (w.2.1 0, (136, .inl (fun _ => 0))), .inl (w.2.1 0, (136, .inl (fun _ => 0))), .inl (w.2.1 0, (136, .inl (fun _ => 0))), .inl (w.2.1 0, (17, .inl (fun _ => 0))), .inl (w.2.1 0, (1224, .inl (fun _ => 0))), .inl (w.2.1 0, (17, .inl (fun _ => 0))), .inl (w.2.1 0, (1820, .inl (fun _ => 0))), .inl (w.2.1 0, (1820, .inl (fun _ => 0))), .inl (w.2.1 0, (7, .inl (fun _ => 0))), .inl (w.2.1 0, (7, .inl (fun _ => 0))), .inl (w.2.1 0, (420, .inl (fun _ => 0))), .inl (w.2.1 0, (420, .inl (fun _ => 0))), .inl (w.2.1 0, (420, .inl (fun _ => 0))), .inl (w.2.1 0, (9, .inl (fun _ => 0))), .inl (w.2.1 0, (60, .inl (fun _ => 0))), .inl (w.2.1 0, (20, .inl (fun _ => 0))), .inl (w.2.1 0, (20, .inl (fun _ => 0))), .inl (w.2.1 0, (20, .inl (fun _ => 0))), .inl (w.2.1 0, (20, .inl (fun _ => 0))), .inl (w.2.1 0, (8, .inl (fun _ => 0))), .inl (w.2.1 0, (5000, .inl (fun _ => 0))), .inl (w.2.1 0, (100, .inl (fun _ => 0))), .inl (w.2.1 0, (20, .inl (fun _ => 0))), .inl (w.2.1 0, (20, .inl (fun _ => 0))), .inl (w.2.1 1, (20, .inl (fun _ => 0))), .inl (w.2.1 0, 64, .inl (upd (upd (upd (upd (upd (upd (upd (upd (upd (upd (upd (upd (upd (upd (upd (upd (upd (upd (upd (upd (upd (upd (upd (upd (upd (upd (upd (upd (upd (upd (upd (upd (upd (upd (upd (upd (upd (upd (upd (upd (upd (upd (upd (upd (upd (upd (upd (upd (upd (upd (upd (upd (upd (upd (upd (upd (upd (upd (upd (upd (upd (upd (upd (upd (fun _ => 0) (nI 0).toNatClampNeg (nI 0)) (nI 1).toNatClampNeg (nI 10)) (nI 2).toNatClampNeg (nI 10)) (nI 3).toNatClampNeg (nI 10)) (nI 4).toNatClampNeg (nI 10)) (nI 5).toNatClampNeg (nI 10)) (nI 6).toNatClampNeg (nI 10)) (nI 7).toNatClampNeg (nI 10)) (nI 8).toNatClampNeg (nI 10)) (nI 9).toNatClampNeg (nI 0)) (nI 10).toNatClampNeg (nI 10)) (nI 11).toNatClampNeg (nI 10)) (nI 12).toNatClampNeg (nI 10)) (nI 13).toNatClampNeg (nI 10)) (nI 14).toNatClampNeg (nI 10)) (nI 15).toNatClampNeg (nI 10)) (nI 16).toNatClampNeg (nI 10)) (nI 17).toNatClampNeg (nI 10)) (nI 18).toNatClampNeg (nI 0)) (nI 19).toNatClampNeg (nI 10)) (nI 20).toNatClampNeg (nI 10)) (nI 21).toNatClampNeg (nI 10)) (nI 22).toNatClampNeg (nI 10)) (nI 23).toNatClampNeg (nI 10)) (nI 24).toNatClampNeg (nI 10)) (nI 25).toNatClampNeg (nI 10)) (nI 26).toNatClampNeg (nI 10)) (nI 27).toNatClampNeg (nI 0)) (nI 28).toNatClampNeg (nI 10)) (nI 29).toNatClampNeg (nI 10)) (nI 30).toNatClampNeg (nI 10)) (nI 31).toNatClampNeg (nI 10)) (nI 32).toNatClampNeg (nI 10)) (nI 33).toNatClampNeg (nI 10)) (nI 34).toNatClampNeg (nI 10)) (nI 35).toNatClampNeg (nI 10)) (nI 36).toNatClampNeg (nI 0)) (nI 37).toNatClampNeg (nI 10)) (nI 38).toNatClampNeg (nI 10)) (nI 39).toNatClampNeg (nI 10)) (nI 40).toNatClampNeg (nI 10)) (nI 41).toNatClampNeg (nI 10)) (nI 42).toNatClampNeg (nI 10)) (nI 43).toNatClampNeg (nI 10)) (nI 44).toNatClampNeg (nI 10)) (nI 45).toNatClampNeg (nI 0)) (nI 46).toNatClampNeg (nI 10)) (nI 47).toNatClampNeg (nI 10)) (nI 48).toNatClampNeg (nI 10)) (nI 49).toNatClampNeg (nI 10)) (nI 50).toNatClampNeg (nI 10)) (nI 51).toNatClampNeg (nI 10)) (nI 52).toNatClampNeg (nI 10)) (nI 53).toNatClampNeg (nI 10)) (nI 54).toNatClampNeg (nI 0)) (nI 55).toNatClampNeg (nI 10)) (nI 56).toNatClampNeg (nI 10)) (nI 57).toNatClampNeg (nI 10)) (nI 58).toNatClampNeg (nI 10)) (nI 59).toNatClampNeg (nI 10)) (nI 60).toNatClampNeg (nI 10)) (nI 61).toNatClampNeg (nI 10)) (nI 62).toNatClampNeg (nI 10)) (nI 63).toNatClampNeg (nI 0))), .inl (w.2.1 0, (12, .inl (fun _ => 0))), .inl (w.2.1 0, (12, .inl (fun _ => 0))), .inl (w.2.1 0, (104, .inl (fun _ => 0))), .inl (w.2.1 2, (104, .inr (.inl (fun _ => 0)))), .inl (w.2.1 0, (10, .inl (fun _ => 0))), .inl (w.2.1 1, (10, .inl (fun _ => 0))), .inl (w.2.1 0, (120, .inl (fun _ => 0))), .inl (w.2.1 0, (5, .inl (fun _ => 0))), .inl (w.2.1 1, (5, .inl (fun _ => 0))), .inl (w.2.1 0, (60, .inl (fun _ => 0))), .inl (w.2.1 0, (5, .inl (fun _ => 0))), .inl (w.2.1 0, (5, .inl (fun _ => 0))), .inl (w.2.1 0, (73, .inl (fun _ => 0))), .inl (w.2.1 0, (16, .inl (fun _ => 0))), .inl (w.2.1 0, (8, .inl (fun _ => 0))), .inl (w.2.1 0, (300, .inl (fun _ => 0))), .inl (w.2.1 0, (300, .inl (fun _ => 0)))]
set_option maxRecDepth 100000 in
set_option maxHeartbeats 4000000 in
theorem X12_c {l : Launch} {w : Wld} {o sz : Nat} : CtC l w yX12_init cX12_init 2 1 [.ref o] o 12 sz [.int 0, .null, .int 0, .int 0, .int 0, .int 0, .null, .null, .null, .null, .null, .null, .null, .null, .int 0, .null, .null, .null, .null, .null, .null, .null, .int 0, .null, .null, .null, .null, .null, .null, .null, .int 0, .int 0, .null, .null, .null, .null, .null, .null, .int 0, .int 0, .null, .null, .int 0, .int 0, .null, .null, .null, .null, .int 0, .null, .null, .null, .null, .null, .int 0, .null, .null, .null, .int 0, .null, .null, .null, .null, .null, .int 0, .int 0, .int 0, .int 0, .int 0, .int 0, .int 0, .int 0, .int 0, .int 0, .int 0, .int 0, .int 0, .null, .null, .null, .null, .null] (X12_fs sz) (X12_ds w) 53 13463 := by
  refine CtC_of (own := "PotBookModel") [some (.ref o), none] (by decide +kernel) rfl rfl rfl (Nat.le_of_ble_eq_true rfl) ?_
  intro p e s m args below meth c hx hb hml hown hts K hsz ho hin hr hlk
  subst hsz
  have G0 : ∀ kc ns : Nat, kc ≤ 53 → ns ≤ 13463 → Cxg p (rmC 1 53 13463) s m args meth c cX12_init 2 "PotBookModel" kc ns := fun kc ns h1 h2 => ⟨hx, hb, hml, hown, hts, h1, h2⟩
  refine N_aload_n (i := 0) (G0 _ _ (by decide) (by decide)) eX12_init_0 rfl rfl ?_
  refine C_objInit (G0 _ _ (by decide) (by decide)) oiX12_1 (by decide) (Nat.le_of_ble_eq_true rfl) (by decide) eX12_init_1 ?_
  refine N_aload_n (i := 0) (G0 _ _ (by decide) (by decide)) eX12_init_4 rfl rfl ?_
  refine N_bipush (n := 120) (v := (nI 120)) (G0 _ _ (by decide) (by decide)) eX12_init_5 rfl ?_
  refine C_newarr (ty := .int) (i := 0) (atype := .int) (N := 120) (z := (120, .inl (fun _ => 0))) (G0 _ _ (by decide) (by decide)) K rfl rfl (fun _ h => h) aw_I (by decide) (by decide) (by decide) (fun _ => rfl) (by decide) (by decide) eX12_init_7 ?_
  refine C_putF (G0 _ _ (by decide) (by decide)) K hin ho ffX12_7 rfl rfl (by exact Nat.le_of_ble_eq_true rfl) eX12_init_9 ?_
  refine N_aload_n (i := 0) (G0 _ _ (by decide) (by decide)) eX12_init_12 rfl rfl ?_
  refine N_bipush (n := 12) (v := (nI 12)) (G0 _ _ (by decide) (by decide)) eX12_init_13 rfl ?_
  refine C_newarr (ty := .int) (i := 0) (atype := .int) (N := 12) (z := (12, .inl (fun _ => 0))) (G0 _ _ (by decide) (by decide)) K rfl rfl (fun _ h => h) aw_I (by decide) (by decide) (by decide) (fun _ => rfl) (by decide) (by decide) eX12_init_15 ?_
  refine C_putF (G0 _ _ (by decide) (by decide)) K hin ho ffX12_13 rfl rfl (by exact Nat.le_of_ble_eq_true rfl) eX12_init_17 ?_
  refine N_aload_n (i := 0) (G0 _ _ (by decide) (by decide)) eX12_init_20 rfl rfl ?_
  refine N_bipush (n := 12) (v := (nI 12)) (G0 _ _ (by decide) (by decide)) eX12_init_21 rfl ?_
  refine C_newarr (ty := .int) (i := 0) (atype := .int) (N := 12) (z := (12, .inl (fun _ => 0))) (G0 _ _ (by decide) (by decide)) K rfl rfl (fun _ h => h) aw_I (by decide) (by decide) (by decide) (fun _ => rfl) (by decide) (by decide) eX12_init_23 ?_
  refine C_putF (G0 _ _ (by decide) (by decide)) K hin ho ffX12_16 rfl rfl (by exact Nat.le_of_ble_eq_true rfl) eX12_init_25 ?_
  refine N_aload_n (i := 0) (G0 _ _ (by decide) (by decide)) eX12_init_28 rfl rfl ?_
  refine N_bipush (n := 12) (v := (nI 12)) (G0 _ _ (by decide) (by decide)) eX12_init_29 rfl ?_
  refine C_newarr (ty := .int) (i := 0) (atype := .int) (N := 12) (z := (12, .inl (fun _ => 0))) (G0 _ _ (by decide) (by decide)) K rfl rfl (fun _ h => h) aw_I (by decide) (by decide) (by decide) (fun _ => rfl) (by decide) (by decide) eX12_init_31 ?_
  refine C_putF (G0 _ _ (by decide) (by decide)) K hin ho ffX12_19 rfl rfl (by exact Nat.le_of_ble_eq_true rfl) eX12_init_33 ?_
  refine N_aload_n (i := 0) (G0 _ _ (by decide) (by decide)) eX12_init_36 rfl rfl ?_
  refine N_bipush (n := 12) (v := (nI 12)) (G0 _ _ (by decide) (by decide)) eX12_init_37 rfl ?_
  refine C_newarr (ty := .boolean) (i := 1) (atype := .boolean) (N := 12) (z := (12, .inl (fun _ => 0))) (G0 _ _ (by decide) (by decide)) K rfl rfl (fun _ h => h) aw_Z (by decide) (by decide) (by decide) (fun _ => rfl) (by decide) (by decide) eX12_init_39 ?_
  refine C_putF (G0 _ _ (by decide) (by decide)) K hin ho ffX12_22 rfl rfl (by exact Nat.le_of_ble_eq_true rfl) eX12_init_41 ?_
  refine N_aload_n (i := 0) (G0 _ _ (by decide) (by decide)) eX12_init_44 rfl rfl ?_
  refine N_bipush (n := 12) (v := (nI 12)) (G0 _ _ (by decide) (by decide)) eX12_init_45 rfl ?_
  refine C_newarr (ty := .int) (i := 0) (atype := .int) (N := 12) (z := (12, .inl (fun _ => 0))) (G0 _ _ (by decide) (by decide)) K rfl rfl (fun _ h => h) aw_I (by decide) (by decide) (by decide) (fun _ => rfl) (by decide) (by decide) eX12_init_47 ?_
  refine C_putF (G0 _ _ (by decide) (by decide)) K hin ho ffX12_26 rfl rfl (by exact Nat.le_of_ble_eq_true rfl) eX12_init_49 ?_
  refine N_aload_n (i := 0) (G0 _ _ (by decide) (by decide)) eX12_init_52 rfl rfl ?_
  refine N_bipush (n := 12) (v := (nI 12)) (G0 _ _ (by decide) (by decide)) eX12_init_53 rfl ?_
  refine C_newarr (ty := .int) (i := 0) (atype := .int) (N := 12) (z := (12, .inl (fun _ => 0))) (G0 _ _ (by decide) (by decide)) K rfl rfl (fun _ h => h) aw_I (by decide) (by decide) (by decide) (fun _ => rfl) (by decide) (by decide) eX12_init_55 ?_
  refine C_putF (G0 _ _ (by decide) (by decide)) K hin ho ffX12_29 rfl rfl (by exact Nat.le_of_ble_eq_true rfl) eX12_init_57 ?_
  refine N_aload_n (i := 0) (G0 _ _ (by decide) (by decide)) eX12_init_60 rfl rfl ?_
  refine N_bipush (n := 72) (v := (nI 72)) (G0 _ _ (by decide) (by decide)) eX12_init_61 rfl ?_
  refine C_newarr (ty := .int) (i := 0) (atype := .int) (N := 72) (z := (72, .inl (fun _ => 0))) (G0 _ _ (by decide) (by decide)) K rfl rfl (fun _ h => h) aw_I (by decide) (by decide) (by decide) (fun _ => rfl) (by decide) (by decide) eX12_init_63 ?_
  refine C_putF (G0 _ _ (by decide) (by decide)) K hin ho ffX12_32 rfl rfl (by exact Nat.le_of_ble_eq_true rfl) eX12_init_65 ?_
  refine N_aload_n (i := 0) (G0 _ _ (by decide) (by decide)) eX12_init_68 rfl rfl ?_
  refine N_bipush (n := 72) (v := (nI 72)) (G0 _ _ (by decide) (by decide)) eX12_init_69 rfl ?_
  refine C_newarr (ty := .int) (i := 0) (atype := .int) (N := 72) (z := (72, .inl (fun _ => 0))) (G0 _ _ (by decide) (by decide)) K rfl rfl (fun _ h => h) aw_I (by decide) (by decide) (by decide) (fun _ => rfl) (by decide) (by decide) eX12_init_71 ?_
  refine C_putF (G0 _ _ (by decide) (by decide)) K hin ho ffX12_35 rfl rfl (by exact Nat.le_of_ble_eq_true rfl) eX12_init_73 ?_
  refine N_aload_n (i := 0) (G0 _ _ (by decide) (by decide)) eX12_init_76 rfl rfl ?_
  refine N_bipush (n := 17) (v := (nI 17)) (G0 _ _ (by decide) (by decide)) eX12_init_77 rfl ?_
  refine C_newarr (ty := .int) (i := 0) (atype := .int) (N := 17) (z := (17, .inl (fun _ => 0))) (G0 _ _ (by decide) (by decide)) K rfl rfl (fun _ h => h) aw_I (by decide) (by decide) (by decide) (fun _ => rfl) (by decide) (by decide) eX12_init_79 ?_
  refine C_putF (G0 _ _ (by decide) (by decide)) K hin ho ffX12_38 rfl rfl (by exact Nat.le_of_ble_eq_true rfl) eX12_init_81 ?_
  refine N_aload_n (i := 0) (G0 _ _ (by decide) (by decide)) eX12_init_84 rfl rfl ?_
  refine N_sipush (n := 136) (v := (nI 136)) (G0 _ _ (by decide) (by decide)) eX12_init_85 rfl ?_
  refine C_newarr (ty := .int) (i := 0) (atype := .int) (N := 136) (z := (136, .inl (fun _ => 0))) (G0 _ _ (by decide) (by decide)) K rfl rfl (fun _ h => h) aw_I (by decide) (by decide) (by decide) (fun _ => rfl) (by decide) (by decide) eX12_init_88 ?_
  refine C_putF (G0 _ _ (by decide) (by decide)) K hin ho ffX12_41 rfl rfl (by exact Nat.le_of_ble_eq_true rfl) eX12_init_90 ?_
  refine N_aload_n (i := 0) (G0 _ _ (by decide) (by decide)) eX12_init_93 rfl rfl ?_
  refine N_sipush (n := 136) (v := (nI 136)) (G0 _ _ (by decide) (by decide)) eX12_init_94 rfl ?_
  refine C_newarr (ty := .int) (i := 0) (atype := .int) (N := 136) (z := (136, .inl (fun _ => 0))) (G0 _ _ (by decide) (by decide)) K rfl rfl (fun _ h => h) aw_I (by decide) (by decide) (by decide) (fun _ => rfl) (by decide) (by decide) eX12_init_97 ?_
  refine C_putF (G0 _ _ (by decide) (by decide)) K hin ho ffX12_44 rfl rfl (by exact Nat.le_of_ble_eq_true rfl) eX12_init_99 ?_
  refine N_aload_n (i := 0) (G0 _ _ (by decide) (by decide)) eX12_init_102 rfl rfl ?_
  refine N_sipush (n := 136) (v := (nI 136)) (G0 _ _ (by decide) (by decide)) eX12_init_103 rfl ?_
  refine C_newarr (ty := .int) (i := 0) (atype := .int) (N := 136) (z := (136, .inl (fun _ => 0))) (G0 _ _ (by decide) (by decide)) K rfl rfl (fun _ h => h) aw_I (by decide) (by decide) (by decide) (fun _ => rfl) (by decide) (by decide) eX12_init_106 ?_
  refine C_putF (G0 _ _ (by decide) (by decide)) K hin ho ffX12_47 rfl rfl (by exact Nat.le_of_ble_eq_true rfl) eX12_init_108 ?_
  refine N_aload_n (i := 0) (G0 _ _ (by decide) (by decide)) eX12_init_111 rfl rfl ?_
  refine N_bipush (n := 17) (v := (nI 17)) (G0 _ _ (by decide) (by decide)) eX12_init_112 rfl ?_
  refine C_newarr (ty := .int) (i := 0) (atype := .int) (N := 17) (z := (17, .inl (fun _ => 0))) (G0 _ _ (by decide) (by decide)) K rfl rfl (fun _ h => h) aw_I (by decide) (by decide) (by decide) (fun _ => rfl) (by decide) (by decide) eX12_init_114 ?_
  refine C_putF (G0 _ _ (by decide) (by decide)) K hin ho ffX12_50 rfl rfl (by exact Nat.le_of_ble_eq_true rfl) eX12_init_116 ?_
  refine N_aload_n (i := 0) (G0 _ _ (by decide) (by decide)) eX12_init_119 rfl rfl ?_
  refine N_sipush (n := 1224) (v := (nI 1224)) (G0 _ _ (by decide) (by decide)) eX12_init_120 rfl ?_
  refine C_newarr (ty := .int) (i := 0) (atype := .int) (N := 1224) (z := (1224, .inl (fun _ => 0))) (G0 _ _ (by decide) (by decide)) K rfl rfl (fun _ h => h) aw_I (by decide) (by decide) (by decide) (fun _ => rfl) (by decide) (by decide) eX12_init_123 ?_
  refine C_putF (G0 _ _ (by decide) (by decide)) K hin ho ffX12_53 rfl rfl (by exact Nat.le_of_ble_eq_true rfl) eX12_init_125 ?_
  refine N_aload_n (i := 0) (G0 _ _ (by decide) (by decide)) eX12_init_128 rfl rfl ?_
  refine N_bipush (n := 17) (v := (nI 17)) (G0 _ _ (by decide) (by decide)) eX12_init_129 rfl ?_
  refine C_newarr (ty := .int) (i := 0) (atype := .int) (N := 17) (z := (17, .inl (fun _ => 0))) (G0 _ _ (by decide) (by decide)) K rfl rfl (fun _ h => h) aw_I (by decide) (by decide) (by decide) (fun _ => rfl) (by decide) (by decide) eX12_init_131 ?_
  refine C_putF (G0 _ _ (by decide) (by decide)) K hin ho ffX12_56 rfl rfl (by exact Nat.le_of_ble_eq_true rfl) eX12_init_133 ?_
  refine N_aload_n (i := 0) (G0 _ _ (by decide) (by decide)) eX12_init_136 rfl rfl ?_
  refine N_sipush (n := 1820) (v := (nI 1820)) (G0 _ _ (by decide) (by decide)) eX12_init_137 rfl ?_
  refine C_newarr (ty := .int) (i := 0) (atype := .int) (N := 1820) (z := (1820, .inl (fun _ => 0))) (G0 _ _ (by decide) (by decide)) K rfl rfl (fun _ h => h) aw_I (by decide) (by decide) (by decide) (fun _ => rfl) (by decide) (by decide) eX12_init_140 ?_
  refine C_putF (G0 _ _ (by decide) (by decide)) K hin ho ffX12_59 rfl rfl (by exact Nat.le_of_ble_eq_true rfl) eX12_init_142 ?_
  refine N_aload_n (i := 0) (G0 _ _ (by decide) (by decide)) eX12_init_145 rfl rfl ?_
  refine N_sipush (n := 1820) (v := (nI 1820)) (G0 _ _ (by decide) (by decide)) eX12_init_146 rfl ?_
  refine C_newarr (ty := .int) (i := 0) (atype := .int) (N := 1820) (z := (1820, .inl (fun _ => 0))) (G0 _ _ (by decide) (by decide)) K rfl rfl (fun _ h => h) aw_I (by decide) (by decide) (by decide) (fun _ => rfl) (by decide) (by decide) eX12_init_149 ?_
  refine C_putF (G0 _ _ (by decide) (by decide)) K hin ho ffX12_62 rfl rfl (by exact Nat.le_of_ble_eq_true rfl) eX12_init_151 ?_
  refine N_aload_n (i := 0) (G0 _ _ (by decide) (by decide)) eX12_init_154 rfl rfl ?_
  refine N_bipush (n := 7) (v := (nI 7)) (G0 _ _ (by decide) (by decide)) eX12_init_155 rfl ?_
  refine C_newarr (ty := .int) (i := 0) (atype := .int) (N := 7) (z := (7, .inl (fun _ => 0))) (G0 _ _ (by decide) (by decide)) K rfl rfl (fun _ h => h) aw_I (by decide) (by decide) (by decide) (fun _ => rfl) (by decide) (by decide) eX12_init_157 ?_
  refine C_putF (G0 _ _ (by decide) (by decide)) K hin ho ffX12_65 rfl rfl (by exact Nat.le_of_ble_eq_true rfl) eX12_init_159 ?_
  refine N_aload_n (i := 0) (G0 _ _ (by decide) (by decide)) eX12_init_162 rfl rfl ?_
  refine N_bipush (n := 7) (v := (nI 7)) (G0 _ _ (by decide) (by decide)) eX12_init_163 rfl ?_
  refine C_newarr (ty := .int) (i := 0) (atype := .int) (N := 7) (z := (7, .inl (fun _ => 0))) (G0 _ _ (by decide) (by decide)) K rfl rfl (fun _ h => h) aw_I (by decide) (by decide) (by decide) (fun _ => rfl) (by decide) (by decide) eX12_init_165 ?_
  refine C_putF (G0 _ _ (by decide) (by decide)) K hin ho ffX12_68 rfl rfl (by exact Nat.le_of_ble_eq_true rfl) eX12_init_167 ?_
  refine N_aload_n (i := 0) (G0 _ _ (by decide) (by decide)) eX12_init_170 rfl rfl ?_
  refine N_sipush (n := 420) (v := (nI 420)) (G0 _ _ (by decide) (by decide)) eX12_init_171 rfl ?_
  refine C_newarr (ty := .int) (i := 0) (atype := .int) (N := 420) (z := (420, .inl (fun _ => 0))) (G0 _ _ (by decide) (by decide)) K rfl rfl (fun _ h => h) aw_I (by decide) (by decide) (by decide) (fun _ => rfl) (by decide) (by decide) eX12_init_174 ?_
  refine C_putF (G0 _ _ (by decide) (by decide)) K hin ho ffX12_71 rfl rfl (by exact Nat.le_of_ble_eq_true rfl) eX12_init_176 ?_
  refine N_aload_n (i := 0) (G0 _ _ (by decide) (by decide)) eX12_init_179 rfl rfl ?_
  refine N_sipush (n := 420) (v := (nI 420)) (G0 _ _ (by decide) (by decide)) eX12_init_180 rfl ?_
  refine C_newarr (ty := .int) (i := 0) (atype := .int) (N := 420) (z := (420, .inl (fun _ => 0))) (G0 _ _ (by decide) (by decide)) K rfl rfl (fun _ h => h) aw_I (by decide) (by decide) (by decide) (fun _ => rfl) (by decide) (by decide) eX12_init_183 ?_
  refine C_putF (G0 _ _ (by decide) (by decide)) K hin ho ffX12_74 rfl rfl (by exact Nat.le_of_ble_eq_true rfl) eX12_init_185 ?_
  refine N_aload_n (i := 0) (G0 _ _ (by decide) (by decide)) eX12_init_188 rfl rfl ?_
  refine N_sipush (n := 420) (v := (nI 420)) (G0 _ _ (by decide) (by decide)) eX12_init_189 rfl ?_
  refine C_newarr (ty := .int) (i := 0) (atype := .int) (N := 420) (z := (420, .inl (fun _ => 0))) (G0 _ _ (by decide) (by decide)) K rfl rfl (fun _ h => h) aw_I (by decide) (by decide) (by decide) (fun _ => rfl) (by decide) (by decide) eX12_init_192 ?_
  refine C_putF (G0 _ _ (by decide) (by decide)) K hin ho ffX12_77 rfl rfl (by exact Nat.le_of_ble_eq_true rfl) eX12_init_194 ?_
  refine N_aload_n (i := 0) (G0 _ _ (by decide) (by decide)) eX12_init_197 rfl rfl ?_
  refine N_bipush (n := 9) (v := (nI 9)) (G0 _ _ (by decide) (by decide)) eX12_init_198 rfl ?_
  refine C_newarr (ty := .int) (i := 0) (atype := .int) (N := 9) (z := (9, .inl (fun _ => 0))) (G0 _ _ (by decide) (by decide)) K rfl rfl (fun _ h => h) aw_I (by decide) (by decide) (by decide) (fun _ => rfl) (by decide) (by decide) eX12_init_200 ?_
  refine C_putF (G0 _ _ (by decide) (by decide)) K hin ho ffX12_80 rfl rfl (by exact Nat.le_of_ble_eq_true rfl) eX12_init_202 ?_
  refine N_aload_n (i := 0) (G0 _ _ (by decide) (by decide)) eX12_init_205 rfl rfl ?_
  refine N_bipush (n := 60) (v := (nI 60)) (G0 _ _ (by decide) (by decide)) eX12_init_206 rfl ?_
  refine C_newarr (ty := .int) (i := 0) (atype := .int) (N := 60) (z := (60, .inl (fun _ => 0))) (G0 _ _ (by decide) (by decide)) K rfl rfl (fun _ h => h) aw_I (by decide) (by decide) (by decide) (fun _ => rfl) (by decide) (by decide) eX12_init_208 ?_
  refine C_putF (G0 _ _ (by decide) (by decide)) K hin ho ffX12_83 rfl rfl (by exact Nat.le_of_ble_eq_true rfl) eX12_init_210 ?_
  refine N_aload_n (i := 0) (G0 _ _ (by decide) (by decide)) eX12_init_213 rfl rfl ?_
  refine N_bipush (n := 20) (v := (nI 20)) (G0 _ _ (by decide) (by decide)) eX12_init_214 rfl ?_
  refine C_newarr (ty := .int) (i := 0) (atype := .int) (N := 20) (z := (20, .inl (fun _ => 0))) (G0 _ _ (by decide) (by decide)) K rfl rfl (fun _ h => h) aw_I (by decide) (by decide) (by decide) (fun _ => rfl) (by decide) (by decide) eX12_init_216 ?_
  refine C_putF (G0 _ _ (by decide) (by decide)) K hin ho ffX12_86 rfl rfl (by exact Nat.le_of_ble_eq_true rfl) eX12_init_218 ?_
  refine N_aload_n (i := 0) (G0 _ _ (by decide) (by decide)) eX12_init_221 rfl rfl ?_
  refine N_bipush (n := 20) (v := (nI 20)) (G0 _ _ (by decide) (by decide)) eX12_init_222 rfl ?_
  refine C_newarr (ty := .int) (i := 0) (atype := .int) (N := 20) (z := (20, .inl (fun _ => 0))) (G0 _ _ (by decide) (by decide)) K rfl rfl (fun _ h => h) aw_I (by decide) (by decide) (by decide) (fun _ => rfl) (by decide) (by decide) eX12_init_224 ?_
  refine C_putF (G0 _ _ (by decide) (by decide)) K hin ho ffX12_89 rfl rfl (by exact Nat.le_of_ble_eq_true rfl) eX12_init_226 ?_
  refine N_aload_n (i := 0) (G0 _ _ (by decide) (by decide)) eX12_init_229 rfl rfl ?_
  refine N_bipush (n := 20) (v := (nI 20)) (G0 _ _ (by decide) (by decide)) eX12_init_230 rfl ?_
  refine C_newarr (ty := .int) (i := 0) (atype := .int) (N := 20) (z := (20, .inl (fun _ => 0))) (G0 _ _ (by decide) (by decide)) K rfl rfl (fun _ h => h) aw_I (by decide) (by decide) (by decide) (fun _ => rfl) (by decide) (by decide) eX12_init_232 ?_
  refine C_putF (G0 _ _ (by decide) (by decide)) K hin ho ffX12_92 rfl rfl (by exact Nat.le_of_ble_eq_true rfl) eX12_init_234 ?_
  refine N_aload_n (i := 0) (G0 _ _ (by decide) (by decide)) eX12_init_237 rfl rfl ?_
  refine N_bipush (n := 20) (v := (nI 20)) (G0 _ _ (by decide) (by decide)) eX12_init_238 rfl ?_
  refine C_newarr (ty := .int) (i := 0) (atype := .int) (N := 20) (z := (20, .inl (fun _ => 0))) (G0 _ _ (by decide) (by decide)) K rfl rfl (fun _ h => h) aw_I (by decide) (by decide) (by decide) (fun _ => rfl) (by decide) (by decide) eX12_init_240 ?_
  refine C_putF (G0 _ _ (by decide) (by decide)) K hin ho ffX12_95 rfl rfl (by exact Nat.le_of_ble_eq_true rfl) eX12_init_242 ?_
  refine N_aload_n (i := 0) (G0 _ _ (by decide) (by decide)) eX12_init_245 rfl rfl ?_
  refine N_bipush (n := 6) (v := (nI 6)) (G0 _ _ (by decide) (by decide)) eX12_init_246 rfl ?_
  refine C_put (x := (nI 6)) (G0 _ _ (by decide) (by decide)) K ho gnX12_98 fq_12_39 (by exact Nat.le_of_ble_eq_true rfl) eX12_init_248 ?_
  refine N_aload_n (i := 0) (G0 _ _ (by decide) (by decide)) eX12_init_251 rfl rfl ?_
  refine N_bipush (n := 8) (v := (nI 8)) (G0 _ _ (by decide) (by decide)) eX12_init_252 rfl ?_
  refine C_newarr (ty := .int) (i := 0) (atype := .int) (N := 8) (z := (8, .inl (fun _ => 0))) (G0 _ _ (by decide) (by decide)) K rfl rfl (fun _ h => h) aw_I (by decide) (by decide) (by decide) (fun _ => rfl) (by decide) (by decide) eX12_init_254 ?_
  refine C_putF (G0 _ _ (by decide) (by decide)) K hin ho ffX12_102 rfl rfl (by exact Nat.le_of_ble_eq_true rfl) eX12_init_256 ?_
  refine N_aload_n (i := 0) (G0 _ _ (by decide) (by decide)) eX12_init_259 rfl rfl ?_
  refine N_sipush (n := 5000) (v := (nI 5000)) (G0 _ _ (by decide) (by decide)) eX12_init_260 rfl ?_
  refine C_newarr (ty := .int) (i := 0) (atype := .int) (N := 5000) (z := (5000, .inl (fun _ => 0))) (G0 _ _ (by decide) (by decide)) K rfl rfl (fun _ h => h) aw_I (by decide) (by decide) (by decide) (fun _ => rfl) (by decide) (by decide) eX12_init_263 ?_
  refine C_putF (G0 _ _ (by decide) (by decide)) K hin ho ffX12_105 rfl rfl (by exact Nat.le_of_ble_eq_true rfl) eX12_init_265 ?_
  refine N_aload_n (i := 0) (G0 _ _ (by decide) (by decide)) eX12_init_268 rfl rfl ?_
  refine N_bipush (n := 100) (v := (nI 100)) (G0 _ _ (by decide) (by decide)) eX12_init_269 rfl ?_
  refine C_newarr (ty := .int) (i := 0) (atype := .int) (N := 100) (z := (100, .inl (fun _ => 0))) (G0 _ _ (by decide) (by decide)) K rfl rfl (fun _ h => h) aw_I (by decide) (by decide) (by decide) (fun _ => rfl) (by decide) (by decide) eX12_init_271 ?_
  refine C_putF (G0 _ _ (by decide) (by decide)) K hin ho ffX12_108 rfl rfl (by exact Nat.le_of_ble_eq_true rfl) eX12_init_273 ?_
  refine N_aload_n (i := 0) (G0 _ _ (by decide) (by decide)) eX12_init_276 rfl rfl ?_
  refine N_bipush (n := 20) (v := (nI 20)) (G0 _ _ (by decide) (by decide)) eX12_init_277 rfl ?_
  refine C_newarr (ty := .int) (i := 0) (atype := .int) (N := 20) (z := (20, .inl (fun _ => 0))) (G0 _ _ (by decide) (by decide)) K rfl rfl (fun _ h => h) aw_I (by decide) (by decide) (by decide) (fun _ => rfl) (by decide) (by decide) eX12_init_279 ?_
  refine C_putF (G0 _ _ (by decide) (by decide)) K hin ho ffX12_111 rfl rfl (by exact Nat.le_of_ble_eq_true rfl) eX12_init_281 ?_
  refine N_aload_n (i := 0) (G0 _ _ (by decide) (by decide)) eX12_init_284 rfl rfl ?_
  refine N_bipush (n := 20) (v := (nI 20)) (G0 _ _ (by decide) (by decide)) eX12_init_285 rfl ?_
  refine C_newarr (ty := .int) (i := 0) (atype := .int) (N := 20) (z := (20, .inl (fun _ => 0))) (G0 _ _ (by decide) (by decide)) K rfl rfl (fun _ h => h) aw_I (by decide) (by decide) (by decide) (fun _ => rfl) (by decide) (by decide) eX12_init_287 ?_
  refine C_putF (G0 _ _ (by decide) (by decide)) K hin ho ffX12_114 rfl rfl (by exact Nat.le_of_ble_eq_true rfl) eX12_init_289 ?_
  refine N_aload_n (i := 0) (G0 _ _ (by decide) (by decide)) eX12_init_292 rfl rfl ?_
  refine N_bipush (n := 20) (v := (nI 20)) (G0 _ _ (by decide) (by decide)) eX12_init_293 rfl ?_
  refine C_newarr (ty := .boolean) (i := 1) (atype := .boolean) (N := 20) (z := (20, .inl (fun _ => 0))) (G0 _ _ (by decide) (by decide)) K rfl rfl (fun _ h => h) aw_Z (by decide) (by decide) (by decide) (fun _ => rfl) (by decide) (by decide) eX12_init_295 ?_
  refine C_putF (G0 _ _ (by decide) (by decide)) K hin ho ffX12_117 rfl rfl (by exact Nat.le_of_ble_eq_true rfl) eX12_init_297 ?_
  refine N_aload_n (i := 0) (G0 _ _ (by decide) (by decide)) eX12_init_300 rfl rfl ?_
  refine N_bipush (n := 64) (v := (nI 64)) (G0 _ _ (by decide) (by decide)) eX12_init_301 rfl ?_
  refine C_newarr (ty := .int) (i := 0) (atype := .int) (N := 64) (z := (64, .inl (fun _ => 0))) (G0 _ _ (by decide) (by decide)) K rfl rfl (fun _ h => h) aw_I (by decide) (by decide) (by decide) (fun _ => rfl) (by decide) (by decide) eX12_init_303 ?_
  refine C_putF (G0 _ _ (by decide) (by decide)) K hin ho ffX12_120 rfl rfl (by exact Nat.le_of_ble_eq_true rfl) eX12_init_305 ?_
  refine N_aload_n (i := 0) (G0 _ _ (by decide) (by decide)) eX12_init_308 rfl rfl ?_
  refine N_bipush (n := 12) (v := (nI 12)) (G0 _ _ (by decide) (by decide)) eX12_init_309 rfl ?_
  refine C_newarr (ty := .int) (i := 0) (atype := .int) (N := 12) (z := (12, .inl (fun _ => 0))) (G0 _ _ (by decide) (by decide)) K rfl rfl (fun _ h => h) aw_I (by decide) (by decide) (by decide) (fun _ => rfl) (by decide) (by decide) eX12_init_311 ?_
  refine C_putF (G0 _ _ (by decide) (by decide)) K hin ho ffX12_123 rfl rfl (by exact Nat.le_of_ble_eq_true rfl) eX12_init_313 ?_
  refine N_aload_n (i := 0) (G0 _ _ (by decide) (by decide)) eX12_init_316 rfl rfl ?_
  refine N_bipush (n := 12) (v := (nI 12)) (G0 _ _ (by decide) (by decide)) eX12_init_317 rfl ?_
  refine C_newarr (ty := .int) (i := 0) (atype := .int) (N := 12) (z := (12, .inl (fun _ => 0))) (G0 _ _ (by decide) (by decide)) K rfl rfl (fun _ h => h) aw_I (by decide) (by decide) (by decide) (fun _ => rfl) (by decide) (by decide) eX12_init_319 ?_
  refine C_putF (G0 _ _ (by decide) (by decide)) K hin ho ffX12_126 rfl rfl (by exact Nat.le_of_ble_eq_true rfl) eX12_init_321 ?_
  refine N_aload_n (i := 0) (G0 _ _ (by decide) (by decide)) eX12_init_324 rfl rfl ?_
  refine N_bipush (n := 104) (v := (nI 104)) (G0 _ _ (by decide) (by decide)) eX12_init_325 rfl ?_
  refine C_newarr (ty := .int) (i := 0) (atype := .int) (N := 104) (z := (104, .inl (fun _ => 0))) (G0 _ _ (by decide) (by decide)) K rfl rfl (fun _ h => h) aw_I (by decide) (by decide) (by decide) (fun _ => rfl) (by decide) (by decide) eX12_init_327 ?_
  refine C_putF (G0 _ _ (by decide) (by decide)) K hin ho ffX12_129 rfl rfl (by exact Nat.le_of_ble_eq_true rfl) eX12_init_329 ?_
  refine N_aload_n (i := 0) (G0 _ _ (by decide) (by decide)) eX12_init_332 rfl rfl ?_
  refine N_bipush (n := 104) (v := (nI 104)) (G0 _ _ (by decide) (by decide)) eX12_init_333 rfl ?_
  refine C_newarr (ty := .long) (i := 2) (atype := .long) (N := 104) (z := (104, .inr (.inl (fun _ => 0)))) (G0 _ _ (by decide) (by decide)) K rfl rfl (fun _ h => h) aw_J (by decide) (by decide) (by decide) (fun _ => rfl) (by decide) (by decide) eX12_init_335 ?_
  refine C_putF (G0 _ _ (by decide) (by decide)) K hin ho ffX12_132 rfl rfl (by exact Nat.le_of_ble_eq_true rfl) eX12_init_337 ?_
  refine N_aload_n (i := 0) (G0 _ _ (by decide) (by decide)) eX12_init_340 rfl rfl ?_
  refine N_bipush (n := 10) (v := (nI 10)) (G0 _ _ (by decide) (by decide)) eX12_init_341 rfl ?_
  refine C_newarr (ty := .int) (i := 0) (atype := .int) (N := 10) (z := (10, .inl (fun _ => 0))) (G0 _ _ (by decide) (by decide)) K rfl rfl (fun _ h => h) aw_I (by decide) (by decide) (by decide) (fun _ => rfl) (by decide) (by decide) eX12_init_343 ?_
  refine C_putF (G0 _ _ (by decide) (by decide)) K hin ho ffX12_136 rfl rfl (by exact Nat.le_of_ble_eq_true rfl) eX12_init_345 ?_
  refine N_aload_n (i := 0) (G0 _ _ (by decide) (by decide)) eX12_init_348 rfl rfl ?_
  refine N_bipush (n := 10) (v := (nI 10)) (G0 _ _ (by decide) (by decide)) eX12_init_349 rfl ?_
  refine C_newarr (ty := .boolean) (i := 1) (atype := .boolean) (N := 10) (z := (10, .inl (fun _ => 0))) (G0 _ _ (by decide) (by decide)) K rfl rfl (fun _ h => h) aw_Z (by decide) (by decide) (by decide) (fun _ => rfl) (by decide) (by decide) eX12_init_351 ?_
  refine C_putF (G0 _ _ (by decide) (by decide)) K hin ho ffX12_139 rfl rfl (by exact Nat.le_of_ble_eq_true rfl) eX12_init_353 ?_
  refine N_aload_n (i := 0) (G0 _ _ (by decide) (by decide)) eX12_init_356 rfl rfl ?_
  refine N_bipush (n := 120) (v := (nI 120)) (G0 _ _ (by decide) (by decide)) eX12_init_357 rfl ?_
  refine C_newarr (ty := .int) (i := 0) (atype := .int) (N := 120) (z := (120, .inl (fun _ => 0))) (G0 _ _ (by decide) (by decide)) K rfl rfl (fun _ h => h) aw_I (by decide) (by decide) (by decide) (fun _ => rfl) (by decide) (by decide) eX12_init_359 ?_
  refine C_putF (G0 _ _ (by decide) (by decide)) K hin ho ffX12_142 rfl rfl (by exact Nat.le_of_ble_eq_true rfl) eX12_init_361 ?_
  refine N_aload_n (i := 0) (G0 _ _ (by decide) (by decide)) eX12_init_364 rfl rfl ?_
  refine N_iconst (n := 5) (v := (nI 5)) (G0 _ _ (by decide) (by decide)) eX12_init_365 rfl ?_
  refine C_newarr (ty := .int) (i := 0) (atype := .int) (N := 5) (z := (5, .inl (fun _ => 0))) (G0 _ _ (by decide) (by decide)) K rfl rfl (fun _ h => h) aw_I (by decide) (by decide) (by decide) (fun _ => rfl) (by decide) (by decide) eX12_init_366 ?_
  refine C_putF (G0 _ _ (by decide) (by decide)) K hin ho ffX12_145 rfl rfl (by exact Nat.le_of_ble_eq_true rfl) eX12_init_368 ?_
  refine N_aload_n (i := 0) (G0 _ _ (by decide) (by decide)) eX12_init_371 rfl rfl ?_
  refine N_iconst (n := 5) (v := (nI 5)) (G0 _ _ (by decide) (by decide)) eX12_init_372 rfl ?_
  refine C_newarr (ty := .boolean) (i := 1) (atype := .boolean) (N := 5) (z := (5, .inl (fun _ => 0))) (G0 _ _ (by decide) (by decide)) K rfl rfl (fun _ h => h) aw_Z (by decide) (by decide) (by decide) (fun _ => rfl) (by decide) (by decide) eX12_init_373 ?_
  refine C_putF (G0 _ _ (by decide) (by decide)) K hin ho ffX12_148 rfl rfl (by exact Nat.le_of_ble_eq_true rfl) eX12_init_375 ?_
  refine N_aload_n (i := 0) (G0 _ _ (by decide) (by decide)) eX12_init_378 rfl rfl ?_
  refine N_bipush (n := 60) (v := (nI 60)) (G0 _ _ (by decide) (by decide)) eX12_init_379 rfl ?_
  refine C_newarr (ty := .int) (i := 0) (atype := .int) (N := 60) (z := (60, .inl (fun _ => 0))) (G0 _ _ (by decide) (by decide)) K rfl rfl (fun _ h => h) aw_I (by decide) (by decide) (by decide) (fun _ => rfl) (by decide) (by decide) eX12_init_381 ?_
  refine C_putF (G0 _ _ (by decide) (by decide)) K hin ho ffX12_151 rfl rfl (by exact Nat.le_of_ble_eq_true rfl) eX12_init_383 ?_
  refine N_aload_n (i := 0) (G0 _ _ (by decide) (by decide)) eX12_init_386 rfl rfl ?_
  refine N_iconst (n := 5) (v := (nI 5)) (G0 _ _ (by decide) (by decide)) eX12_init_387 rfl ?_
  refine C_newarr (ty := .int) (i := 0) (atype := .int) (N := 5) (z := (5, .inl (fun _ => 0))) (G0 _ _ (by decide) (by decide)) K rfl rfl (fun _ h => h) aw_I (by decide) (by decide) (by decide) (fun _ => rfl) (by decide) (by decide) eX12_init_388 ?_
  refine C_putF (G0 _ _ (by decide) (by decide)) K hin ho ffX12_154 rfl rfl (by exact Nat.le_of_ble_eq_true rfl) eX12_init_390 ?_
  refine N_aload_n (i := 0) (G0 _ _ (by decide) (by decide)) eX12_init_393 rfl rfl ?_
  refine N_iconst (n := 5) (v := (nI 5)) (G0 _ _ (by decide) (by decide)) eX12_init_394 rfl ?_
  refine C_newarr (ty := .int) (i := 0) (atype := .int) (N := 5) (z := (5, .inl (fun _ => 0))) (G0 _ _ (by decide) (by decide)) K rfl rfl (fun _ h => h) aw_I (by decide) (by decide) (by decide) (fun _ => rfl) (by decide) (by decide) eX12_init_395 ?_
  refine C_putF (G0 _ _ (by decide) (by decide)) K hin ho ffX12_157 rfl rfl (by exact Nat.le_of_ble_eq_true rfl) eX12_init_397 ?_
  refine N_aload_n (i := 0) (G0 _ _ (by decide) (by decide)) eX12_init_400 rfl rfl ?_
  refine N_bipush (n := 73) (v := (nI 73)) (G0 _ _ (by decide) (by decide)) eX12_init_401 rfl ?_
  refine C_newarr (ty := .int) (i := 0) (atype := .int) (N := 73) (z := (73, .inl (fun _ => 0))) (G0 _ _ (by decide) (by decide)) K rfl rfl (fun _ h => h) aw_I (by decide) (by decide) (by decide) (fun _ => rfl) (by decide) (by decide) eX12_init_403 ?_
  refine C_putF (G0 _ _ (by decide) (by decide)) K hin ho ffX12_160 rfl rfl (by exact Nat.le_of_ble_eq_true rfl) eX12_init_405 ?_
  refine N_aload_n (i := 0) (G0 _ _ (by decide) (by decide)) eX12_init_408 rfl rfl ?_
  refine N_bipush (n := 16) (v := (nI 16)) (G0 _ _ (by decide) (by decide)) eX12_init_409 rfl ?_
  refine C_newarr (ty := .int) (i := 0) (atype := .int) (N := 16) (z := (16, .inl (fun _ => 0))) (G0 _ _ (by decide) (by decide)) K rfl rfl (fun _ h => h) aw_I (by decide) (by decide) (by decide) (fun _ => rfl) (by decide) (by decide) eX12_init_411 ?_
  refine C_putF (G0 _ _ (by decide) (by decide)) K hin ho ffX12_163 rfl rfl (by exact Nat.le_of_ble_eq_true rfl) eX12_init_413 ?_
  refine N_aload_n (i := 0) (G0 _ _ (by decide) (by decide)) eX12_init_416 rfl rfl ?_
  refine N_bipush (n := 8) (v := (nI 8)) (G0 _ _ (by decide) (by decide)) eX12_init_417 rfl ?_
  refine C_newarr (ty := .int) (i := 0) (atype := .int) (N := 8) (z := (8, .inl (fun _ => 0))) (G0 _ _ (by decide) (by decide)) K rfl rfl (fun _ h => h) aw_I (by decide) (by decide) (by decide) (fun _ => rfl) (by decide) (by decide) eX12_init_419 ?_
  refine C_putF (G0 _ _ (by decide) (by decide)) K hin ho ffX12_166 rfl rfl (by exact Nat.le_of_ble_eq_true rfl) eX12_init_421 ?_
  refine N_aload_n (i := 0) (G0 _ _ (by decide) (by decide)) eX12_init_424 rfl rfl ?_
  refine N_sipush (n := 300) (v := (nI 300)) (G0 _ _ (by decide) (by decide)) eX12_init_425 rfl ?_
  refine C_newarr (ty := .int) (i := 0) (atype := .int) (N := 300) (z := (300, .inl (fun _ => 0))) (G0 _ _ (by decide) (by decide)) K rfl rfl (fun _ h => h) aw_I (by decide) (by decide) (by decide) (fun _ => rfl) (by decide) (by decide) eX12_init_428 ?_
  refine C_putF (G0 _ _ (by decide) (by decide)) K hin ho ffX12_169 rfl rfl (by exact Nat.le_of_ble_eq_true rfl) eX12_init_430 ?_
  refine N_aload_n (i := 0) (G0 _ _ (by decide) (by decide)) eX12_init_433 rfl rfl ?_
  refine N_sipush (n := 300) (v := (nI 300)) (G0 _ _ (by decide) (by decide)) eX12_init_434 rfl ?_
  refine C_newarr (ty := .int) (i := 0) (atype := .int) (N := 300) (z := (300, .inl (fun _ => 0))) (G0 _ _ (by decide) (by decide)) K rfl rfl (fun _ h => h) aw_I (by decide) (by decide) (by decide) (fun _ => rfl) (by decide) (by decide) eX12_init_437 ?_
  refine C_putF (G0 _ _ (by decide) (by decide)) K hin ho ffX12_172 rfl rfl (by exact Nat.le_of_ble_eq_true rfl) eX12_init_439 ?_
  refine N_iconst (n := 0) (v := (nI 0)) (G0 _ _ (by decide) (by decide)) eX12_init_442 rfl ?_
  refine N_istoreA_n (i := 1) (L' := [some (.ref o), some (.int (nI 0))]) (G0 _ _ (by decide) (by decide)) rfl eX12_init_443 (by decide) rfl rfl ?_
  refine N_iload_n (i := 1) (G0 _ _ (by decide) (by decide)) eX12_init_444 rfl rfl ?_
  refine N_bipush (n := 64) (v := (nI 64)) (G0 _ _ (by decide) (by decide)) eX12_init_445 rfl ?_
  refine N_geF (G0 _ _ (by decide) (by decide)) eX12_init_447 (by decide) ?_
  refine N_aload_n (i := 0) (G0 _ _ (by decide) (by decide)) eX12_init_450 rfl rfl ?_
  refine C_get (v := .ref (s.heap.size + 35)) (G0 _ _ (by decide) (by decide)) K ggX12_120 (by rfl) eX12_init_451 ?_
  refine N_iload_n (i := 1) (G0 _ _ (by decide) (by decide)) eX12_init_454 rfl rfl ?_
  refine N_iload_n (i := 1) (G0 _ _ (by decide) (by decide)) eX12_init_455 rfl rfl ?_
  refine N_bipush (n := 8) (v := (nI 8)) (G0 _ _ (by decide) (by decide)) eX12_init_456 rfl ?_
  refine N_divC (v := (nI 0)) (G0 _ _ (by decide) (by decide)) eX12_init_458 (by decide) (by decide) ?_
  refine N_iload_n (i := 1) (G0 _ _ (by decide) (by decide)) eX12_init_459 rfl rfl ?_
  refine N_bipush (n := 8) (v := (nI 8)) (G0 _ _ (by decide) (by decide)) eX12_init_460 rfl ?_
  refine N_remC (v := (nI 0)) (G0 _ _ (by decide) (by decide)) eX12_init_462 (by decide) (by decide) ?_
  refine N_neF (G0 _ _ (by decide) (by decide)) eX12_init_463 (by decide) ?_
  refine N_iconst (n := 0) (v := (nI 0)) (G0 _ _ (by decide) (by decide)) eX12_init_466 rfl ?_
  refine N_goto (G0 _ _ (by decide) (by decide)) eX12_init_467 ?_
  refine C_iast (q := 35) (n := 64) (G0 _ _ (by decide) (by decide)) K (cOk_this ho) (by rfl) (by exact vp_in_nI (by decide) (by decide)) eX12_init_472 ?_
  refine N_iincC (i := 1) (v := (nI 1)) (L' := [some (.ref o), some (.int (nI 1))]) (G0 _ _ (by decide) (by decide)) eX12_init_473 rfl (by decide) (by decide) rfl rfl ?_
  refine N_goto (G0 _ _ (by decide) (by decide)) eX12_init_476 ?_
  refine N_iload_n (i := 1) (G0 _ _ (by decide) (by decide)) eX12_init_444 rfl rfl ?_
  refine N_bipush (n := 64) (v := (nI 64)) (G0 _ _ (by decide) (by decide)) eX12_init_445 rfl ?_
  refine N_geF (G0 _ _ (by decide) (by decide)) eX12_init_447 (by decide) ?_
  refine N_aload_n (i := 0) (G0 _ _ (by decide) (by decide)) eX12_init_450 rfl rfl ?_
  refine C_get (v := .ref (s.heap.size + 35)) (G0 _ _ (by decide) (by decide)) K ggX12_120 (by rfl) eX12_init_451 ?_
  refine N_iload_n (i := 1) (G0 _ _ (by decide) (by decide)) eX12_init_454 rfl rfl ?_
  refine N_iload_n (i := 1) (G0 _ _ (by decide) (by decide)) eX12_init_455 rfl rfl ?_
  refine N_bipush (n := 8) (v := (nI 8)) (G0 _ _ (by decide) (by decide)) eX12_init_456 rfl ?_
  refine N_divC (v := (nI 0)) (G0 _ _ (by decide) (by decide)) eX12_init_458 (by decide) (by decide) ?_
  refine N_iload_n (i := 1) (G0 _ _ (by decide) (by decide)) eX12_init_459 rfl rfl ?_
  refine N_bipush (n := 8) (v := (nI 8)) (G0 _ _ (by decide) (by decide)) eX12_init_460 rfl ?_
  refine N_remC (v := (nI 1)) (G0 _ _ (by decide) (by decide)) eX12_init_462 (by decide) (by decide) ?_
  refine N_neT (G0 _ _ (by decide) (by decide)) eX12_init_463 (by decide) ?_
  refine N_bipush (n := 10) (v := (nI 10)) (G0 _ _ (by decide) (by decide)) eX12_init_470 rfl ?_
  refine C_iast (q := 35) (n := 64) (G0 _ _ (by decide) (by decide)) K (cOk_this ho) (by rfl) (by exact vp_in_nI (by decide) (by decide)) eX12_init_472 ?_
  refine N_iincC (i := 1) (v := (nI 2)) (L' := [some (.ref o), some (.int (nI 2))]) (G0 _ _ (by decide) (by decide)) eX12_init_473 rfl (by decide) (by decide) rfl rfl ?_
  refine N_goto (G0 _ _ (by decide) (by decide)) eX12_init_476 ?_
  refine N_iload_n (i := 1) (G0 _ _ (by decide) (by decide)) eX12_init_444 rfl rfl ?_
  refine N_bipush (n := 64) (v := (nI 64)) (G0 _ _ (by decide) (by decide)) eX12_init_445 rfl ?_
  refine N_geF (G0 _ _ (by decide) (by decide)) eX12_init_447 (by decide) ?_
  refine N_aload_n (i := 0) (G0 _ _ (by decide) (by decide)) eX12_init_450 rfl rfl ?_
  refine C_get (v := .ref (s.heap.size + 35)) (G0 _ _ (by decide) (by decide)) K ggX12_120 (by rfl) eX12_init_451 ?_
  refine N_iload_n (i := 1) (G0 _ _ (by decide) (by decide)) eX12_init_454 rfl rfl ?_
  refine N_iload_n (i := 1) (G0 _ _ (by decide) (by decide)) eX12_init_455 rfl rfl ?_
  refine N_bipush (n := 8) (v := (nI 8)) (G0 _ _ (by decide) (by decide)) eX12_init_456 rfl ?_
  refine N_divC (v := (nI 0)) (G0 _ _ (by decide) (by decide)) eX12_init_458 (by decide) (by decide) ?_
  refine N_iload_n (i := 1) (G0 _ _ (by decide) (by decide)) eX12_init_459 rfl rfl ?_
  refine N_bipush (n := 8) (v := (nI 8)) (G0 _ _ (by decide) (by decide)) eX12_init_460 rfl ?_
  refine N_remC (v := (nI 2)) (G0 _ _ (by decide) (by decide)) eX12_init_462 (by decide) (by decide) ?_
  refine N_neT (G0 _ _ (by decide) (by decide)) eX12_init_463 (by decide) ?_
  refine N_bipush (n := 10) (v := (nI 10)) (G0 _ _ (by decide) (by decide)) eX12_init_470 rfl ?_
  refine C_iast (q := 35) (n := 64) (G0 _ _ (by decide) (by decide)) K (cOk_this ho) (by rfl) (by exact vp_in_nI (by decide) (by decide)) eX12_init_472 ?_
  refine N_iincC (i := 1) (v := (nI 3)) (L' := [some (.ref o), some (.int (nI 3))]) (G0 _ _ (by decide) (by decide)) eX12_init_473 rfl (by decide) (by decide) rfl rfl ?_
  refine N_goto (G0 _ _ (by decide) (by decide)) eX12_init_476 ?_
  refine N_iload_n (i := 1) (G0 _ _ (by decide) (by decide)) eX12_init_444 rfl rfl ?_
  refine N_bipush (n := 64) (v := (nI 64)) (G0 _ _ (by decide) (by decide)) eX12_init_445 rfl ?_
  refine N_geF (G0 _ _ (by decide) (by decide)) eX12_init_447 (by decide) ?_
  refine N_aload_n (i := 0) (G0 _ _ (by decide) (by decide)) eX12_init_450 rfl rfl ?_
  refine C_get (v := .ref (s.heap.size + 35)) (G0 _ _ (by decide) (by decide)) K ggX12_120 (by rfl) eX12_init_451 ?_
  refine N_iload_n (i := 1) (G0 _ _ (by decide) (by decide)) eX12_init_454 rfl rfl ?_
  refine N_iload_n (i := 1) (G0 _ _ (by decide) (by decide)) eX12_init_455 rfl rfl ?_
  refine N_bipush (n := 8) (v := (nI 8)) (G0 _ _ (by decide) (by decide)) eX12_init_456 rfl ?_
  refine N_divC (v := (nI 0)) (G0 _ _ (by decide) (by decide)) eX12_init_458 (by decide) (by decide) ?_
  refine N_iload_n (i := 1) (G0 _ _ (by decide) (by decide)) eX12_init_459 rfl rfl ?_
  refine N_bipush (n := 8) (v := (nI 8)) (G0 _ _ (by decide) (by decide)) eX12_init_460 rfl ?_
  refine N_remC (v := (nI 3)) (G0 _ _ (by decide) (by decide)) eX12_init_462 (by decide) (by decide) ?_
  refine N_neT (G0 _ _ (by decide) (by decide)) eX12_init_463 (by decide) ?_
  refine N_bipush (n := 10) (v := (nI 10)) (G0 _ _ (by decide) (by decide)) eX12_init_470 rfl ?_
  refine C_iast (q := 35) (n := 64) (G0 _ _ (by decide) (by decide)) K (cOk_this ho) (by rfl) (by exact vp_in_nI (by decide) (by decide)) eX12_init_472 ?_
  refine N_iincC (i := 1) (v := (nI 4)) (L' := [some (.ref o), some (.int (nI 4))]) (G0 _ _ (by decide) (by decide)) eX12_init_473 rfl (by decide) (by decide) rfl rfl ?_
  refine N_goto (G0 _ _ (by decide) (by decide)) eX12_init_476 ?_
  refine N_iload_n (i := 1) (G0 _ _ (by decide) (by decide)) eX12_init_444 rfl rfl ?_
  refine N_bipush (n := 64) (v := (nI 64)) (G0 _ _ (by decide) (by decide)) eX12_init_445 rfl ?_
  refine N_geF (G0 _ _ (by decide) (by decide)) eX12_init_447 (by decide) ?_
  refine N_aload_n (i := 0) (G0 _ _ (by decide) (by decide)) eX12_init_450 rfl rfl ?_
  refine C_get (v := .ref (s.heap.size + 35)) (G0 _ _ (by decide) (by decide)) K ggX12_120 (by rfl) eX12_init_451 ?_
  refine N_iload_n (i := 1) (G0 _ _ (by decide) (by decide)) eX12_init_454 rfl rfl ?_
  refine N_iload_n (i := 1) (G0 _ _ (by decide) (by decide)) eX12_init_455 rfl rfl ?_
  refine N_bipush (n := 8) (v := (nI 8)) (G0 _ _ (by decide) (by decide)) eX12_init_456 rfl ?_
  refine N_divC (v := (nI 0)) (G0 _ _ (by decide) (by decide)) eX12_init_458 (by decide) (by decide) ?_
  refine N_iload_n (i := 1) (G0 _ _ (by decide) (by decide)) eX12_init_459 rfl rfl ?_
  refine N_bipush (n := 8) (v := (nI 8)) (G0 _ _ (by decide) (by decide)) eX12_init_460 rfl ?_
  refine N_remC (v := (nI 4)) (G0 _ _ (by decide) (by decide)) eX12_init_462 (by decide) (by decide) ?_
  refine N_neT (G0 _ _ (by decide) (by decide)) eX12_init_463 (by decide) ?_
  refine N_bipush (n := 10) (v := (nI 10)) (G0 _ _ (by decide) (by decide)) eX12_init_470 rfl ?_
  refine C_iast (q := 35) (n := 64) (G0 _ _ (by decide) (by decide)) K (cOk_this ho) (by rfl) (by exact vp_in_nI (by decide) (by decide)) eX12_init_472 ?_
  refine N_iincC (i := 1) (v := (nI 5)) (L' := [some (.ref o), some (.int (nI 5))]) (G0 _ _ (by decide) (by decide)) eX12_init_473 rfl (by decide) (by decide) rfl rfl ?_
  refine N_goto (G0 _ _ (by decide) (by decide)) eX12_init_476 ?_
  refine N_iload_n (i := 1) (G0 _ _ (by decide) (by decide)) eX12_init_444 rfl rfl ?_
  refine N_bipush (n := 64) (v := (nI 64)) (G0 _ _ (by decide) (by decide)) eX12_init_445 rfl ?_
  refine N_geF (G0 _ _ (by decide) (by decide)) eX12_init_447 (by decide) ?_
  refine N_aload_n (i := 0) (G0 _ _ (by decide) (by decide)) eX12_init_450 rfl rfl ?_
  refine C_get (v := .ref (s.heap.size + 35)) (G0 _ _ (by decide) (by decide)) K ggX12_120 (by rfl) eX12_init_451 ?_
  refine N_iload_n (i := 1) (G0 _ _ (by decide) (by decide)) eX12_init_454 rfl rfl ?_
  refine N_iload_n (i := 1) (G0 _ _ (by decide) (by decide)) eX12_init_455 rfl rfl ?_
  refine N_bipush (n := 8) (v := (nI 8)) (G0 _ _ (by decide) (by decide)) eX12_init_456 rfl ?_
  refine N_divC (v := (nI 0)) (G0 _ _ (by decide) (by decide)) eX12_init_458 (by decide) (by decide) ?_
  refine N_iload_n (i := 1) (G0 _ _ (by decide) (by decide)) eX12_init_459 rfl rfl ?_
  refine N_bipush (n := 8) (v := (nI 8)) (G0 _ _ (by decide) (by decide)) eX12_init_460 rfl ?_
  refine N_remC (v := (nI 5)) (G0 _ _ (by decide) (by decide)) eX12_init_462 (by decide) (by decide) ?_
  refine N_neT (G0 _ _ (by decide) (by decide)) eX12_init_463 (by decide) ?_
  refine N_bipush (n := 10) (v := (nI 10)) (G0 _ _ (by decide) (by decide)) eX12_init_470 rfl ?_
  refine C_iast (q := 35) (n := 64) (G0 _ _ (by decide) (by decide)) K (cOk_this ho) (by rfl) (by exact vp_in_nI (by decide) (by decide)) eX12_init_472 ?_
  refine N_iincC (i := 1) (v := (nI 6)) (L' := [some (.ref o), some (.int (nI 6))]) (G0 _ _ (by decide) (by decide)) eX12_init_473 rfl (by decide) (by decide) rfl rfl ?_
  refine N_goto (G0 _ _ (by decide) (by decide)) eX12_init_476 ?_
  refine N_iload_n (i := 1) (G0 _ _ (by decide) (by decide)) eX12_init_444 rfl rfl ?_
  refine N_bipush (n := 64) (v := (nI 64)) (G0 _ _ (by decide) (by decide)) eX12_init_445 rfl ?_
  refine N_geF (G0 _ _ (by decide) (by decide)) eX12_init_447 (by decide) ?_
  refine N_aload_n (i := 0) (G0 _ _ (by decide) (by decide)) eX12_init_450 rfl rfl ?_
  refine C_get (v := .ref (s.heap.size + 35)) (G0 _ _ (by decide) (by decide)) K ggX12_120 (by rfl) eX12_init_451 ?_
  refine N_iload_n (i := 1) (G0 _ _ (by decide) (by decide)) eX12_init_454 rfl rfl ?_
  refine N_iload_n (i := 1) (G0 _ _ (by decide) (by decide)) eX12_init_455 rfl rfl ?_
  refine N_bipush (n := 8) (v := (nI 8)) (G0 _ _ (by decide) (by decide)) eX12_init_456 rfl ?_
  refine N_divC (v := (nI 0)) (G0 _ _ (by decide) (by decide)) eX12_init_458 (by decide) (by decide) ?_
  refine N_iload_n (i := 1) (G0 _ _ (by decide) (by decide)) eX12_init_459 rfl rfl ?_
  refine N_bipush (n := 8) (v := (nI 8)) (G0 _ _ (by decide) (by decide)) eX12_init_460 rfl ?_
  refine N_remC (v := (nI 6)) (G0 _ _ (by decide) (by decide)) eX12_init_462 (by decide) (by decide) ?_
  refine N_neT (G0 _ _ (by decide) (by decide)) eX12_init_463 (by decide) ?_
  refine N_bipush (n := 10) (v := (nI 10)) (G0 _ _ (by decide) (by decide)) eX12_init_470 rfl ?_
  refine C_iast (q := 35) (n := 64) (G0 _ _ (by decide) (by decide)) K (cOk_this ho) (by rfl) (by exact vp_in_nI (by decide) (by decide)) eX12_init_472 ?_
  refine N_iincC (i := 1) (v := (nI 7)) (L' := [some (.ref o), some (.int (nI 7))]) (G0 _ _ (by decide) (by decide)) eX12_init_473 rfl (by decide) (by decide) rfl rfl ?_
  refine N_goto (G0 _ _ (by decide) (by decide)) eX12_init_476 ?_
  refine N_iload_n (i := 1) (G0 _ _ (by decide) (by decide)) eX12_init_444 rfl rfl ?_
  refine N_bipush (n := 64) (v := (nI 64)) (G0 _ _ (by decide) (by decide)) eX12_init_445 rfl ?_
  refine N_geF (G0 _ _ (by decide) (by decide)) eX12_init_447 (by decide) ?_
  refine N_aload_n (i := 0) (G0 _ _ (by decide) (by decide)) eX12_init_450 rfl rfl ?_
  refine C_get (v := .ref (s.heap.size + 35)) (G0 _ _ (by decide) (by decide)) K ggX12_120 (by rfl) eX12_init_451 ?_
  refine N_iload_n (i := 1) (G0 _ _ (by decide) (by decide)) eX12_init_454 rfl rfl ?_
  refine N_iload_n (i := 1) (G0 _ _ (by decide) (by decide)) eX12_init_455 rfl rfl ?_
  refine N_bipush (n := 8) (v := (nI 8)) (G0 _ _ (by decide) (by decide)) eX12_init_456 rfl ?_
  refine N_divC (v := (nI 0)) (G0 _ _ (by decide) (by decide)) eX12_init_458 (by decide) (by decide) ?_
  refine N_iload_n (i := 1) (G0 _ _ (by decide) (by decide)) eX12_init_459 rfl rfl ?_
  refine N_bipush (n := 8) (v := (nI 8)) (G0 _ _ (by decide) (by decide)) eX12_init_460 rfl ?_
  refine N_remC (v := (nI 7)) (G0 _ _ (by decide) (by decide)) eX12_init_462 (by decide) (by decide) ?_
  refine N_neT (G0 _ _ (by decide) (by decide)) eX12_init_463 (by decide) ?_
  refine N_bipush (n := 10) (v := (nI 10)) (G0 _ _ (by decide) (by decide)) eX12_init_470 rfl ?_
  refine C_iast (q := 35) (n := 64) (G0 _ _ (by decide) (by decide)) K (cOk_this ho) (by rfl) (by exact vp_in_nI (by decide) (by decide)) eX12_init_472 ?_
  refine N_iincC (i := 1) (v := (nI 8)) (L' := [some (.ref o), some (.int (nI 8))]) (G0 _ _ (by decide) (by decide)) eX12_init_473 rfl (by decide) (by decide) rfl rfl ?_
  refine N_goto (G0 _ _ (by decide) (by decide)) eX12_init_476 ?_
  refine N_iload_n (i := 1) (G0 _ _ (by decide) (by decide)) eX12_init_444 rfl rfl ?_
  refine N_bipush (n := 64) (v := (nI 64)) (G0 _ _ (by decide) (by decide)) eX12_init_445 rfl ?_
  refine N_geF (G0 _ _ (by decide) (by decide)) eX12_init_447 (by decide) ?_
  refine N_aload_n (i := 0) (G0 _ _ (by decide) (by decide)) eX12_init_450 rfl rfl ?_
  refine C_get (v := .ref (s.heap.size + 35)) (G0 _ _ (by decide) (by decide)) K ggX12_120 (by rfl) eX12_init_451 ?_
  refine N_iload_n (i := 1) (G0 _ _ (by decide) (by decide)) eX12_init_454 rfl rfl ?_
  refine N_iload_n (i := 1) (G0 _ _ (by decide) (by decide)) eX12_init_455 rfl rfl ?_
  refine N_bipush (n := 8) (v := (nI 8)) (G0 _ _ (by decide) (by decide)) eX12_init_456 rfl ?_
  refine N_divC (v := (nI 1)) (G0 _ _ (by decide) (by decide)) eX12_init_458 (by decide) (by decide) ?_
  refine N_iload_n (i := 1) (G0 _ _ (by decide) (by decide)) eX12_init_459 rfl rfl ?_
  refine N_bipush (n := 8) (v := (nI 8)) (G0 _ _ (by decide) (by decide)) eX12_init_460 rfl ?_
  refine N_remC (v := (nI 0)) (G0 _ _ (by decide) (by decide)) eX12_init_462 (by decide) (by decide) ?_
  refine N_neT (G0 _ _ (by decide) (by decide)) eX12_init_463 (by decide) ?_
  refine N_bipush (n := 10) (v := (nI 10)) (G0 _ _ (by decide) (by decide)) eX12_init_470 rfl ?_
  refine C_iast (q := 35) (n := 64) (G0 _ _ (by decide) (by decide)) K (cOk_this ho) (by rfl) (by exact vp_in_nI (by decide) (by decide)) eX12_init_472 ?_
  refine N_iincC (i := 1) (v := (nI 9)) (L' := [some (.ref o), some (.int (nI 9))]) (G0 _ _ (by decide) (by decide)) eX12_init_473 rfl (by decide) (by decide) rfl rfl ?_
  refine N_goto (G0 _ _ (by decide) (by decide)) eX12_init_476 ?_
  refine N_iload_n (i := 1) (G0 _ _ (by decide) (by decide)) eX12_init_444 rfl rfl ?_
  refine N_bipush (n := 64) (v := (nI 64)) (G0 _ _ (by decide) (by decide)) eX12_init_445 rfl ?_
  refine N_geF (G0 _ _ (by decide) (by decide)) eX12_init_447 (by decide) ?_
  refine N_aload_n (i := 0) (G0 _ _ (by decide) (by decide)) eX12_init_450 rfl rfl ?_
  refine C_get (v := .ref (s.heap.size + 35)) (G0 _ _ (by decide) (by decide)) K ggX12_120 (by rfl) eX12_init_451 ?_
  refine N_iload_n (i := 1) (G0 _ _ (by decide) (by decide)) eX12_init_454 rfl rfl ?_
  refine N_iload_n (i := 1) (G0 _ _ (by decide) (by decide)) eX12_init_455 rfl rfl ?_
  refine N_bipush (n := 8) (v := (nI 8)) (G0 _ _ (by decide) (by decide)) eX12_init_456 rfl ?_
  refine N_divC (v := (nI 1)) (G0 _ _ (by decide) (by decide)) eX12_init_458 (by decide) (by decide) ?_
  refine N_iload_n (i := 1) (G0 _ _ (by decide) (by decide)) eX12_init_459 rfl rfl ?_
  refine N_bipush (n := 8) (v := (nI 8)) (G0 _ _ (by decide) (by decide)) eX12_init_460 rfl ?_
  refine N_remC (v := (nI 1)) (G0 _ _ (by decide) (by decide)) eX12_init_462 (by decide) (by decide) ?_
  refine N_neF (G0 _ _ (by decide) (by decide)) eX12_init_463 (by decide) ?_
  refine N_iconst (n := 0) (v := (nI 0)) (G0 _ _ (by decide) (by decide)) eX12_init_466 rfl ?_
  refine N_goto (G0 _ _ (by decide) (by decide)) eX12_init_467 ?_
  refine C_iast (q := 35) (n := 64) (G0 _ _ (by decide) (by decide)) K (cOk_this ho) (by rfl) (by exact vp_in_nI (by decide) (by decide)) eX12_init_472 ?_
  refine N_iincC (i := 1) (v := (nI 10)) (L' := [some (.ref o), some (.int (nI 10))]) (G0 _ _ (by decide) (by decide)) eX12_init_473 rfl (by decide) (by decide) rfl rfl ?_
  refine N_goto (G0 _ _ (by decide) (by decide)) eX12_init_476 ?_
  refine N_iload_n (i := 1) (G0 _ _ (by decide) (by decide)) eX12_init_444 rfl rfl ?_
  refine N_bipush (n := 64) (v := (nI 64)) (G0 _ _ (by decide) (by decide)) eX12_init_445 rfl ?_
  refine N_geF (G0 _ _ (by decide) (by decide)) eX12_init_447 (by decide) ?_
  refine N_aload_n (i := 0) (G0 _ _ (by decide) (by decide)) eX12_init_450 rfl rfl ?_
  refine C_get (v := .ref (s.heap.size + 35)) (G0 _ _ (by decide) (by decide)) K ggX12_120 (by rfl) eX12_init_451 ?_
  refine N_iload_n (i := 1) (G0 _ _ (by decide) (by decide)) eX12_init_454 rfl rfl ?_
  refine N_iload_n (i := 1) (G0 _ _ (by decide) (by decide)) eX12_init_455 rfl rfl ?_
  refine N_bipush (n := 8) (v := (nI 8)) (G0 _ _ (by decide) (by decide)) eX12_init_456 rfl ?_
  refine N_divC (v := (nI 1)) (G0 _ _ (by decide) (by decide)) eX12_init_458 (by decide) (by decide) ?_
  refine N_iload_n (i := 1) (G0 _ _ (by decide) (by decide)) eX12_init_459 rfl rfl ?_
  refine N_bipush (n := 8) (v := (nI 8)) (G0 _ _ (by decide) (by decide)) eX12_init_460 rfl ?_
  refine N_remC (v := (nI 2)) (G0 _ _ (by decide) (by decide)) eX12_init_462 (by decide) (by decide) ?_
  refine N_neT (G0 _ _ (by decide) (by decide)) eX12_init_463 (by decide) ?_
  refine N_bipush (n := 10) (v := (nI 10)) (G0 _ _ (by decide) (by decide)) eX12_init_470 rfl ?_
  refine C_iast (q := 35) (n := 64) (G0 _ _ (by decide) (by decide)) K (cOk_this ho) (by rfl) (by exact vp_in_nI (by decide) (by decide)) eX12_init_472 ?_
  refine N_iincC (i := 1) (v := (nI 11)) (L' := [some (.ref o), some (.int (nI 11))]) (G0 _ _ (by decide) (by decide)) eX12_init_473 rfl (by decide) (by decide) rfl rfl ?_
  refine N_goto (G0 _ _ (by decide) (by decide)) eX12_init_476 ?_
  refine N_iload_n (i := 1) (G0 _ _ (by decide) (by decide)) eX12_init_444 rfl rfl ?_
  refine N_bipush (n := 64) (v := (nI 64)) (G0 _ _ (by decide) (by decide)) eX12_init_445 rfl ?_
  refine N_geF (G0 _ _ (by decide) (by decide)) eX12_init_447 (by decide) ?_
  refine N_aload_n (i := 0) (G0 _ _ (by decide) (by decide)) eX12_init_450 rfl rfl ?_
  refine C_get (v := .ref (s.heap.size + 35)) (G0 _ _ (by decide) (by decide)) K ggX12_120 (by rfl) eX12_init_451 ?_
  refine N_iload_n (i := 1) (G0 _ _ (by decide) (by decide)) eX12_init_454 rfl rfl ?_
  refine N_iload_n (i := 1) (G0 _ _ (by decide) (by decide)) eX12_init_455 rfl rfl ?_
  refine N_bipush (n := 8) (v := (nI 8)) (G0 _ _ (by decide) (by decide)) eX12_init_456 rfl ?_
  refine N_divC (v := (nI 1)) (G0 _ _ (by decide) (by decide)) eX12_init_458 (by decide) (by decide) ?_
  refine N_iload_n (i := 1) (G0 _ _ (by decide) (by decide)) eX12_init_459 rfl rfl ?_
  refine N_bipush (n := 8) (v := (nI 8)) (G0 _ _ (by decide) (by decide)) eX12_init_460 rfl ?_
  refine N_remC (v := (nI 3)) (G0 _ _ (by decide) (by decide)) eX12_init_462 (by decide) (by decide) ?_
  refine N_neT (G0 _ _ (by decide) (by decide)) eX12_init_463 (by decide) ?_
  refine N_bipush (n := 10) (v := (nI 10)) (G0 _ _ (by decide) (by decide)) eX12_init_470 rfl ?_
  refine C_iast (q := 35) (n := 64) (G0 _ _ (by decide) (by decide)) K (cOk_this ho) (by rfl) (by exact vp_in_nI (by decide) (by decide)) eX12_init_472 ?_
  refine N_iincC (i := 1) (v := (nI 12)) (L' := [some (.ref o), some (.int (nI 12))]) (G0 _ _ (by decide) (by decide)) eX12_init_473 rfl (by decide) (by decide) rfl rfl ?_
  refine N_goto (G0 _ _ (by decide) (by decide)) eX12_init_476 ?_
  refine N_iload_n (i := 1) (G0 _ _ (by decide) (by decide)) eX12_init_444 rfl rfl ?_
  refine N_bipush (n := 64) (v := (nI 64)) (G0 _ _ (by decide) (by decide)) eX12_init_445 rfl ?_
  refine N_geF (G0 _ _ (by decide) (by decide)) eX12_init_447 (by decide) ?_
  refine N_aload_n (i := 0) (G0 _ _ (by decide) (by decide)) eX12_init_450 rfl rfl ?_
  refine C_get (v := .ref (s.heap.size + 35)) (G0 _ _ (by decide) (by decide)) K ggX12_120 (by rfl) eX12_init_451 ?_
  refine N_iload_n (i := 1) (G0 _ _ (by decide) (by decide)) eX12_init_454 rfl rfl ?_
  refine N_iload_n (i := 1) (G0 _ _ (by decide) (by decide)) eX12_init_455 rfl rfl ?_
  refine N_bipush (n := 8) (v := (nI 8)) (G0 _ _ (by decide) (by decide)) eX12_init_456 rfl ?_
  refine N_divC (v := (nI 1)) (G0 _ _ (by decide) (by decide)) eX12_init_458 (by decide) (by decide) ?_
  refine N_iload_n (i := 1) (G0 _ _ (by decide) (by decide)) eX12_init_459 rfl rfl ?_
  refine N_bipush (n := 8) (v := (nI 8)) (G0 _ _ (by decide) (by decide)) eX12_init_460 rfl ?_
  refine N_remC (v := (nI 4)) (G0 _ _ (by decide) (by decide)) eX12_init_462 (by decide) (by decide) ?_
  refine N_neT (G0 _ _ (by decide) (by decide)) eX12_init_463 (by decide) ?_
  refine N_bipush (n := 10) (v := (nI 10)) (G0 _ _ (by decide) (by decide)) eX12_init_470 rfl ?_
  refine C_iast (q := 35) (n := 64) (G0 _ _ (by decide) (by decide)) K (cOk_this ho) (by rfl) (by exact vp_in_nI (by decide) (by decide)) eX12_init_472 ?_
  refine N_iincC (i := 1) (v := (nI 13)) (L' := [some (.ref o), some (.int (nI 13))]) (G0 _ _ (by decide) (by decide)) eX12_init_473 rfl (by decide) (by decide) rfl rfl ?_
  refine N_goto (G0 _ _ (by decide) (by decide)) eX12_init_476 ?_
  refine N_iload_n (i := 1) (G0 _ _ (by decide) (by decide)) eX12_init_444 rfl rfl ?_
  refine N_bipush (n := 64) (v := (nI 64)) (G0 _ _ (by decide) (by decide)) eX12_init_445 rfl ?_
  refine N_geF (G0 _ _ (by decide) (by decide)) eX12_init_447 (by decide) ?_
  refine N_aload_n (i := 0) (G0 _ _ (by decide) (by decide)) eX12_init_450 rfl rfl ?_
  refine C_get (v := .ref (s.heap.size + 35)) (G0 _ _ (by decide) (by decide)) K ggX12_120 (by rfl) eX12_init_451 ?_
  refine N_iload_n (i := 1) (G0 _ _ (by decide) (by decide)) eX12_init_454 rfl rfl ?_
  refine N_iload_n (i := 1) (G0 _ _ (by decide) (by decide)) eX12_init_455 rfl rfl ?_
  refine N_bipush (n := 8) (v := (nI 8)) (G0 _ _ (by decide) (by decide)) eX12_init_456 rfl ?_
  refine N_divC (v := (nI 1)) (G0 _ _ (by decide) (by decide)) eX12_init_458 (by decide) (by decide) ?_
  refine N_iload_n (i := 1) (G0 _ _ (by decide) (by decide)) eX12_init_459 rfl rfl ?_
  refine N_bipush (n := 8) (v := (nI 8)) (G0 _ _ (by decide) (by decide)) eX12_init_460 rfl ?_
  refine N_remC (v := (nI 5)) (G0 _ _ (by decide) (by decide)) eX12_init_462 (by decide) (by decide) ?_
  refine N_neT (G0 _ _ (by decide) (by decide)) eX12_init_463 (by decide) ?_
  refine N_bipush (n := 10) (v := (nI 10)) (G0 _ _ (by decide) (by decide)) eX12_init_470 rfl ?_
  refine C_iast (q := 35) (n := 64) (G0 _ _ (by decide) (by decide)) K (cOk_this ho) (by rfl) (by exact vp_in_nI (by decide) (by decide)) eX12_init_472 ?_
  refine N_iincC (i := 1) (v := (nI 14)) (L' := [some (.ref o), some (.int (nI 14))]) (G0 _ _ (by decide) (by decide)) eX12_init_473 rfl (by decide) (by decide) rfl rfl ?_
  refine N_goto (G0 _ _ (by decide) (by decide)) eX12_init_476 ?_
  refine N_iload_n (i := 1) (G0 _ _ (by decide) (by decide)) eX12_init_444 rfl rfl ?_
  refine N_bipush (n := 64) (v := (nI 64)) (G0 _ _ (by decide) (by decide)) eX12_init_445 rfl ?_
  refine N_geF (G0 _ _ (by decide) (by decide)) eX12_init_447 (by decide) ?_
  refine N_aload_n (i := 0) (G0 _ _ (by decide) (by decide)) eX12_init_450 rfl rfl ?_
  refine C_get (v := .ref (s.heap.size + 35)) (G0 _ _ (by decide) (by decide)) K ggX12_120 (by rfl) eX12_init_451 ?_
  refine N_iload_n (i := 1) (G0 _ _ (by decide) (by decide)) eX12_init_454 rfl rfl ?_
  refine N_iload_n (i := 1) (G0 _ _ (by decide) (by decide)) eX12_init_455 rfl rfl ?_
  refine N_bipush (n := 8) (v := (nI 8)) (G0 _ _ (by decide) (by decide)) eX12_init_456 rfl ?_
  refine N_divC (v := (nI 1)) (G0 _ _ (by decide) (by decide)) eX12_init_458 (by decide) (by decide) ?_
  refine N_iload_n (i := 1) (G0 _ _ (by decide) (by decide)) eX12_init_459 rfl rfl ?_
  refine N_bipush (n := 8) (v := (nI 8)) (G0 _ _ (by decide) (by decide)) eX12_init_460 rfl ?_
  refine N_remC (v := (nI 6)) (G0 _ _ (by decide) (by decide)) eX12_init_462 (by decide) (by decide) ?_
  refine N_neT (G0 _ _ (by decide) (by decide)) eX12_init_463 (by decide) ?_
  refine N_bipush (n := 10) (v := (nI 10)) (G0 _ _ (by decide) (by decide)) eX12_init_470 rfl ?_
  refine C_iast (q := 35) (n := 64) (G0 _ _ (by decide) (by decide)) K (cOk_this ho) (by rfl) (by exact vp_in_nI (by decide) (by decide)) eX12_init_472 ?_
  refine N_iincC (i := 1) (v := (nI 15)) (L' := [some (.ref o), some (.int (nI 15))]) (G0 _ _ (by decide) (by decide)) eX12_init_473 rfl (by decide) (by decide) rfl rfl ?_
  refine N_goto (G0 _ _ (by decide) (by decide)) eX12_init_476 ?_
  refine N_iload_n (i := 1) (G0 _ _ (by decide) (by decide)) eX12_init_444 rfl rfl ?_
  refine N_bipush (n := 64) (v := (nI 64)) (G0 _ _ (by decide) (by decide)) eX12_init_445 rfl ?_
  refine N_geF (G0 _ _ (by decide) (by decide)) eX12_init_447 (by decide) ?_
  refine N_aload_n (i := 0) (G0 _ _ (by decide) (by decide)) eX12_init_450 rfl rfl ?_
  refine C_get (v := .ref (s.heap.size + 35)) (G0 _ _ (by decide) (by decide)) K ggX12_120 (by rfl) eX12_init_451 ?_
  refine N_iload_n (i := 1) (G0 _ _ (by decide) (by decide)) eX12_init_454 rfl rfl ?_
  refine N_iload_n (i := 1) (G0 _ _ (by decide) (by decide)) eX12_init_455 rfl rfl ?_
  refine N_bipush (n := 8) (v := (nI 8)) (G0 _ _ (by decide) (by decide)) eX12_init_456 rfl ?_
  refine N_divC (v := (nI 1)) (G0 _ _ (by decide) (by decide)) eX12_init_458 (by decide) (by decide) ?_
  refine N_iload_n (i := 1) (G0 _ _ (by decide) (by decide)) eX12_init_459 rfl rfl ?_
  refine N_bipush (n := 8) (v := (nI 8)) (G0 _ _ (by decide) (by decide)) eX12_init_460 rfl ?_
  refine N_remC (v := (nI 7)) (G0 _ _ (by decide) (by decide)) eX12_init_462 (by decide) (by decide) ?_
  refine N_neT (G0 _ _ (by decide) (by decide)) eX12_init_463 (by decide) ?_
  refine N_bipush (n := 10) (v := (nI 10)) (G0 _ _ (by decide) (by decide)) eX12_init_470 rfl ?_
  refine C_iast (q := 35) (n := 64) (G0 _ _ (by decide) (by decide)) K (cOk_this ho) (by rfl) (by exact vp_in_nI (by decide) (by decide)) eX12_init_472 ?_
  refine N_iincC (i := 1) (v := (nI 16)) (L' := [some (.ref o), some (.int (nI 16))]) (G0 _ _ (by decide) (by decide)) eX12_init_473 rfl (by decide) (by decide) rfl rfl ?_
  refine N_goto (G0 _ _ (by decide) (by decide)) eX12_init_476 ?_
  refine N_iload_n (i := 1) (G0 _ _ (by decide) (by decide)) eX12_init_444 rfl rfl ?_
  refine N_bipush (n := 64) (v := (nI 64)) (G0 _ _ (by decide) (by decide)) eX12_init_445 rfl ?_
  refine N_geF (G0 _ _ (by decide) (by decide)) eX12_init_447 (by decide) ?_
  refine N_aload_n (i := 0) (G0 _ _ (by decide) (by decide)) eX12_init_450 rfl rfl ?_
  refine C_get (v := .ref (s.heap.size + 35)) (G0 _ _ (by decide) (by decide)) K ggX12_120 (by rfl) eX12_init_451 ?_
  refine N_iload_n (i := 1) (G0 _ _ (by decide) (by decide)) eX12_init_454 rfl rfl ?_
  refine N_iload_n (i := 1) (G0 _ _ (by decide) (by decide)) eX12_init_455 rfl rfl ?_
  refine N_bipush (n := 8) (v := (nI 8)) (G0 _ _ (by decide) (by decide)) eX12_init_456 rfl ?_
  refine N_divC (v := (nI 2)) (G0 _ _ (by decide) (by decide)) eX12_init_458 (by decide) (by decide) ?_
  refine N_iload_n (i := 1) (G0 _ _ (by decide) (by decide)) eX12_init_459 rfl rfl ?_
  refine N_bipush (n := 8) (v := (nI 8)) (G0 _ _ (by decide) (by decide)) eX12_init_460 rfl ?_
  refine N_remC (v := (nI 0)) (G0 _ _ (by decide) (by decide)) eX12_init_462 (by decide) (by decide) ?_
  refine N_neT (G0 _ _ (by decide) (by decide)) eX12_init_463 (by decide) ?_
  refine N_bipush (n := 10) (v := (nI 10)) (G0 _ _ (by decide) (by decide)) eX12_init_470 rfl ?_
  refine C_iast (q := 35) (n := 64) (G0 _ _ (by decide) (by decide)) K (cOk_this ho) (by rfl) (by exact vp_in_nI (by decide) (by decide)) eX12_init_472 ?_
  refine N_iincC (i := 1) (v := (nI 17)) (L' := [some (.ref o), some (.int (nI 17))]) (G0 _ _ (by decide) (by decide)) eX12_init_473 rfl (by decide) (by decide) rfl rfl ?_
  refine N_goto (G0 _ _ (by decide) (by decide)) eX12_init_476 ?_
  refine N_iload_n (i := 1) (G0 _ _ (by decide) (by decide)) eX12_init_444 rfl rfl ?_
  refine N_bipush (n := 64) (v := (nI 64)) (G0 _ _ (by decide) (by decide)) eX12_init_445 rfl ?_
  refine N_geF (G0 _ _ (by decide) (by decide)) eX12_init_447 (by decide) ?_
  refine N_aload_n (i := 0) (G0 _ _ (by decide) (by decide)) eX12_init_450 rfl rfl ?_
  refine C_get (v := .ref (s.heap.size + 35)) (G0 _ _ (by decide) (by decide)) K ggX12_120 (by rfl) eX12_init_451 ?_
  refine N_iload_n (i := 1) (G0 _ _ (by decide) (by decide)) eX12_init_454 rfl rfl ?_
  refine N_iload_n (i := 1) (G0 _ _ (by decide) (by decide)) eX12_init_455 rfl rfl ?_
  refine N_bipush (n := 8) (v := (nI 8)) (G0 _ _ (by decide) (by decide)) eX12_init_456 rfl ?_
  refine N_divC (v := (nI 2)) (G0 _ _ (by decide) (by decide)) eX12_init_458 (by decide) (by decide) ?_
  refine N_iload_n (i := 1) (G0 _ _ (by decide) (by decide)) eX12_init_459 rfl rfl ?_
  refine N_bipush (n := 8) (v := (nI 8)) (G0 _ _ (by decide) (by decide)) eX12_init_460 rfl ?_
  refine N_remC (v := (nI 1)) (G0 _ _ (by decide) (by decide)) eX12_init_462 (by decide) (by decide) ?_
  refine N_neT (G0 _ _ (by decide) (by decide)) eX12_init_463 (by decide) ?_
  refine N_bipush (n := 10) (v := (nI 10)) (G0 _ _ (by decide) (by decide)) eX12_init_470 rfl ?_
  refine C_iast (q := 35) (n := 64) (G0 _ _ (by decide) (by decide)) K (cOk_this ho) (by rfl) (by exact vp_in_nI (by decide) (by decide)) eX12_init_472 ?_
  refine N_iincC (i := 1) (v := (nI 18)) (L' := [some (.ref o), some (.int (nI 18))]) (G0 _ _ (by decide) (by decide)) eX12_init_473 rfl (by decide) (by decide) rfl rfl ?_
  refine N_goto (G0 _ _ (by decide) (by decide)) eX12_init_476 ?_
  refine N_iload_n (i := 1) (G0 _ _ (by decide) (by decide)) eX12_init_444 rfl rfl ?_
  refine N_bipush (n := 64) (v := (nI 64)) (G0 _ _ (by decide) (by decide)) eX12_init_445 rfl ?_
  refine N_geF (G0 _ _ (by decide) (by decide)) eX12_init_447 (by decide) ?_
  refine N_aload_n (i := 0) (G0 _ _ (by decide) (by decide)) eX12_init_450 rfl rfl ?_
  refine C_get (v := .ref (s.heap.size + 35)) (G0 _ _ (by decide) (by decide)) K ggX12_120 (by rfl) eX12_init_451 ?_
  refine N_iload_n (i := 1) (G0 _ _ (by decide) (by decide)) eX12_init_454 rfl rfl ?_
  refine N_iload_n (i := 1) (G0 _ _ (by decide) (by decide)) eX12_init_455 rfl rfl ?_
  refine N_bipush (n := 8) (v := (nI 8)) (G0 _ _ (by decide) (by decide)) eX12_init_456 rfl ?_
  refine N_divC (v := (nI 2)) (G0 _ _ (by decide) (by decide)) eX12_init_458 (by decide) (by decide) ?_
  refine N_iload_n (i := 1) (G0 _ _ (by decide) (by decide)) eX12_init_459 rfl rfl ?_
  refine N_bipush (n := 8) (v := (nI 8)) (G0 _ _ (by decide) (by decide)) eX12_init_460 rfl ?_
  refine N_remC (v := (nI 2)) (G0 _ _ (by decide) (by decide)) eX12_init_462 (by decide) (by decide) ?_
  refine N_neF (G0 _ _ (by decide) (by decide)) eX12_init_463 (by decide) ?_
  refine N_iconst (n := 0) (v := (nI 0)) (G0 _ _ (by decide) (by decide)) eX12_init_466 rfl ?_
  refine N_goto (G0 _ _ (by decide) (by decide)) eX12_init_467 ?_
  refine C_iast (q := 35) (n := 64) (G0 _ _ (by decide) (by decide)) K (cOk_this ho) (by rfl) (by exact vp_in_nI (by decide) (by decide)) eX12_init_472 ?_
  refine N_iincC (i := 1) (v := (nI 19)) (L' := [some (.ref o), some (.int (nI 19))]) (G0 _ _ (by decide) (by decide)) eX12_init_473 rfl (by decide) (by decide) rfl rfl ?_
  refine N_goto (G0 _ _ (by decide) (by decide)) eX12_init_476 ?_
  refine N_iload_n (i := 1) (G0 _ _ (by decide) (by decide)) eX12_init_444 rfl rfl ?_
  refine N_bipush (n := 64) (v := (nI 64)) (G0 _ _ (by decide) (by decide)) eX12_init_445 rfl ?_
  refine N_geF (G0 _ _ (by decide) (by decide)) eX12_init_447 (by decide) ?_
  refine N_aload_n (i := 0) (G0 _ _ (by decide) (by decide)) eX12_init_450 rfl rfl ?_
  refine C_get (v := .ref (s.heap.size + 35)) (G0 _ _ (by decide) (by decide)) K ggX12_120 (by rfl) eX12_init_451 ?_
  refine N_iload_n (i := 1) (G0 _ _ (by decide) (by decide)) eX12_init_454 rfl rfl ?_
  refine N_iload_n (i := 1) (G0 _ _ (by decide) (by decide)) eX12_init_455 rfl rfl ?_
  refine N_bipush (n := 8) (v := (nI 8)) (G0 _ _ (by decide) (by decide)) eX12_init_456 rfl ?_
  refine N_divC (v := (nI 2)) (G0 _ _ (by decide) (by decide)) eX12_init_458 (by decide) (by decide) ?_
  refine N_iload_n (i := 1) (G0 _ _ (by decide) (by decide)) eX12_init_459 rfl rfl ?_
  refine N_bipush (n := 8) (v := (nI 8)) (G0 _ _ (by decide) (by decide)) eX12_init_460 rfl ?_
  refine N_remC (v := (nI 3)) (G0 _ _ (by decide) (by decide)) eX12_init_462 (by decide) (by decide) ?_
  refine N_neT (G0 _ _ (by decide) (by decide)) eX12_init_463 (by decide) ?_
  refine N_bipush (n := 10) (v := (nI 10)) (G0 _ _ (by decide) (by decide)) eX12_init_470 rfl ?_
  refine C_iast (q := 35) (n := 64) (G0 _ _ (by decide) (by decide)) K (cOk_this ho) (by rfl) (by exact vp_in_nI (by decide) (by decide)) eX12_init_472 ?_
  refine N_iincC (i := 1) (v := (nI 20)) (L' := [some (.ref o), some (.int (nI 20))]) (G0 _ _ (by decide) (by decide)) eX12_init_473 rfl (by decide) (by decide) rfl rfl ?_
  refine N_goto (G0 _ _ (by decide) (by decide)) eX12_init_476 ?_
  refine N_iload_n (i := 1) (G0 _ _ (by decide) (by decide)) eX12_init_444 rfl rfl ?_
  refine N_bipush (n := 64) (v := (nI 64)) (G0 _ _ (by decide) (by decide)) eX12_init_445 rfl ?_
  refine N_geF (G0 _ _ (by decide) (by decide)) eX12_init_447 (by decide) ?_
  refine N_aload_n (i := 0) (G0 _ _ (by decide) (by decide)) eX12_init_450 rfl rfl ?_
  refine C_get (v := .ref (s.heap.size + 35)) (G0 _ _ (by decide) (by decide)) K ggX12_120 (by rfl) eX12_init_451 ?_
  refine N_iload_n (i := 1) (G0 _ _ (by decide) (by decide)) eX12_init_454 rfl rfl ?_
  refine N_iload_n (i := 1) (G0 _ _ (by decide) (by decide)) eX12_init_455 rfl rfl ?_
  refine N_bipush (n := 8) (v := (nI 8)) (G0 _ _ (by decide) (by decide)) eX12_init_456 rfl ?_
  refine N_divC (v := (nI 2)) (G0 _ _ (by decide) (by decide)) eX12_init_458 (by decide) (by decide) ?_
  refine N_iload_n (i := 1) (G0 _ _ (by decide) (by decide)) eX12_init_459 rfl rfl ?_
  refine N_bipush (n := 8) (v := (nI 8)) (G0 _ _ (by decide) (by decide)) eX12_init_460 rfl ?_
  refine N_remC (v := (nI 4)) (G0 _ _ (by decide) (by decide)) eX12_init_462 (by decide) (by decide) ?_
  refine N_neT (G0 _ _ (by decide) (by decide)) eX12_init_463 (by decide) ?_
  refine N_bipush (n := 10) (v := (nI 10)) (G0 _ _ (by decide) (by decide)) eX12_init_470 rfl ?_
  refine C_iast (q := 35) (n := 64) (G0 _ _ (by decide) (by decide)) K (cOk_this ho) (by rfl) (by exact vp_in_nI (by decide) (by decide)) eX12_init_472 ?_
  refine N_iincC (i := 1) (v := (nI 21)) (L' := [some (.ref o), some (.int (nI 21))]) (G0 _ _ (by decide) (by decide)) eX12_init_473 rfl (by decide) (by decide) rfl rfl ?_
  refine N_goto (G0 _ _ (by decide) (by decide)) eX12_init_476 ?_
  refine N_iload_n (i := 1) (G0 _ _ (by decide) (by decide)) eX12_init_444 rfl rfl ?_
  refine N_bipush (n := 64) (v := (nI 64)) (G0 _ _ (by decide) (by decide)) eX12_init_445 rfl ?_
  refine N_geF (G0 _ _ (by decide) (by decide)) eX12_init_447 (by decide) ?_
  refine N_aload_n (i := 0) (G0 _ _ (by decide) (by decide)) eX12_init_450 rfl rfl ?_
  refine C_get (v := .ref (s.heap.size + 35)) (G0 _ _ (by decide) (by decide)) K ggX12_120 (by rfl) eX12_init_451 ?_
  refine N_iload_n (i := 1) (G0 _ _ (by decide) (by decide)) eX12_init_454 rfl rfl ?_
  refine N_iload_n (i := 1) (G0 _ _ (by decide) (by decide)) eX12_init_455 rfl rfl ?_
  refine N_bipush (n := 8) (v := (nI 8)) (G0 _ _ (by decide) (by decide)) eX12_init_456 rfl ?_
  refine N_divC (v := (nI 2)) (G0 _ _ (by decide) (by decide)) eX12_init_458 (by decide) (by decide) ?_
  refine N_iload_n (i := 1) (G0 _ _ (by decide) (by decide)) eX12_init_459 rfl rfl ?_
  refine N_bipush (n := 8) (v := (nI 8)) (G0 _ _ (by decide) (by decide)) eX12_init_460 rfl ?_
  refine N_remC (v := (nI 5)) (G0 _ _ (by decide) (by decide)) eX12_init_462 (by decide) (by decide) ?_
  refine N_neT (G0 _ _ (by decide) (by decide)) eX12_init_463 (by decide) ?_
  refine N_bipush (n := 10) (v := (nI 10)) (G0 _ _ (by decide) (by decide)) eX12_init_470 rfl ?_
  refine C_iast (q := 35) (n := 64) (G0 _ _ (by decide) (by decide)) K (cOk_this ho) (by rfl) (by exact vp_in_nI (by decide) (by decide)) eX12_init_472 ?_
  refine N_iincC (i := 1) (v := (nI 22)) (L' := [some (.ref o), some (.int (nI 22))]) (G0 _ _ (by decide) (by decide)) eX12_init_473 rfl (by decide) (by decide) rfl rfl ?_
  refine N_goto (G0 _ _ (by decide) (by decide)) eX12_init_476 ?_
  refine N_iload_n (i := 1) (G0 _ _ (by decide) (by decide)) eX12_init_444 rfl rfl ?_
  refine N_bipush (n := 64) (v := (nI 64)) (G0 _ _ (by decide) (by decide)) eX12_init_445 rfl ?_
  refine N_geF (G0 _ _ (by decide) (by decide)) eX12_init_447 (by decide) ?_
  refine N_aload_n (i := 0) (G0 _ _ (by decide) (by decide)) eX12_init_450 rfl rfl ?_
  refine C_get (v := .ref (s.heap.size + 35)) (G0 _ _ (by decide) (by decide)) K ggX12_120 (by rfl) eX12_init_451 ?_
  refine N_iload_n (i := 1) (G0 _ _ (by decide) (by decide)) eX12_init_454 rfl rfl ?_
  refine N_iload_n (i := 1) (G0 _ _ (by decide) (by decide)) eX12_init_455 rfl rfl ?_
  refine N_bipush (n := 8) (v := (nI 8)) (G0 _ _ (by decide) (by decide)) eX12_init_456 rfl ?_
  refine N_divC (v := (nI 2)) (G0 _ _ (by decide) (by decide)) eX12_init_458 (by decide) (by decide) ?_
  refine N_iload_n (i := 1) (G0 _ _ (by decide) (by decide)) eX12_init_459 rfl rfl ?_
  refine N_bipush (n := 8) (v := (nI 8)) (G0 _ _ (by decide) (by decide)) eX12_init_460 rfl ?_
  refine N_remC (v := (nI 6)) (G0 _ _ (by decide) (by decide)) eX12_init_462 (by decide) (by decide) ?_
  refine N_neT (G0 _ _ (by decide) (by decide)) eX12_init_463 (by decide) ?_
  refine N_bipush (n := 10) (v := (nI 10)) (G0 _ _ (by decide) (by decide)) eX12_init_470 rfl ?_
  refine C_iast (q := 35) (n := 64) (G0 _ _ (by decide) (by decide)) K (cOk_this ho) (by rfl) (by exact vp_in_nI (by decide) (by decide)) eX12_init_472 ?_
  refine N_iincC (i := 1) (v := (nI 23)) (L' := [some (.ref o), some (.int (nI 23))]) (G0 _ _ (by decide) (by decide)) eX12_init_473 rfl (by decide) (by decide) rfl rfl ?_
  refine N_goto (G0 _ _ (by decide) (by decide)) eX12_init_476 ?_
  refine N_iload_n (i := 1) (G0 _ _ (by decide) (by decide)) eX12_init_444 rfl rfl ?_
  refine N_bipush (n := 64) (v := (nI 64)) (G0 _ _ (by decide) (by decide)) eX12_init_445 rfl ?_
  refine N_geF (G0 _ _ (by decide) (by decide)) eX12_init_447 (by decide) ?_
  refine N_aload_n (i := 0) (G0 _ _ (by decide) (by decide)) eX12_init_450 rfl rfl ?_
  refine C_get (v := .ref (s.heap.size + 35)) (G0 _ _ (by decide) (by decide)) K ggX12_120 (by rfl) eX12_init_451 ?_
  refine N_iload_n (i := 1) (G0 _ _ (by decide) (by decide)) eX12_init_454 rfl rfl ?_
  refine N_iload_n (i := 1) (G0 _ _ (by decide) (by decide)) eX12_init_455 rfl rfl ?_
  refine N_bipush (n := 8) (v := (nI 8)) (G0 _ _ (by decide) (by decide)) eX12_init_456 rfl ?_
  refine N_divC (v := (nI 2)) (G0 _ _ (by decide) (by decide)) eX12_init_458 (by decide) (by decide) ?_
  refine N_iload_n (i := 1) (G0 _ _ (by decide) (by decide)) eX12_init_459 rfl rfl ?_
  refine N_bipush (n := 8) (v := (nI 8)) (G0 _ _ (by decide) (by decide)) eX12_init_460 rfl ?_
  refine N_remC (v := (nI 7)) (G0 _ _ (by decide) (by decide)) eX12_init_462 (by decide) (by decide) ?_
  refine N_neT (G0 _ _ (by decide) (by decide)) eX12_init_463 (by decide) ?_
  refine N_bipush (n := 10) (v := (nI 10)) (G0 _ _ (by decide) (by decide)) eX12_init_470 rfl ?_
  refine C_iast (q := 35) (n := 64) (G0 _ _ (by decide) (by decide)) K (cOk_this ho) (by rfl) (by exact vp_in_nI (by decide) (by decide)) eX12_init_472 ?_
  refine N_iincC (i := 1) (v := (nI 24)) (L' := [some (.ref o), some (.int (nI 24))]) (G0 _ _ (by decide) (by decide)) eX12_init_473 rfl (by decide) (by decide) rfl rfl ?_
  refine N_goto (G0 _ _ (by decide) (by decide)) eX12_init_476 ?_
  refine N_iload_n (i := 1) (G0 _ _ (by decide) (by decide)) eX12_init_444 rfl rfl ?_
  refine N_bipush (n := 64) (v := (nI 64)) (G0 _ _ (by decide) (by decide)) eX12_init_445 rfl ?_
  refine N_geF (G0 _ _ (by decide) (by decide)) eX12_init_447 (by decide) ?_
  refine N_aload_n (i := 0) (G0 _ _ (by decide) (by decide)) eX12_init_450 rfl rfl ?_
  refine C_get (v := .ref (s.heap.size + 35)) (G0 _ _ (by decide) (by decide)) K ggX12_120 (by rfl) eX12_init_451 ?_
  refine N_iload_n (i := 1) (G0 _ _ (by decide) (by decide)) eX12_init_454 rfl rfl ?_
  refine N_iload_n (i := 1) (G0 _ _ (by decide) (by decide)) eX12_init_455 rfl rfl ?_
  refine N_bipush (n := 8) (v := (nI 8)) (G0 _ _ (by decide) (by decide)) eX12_init_456 rfl ?_
  refine N_divC (v := (nI 3)) (G0 _ _ (by decide) (by decide)) eX12_init_458 (by decide) (by decide) ?_
  refine N_iload_n (i := 1) (G0 _ _ (by decide) (by decide)) eX12_init_459 rfl rfl ?_
  refine N_bipush (n := 8) (v := (nI 8)) (G0 _ _ (by decide) (by decide)) eX12_init_460 rfl ?_
  refine N_remC (v := (nI 0)) (G0 _ _ (by decide) (by decide)) eX12_init_462 (by decide) (by decide) ?_
  refine N_neT (G0 _ _ (by decide) (by decide)) eX12_init_463 (by decide) ?_
  refine N_bipush (n := 10) (v := (nI 10)) (G0 _ _ (by decide) (by decide)) eX12_init_470 rfl ?_
  refine C_iast (q := 35) (n := 64) (G0 _ _ (by decide) (by decide)) K (cOk_this ho) (by rfl) (by exact vp_in_nI (by decide) (by decide)) eX12_init_472 ?_
  refine N_iincC (i := 1) (v := (nI 25)) (L' := [some (.ref o), some (.int (nI 25))]) (G0 _ _ (by decide) (by decide)) eX12_init_473 rfl (by decide) (by decide) rfl rfl ?_
  refine N_goto (G0 _ _ (by decide) (by decide)) eX12_init_476 ?_
  refine N_iload_n (i := 1) (G0 _ _ (by decide) (by decide)) eX12_init_444 rfl rfl ?_
  refine N_bipush (n := 64) (v := (nI 64)) (G0 _ _ (by decide) (by decide)) eX12_init_445 rfl ?_
  refine N_geF (G0 _ _ (by decide) (by decide)) eX12_init_447 (by decide) ?_
  refine N_aload_n (i := 0) (G0 _ _ (by decide) (by decide)) eX12_init_450 rfl rfl ?_
  refine C_get (v := .ref (s.heap.size + 35)) (G0 _ _ (by decide) (by decide)) K ggX12_120 (by rfl) eX12_init_451 ?_
  refine N_iload_n (i := 1) (G0 _ _ (by decide) (by decide)) eX12_init_454 rfl rfl ?_
  refine N_iload_n (i := 1) (G0 _ _ (by decide) (by decide)) eX12_init_455 rfl rfl ?_
  refine N_bipush (n := 8) (v := (nI 8)) (G0 _ _ (by decide) (by decide)) eX12_init_456 rfl ?_
  refine N_divC (v := (nI 3)) (G0 _ _ (by decide) (by decide)) eX12_init_458 (by decide) (by decide) ?_
  refine N_iload_n (i := 1) (G0 _ _ (by decide) (by decide)) eX12_init_459 rfl rfl ?_
  refine N_bipush (n := 8) (v := (nI 8)) (G0 _ _ (by decide) (by decide)) eX12_init_460 rfl ?_
  refine N_remC (v := (nI 1)) (G0 _ _ (by decide) (by decide)) eX12_init_462 (by decide) (by decide) ?_
  refine N_neT (G0 _ _ (by decide) (by decide)) eX12_init_463 (by decide) ?_
  refine N_bipush (n := 10) (v := (nI 10)) (G0 _ _ (by decide) (by decide)) eX12_init_470 rfl ?_
  refine C_iast (q := 35) (n := 64) (G0 _ _ (by decide) (by decide)) K (cOk_this ho) (by rfl) (by exact vp_in_nI (by decide) (by decide)) eX12_init_472 ?_
  refine N_iincC (i := 1) (v := (nI 26)) (L' := [some (.ref o), some (.int (nI 26))]) (G0 _ _ (by decide) (by decide)) eX12_init_473 rfl (by decide) (by decide) rfl rfl ?_
  refine N_goto (G0 _ _ (by decide) (by decide)) eX12_init_476 ?_
  refine N_iload_n (i := 1) (G0 _ _ (by decide) (by decide)) eX12_init_444 rfl rfl ?_
  refine N_bipush (n := 64) (v := (nI 64)) (G0 _ _ (by decide) (by decide)) eX12_init_445 rfl ?_
  refine N_geF (G0 _ _ (by decide) (by decide)) eX12_init_447 (by decide) ?_
  refine N_aload_n (i := 0) (G0 _ _ (by decide) (by decide)) eX12_init_450 rfl rfl ?_
  refine C_get (v := .ref (s.heap.size + 35)) (G0 _ _ (by decide) (by decide)) K ggX12_120 (by rfl) eX12_init_451 ?_
  refine N_iload_n (i := 1) (G0 _ _ (by decide) (by decide)) eX12_init_454 rfl rfl ?_
  refine N_iload_n (i := 1) (G0 _ _ (by decide) (by decide)) eX12_init_455 rfl rfl ?_
  refine N_bipush (n := 8) (v := (nI 8)) (G0 _ _ (by decide) (by decide)) eX12_init_456 rfl ?_
  refine N_divC (v := (nI 3)) (G0 _ _ (by decide) (by decide)) eX12_init_458 (by decide) (by decide) ?_
  refine N_iload_n (i := 1) (G0 _ _ (by decide) (by decide)) eX12_init_459 rfl rfl ?_
  refine N_bipush (n := 8) (v := (nI 8)) (G0 _ _ (by decide) (by decide)) eX12_init_460 rfl ?_
  refine N_remC (v := (nI 2)) (G0 _ _ (by decide) (by decide)) eX12_init_462 (by decide) (by decide) ?_
  refine N_neT (G0 _ _ (by decide) (by decide)) eX12_init_463 (by decide) ?_
  refine N_bipush (n := 10) (v := (nI 10)) (G0 _ _ (by decide) (by decide)) eX12_init_470 rfl ?_
  refine C_iast (q := 35) (n := 64) (G0 _ _ (by decide) (by decide)) K (cOk_this ho) (by rfl) (by exact vp_in_nI (by decide) (by decide)) eX12_init_472 ?_
  refine N_iincC (i := 1) (v := (nI 27)) (L' := [some (.ref o), some (.int (nI 27))]) (G0 _ _ (by decide) (by decide)) eX12_init_473 rfl (by decide) (by decide) rfl rfl ?_
  refine N_goto (G0 _ _ (by decide) (by decide)) eX12_init_476 ?_
  refine N_iload_n (i := 1) (G0 _ _ (by decide) (by decide)) eX12_init_444 rfl rfl ?_
  refine N_bipush (n := 64) (v := (nI 64)) (G0 _ _ (by decide) (by decide)) eX12_init_445 rfl ?_
  refine N_geF (G0 _ _ (by decide) (by decide)) eX12_init_447 (by decide) ?_
  refine N_aload_n (i := 0) (G0 _ _ (by decide) (by decide)) eX12_init_450 rfl rfl ?_
  refine C_get (v := .ref (s.heap.size + 35)) (G0 _ _ (by decide) (by decide)) K ggX12_120 (by rfl) eX12_init_451 ?_
  refine N_iload_n (i := 1) (G0 _ _ (by decide) (by decide)) eX12_init_454 rfl rfl ?_
  refine N_iload_n (i := 1) (G0 _ _ (by decide) (by decide)) eX12_init_455 rfl rfl ?_
  refine N_bipush (n := 8) (v := (nI 8)) (G0 _ _ (by decide) (by decide)) eX12_init_456 rfl ?_
  refine N_divC (v := (nI 3)) (G0 _ _ (by decide) (by decide)) eX12_init_458 (by decide) (by decide) ?_
  refine N_iload_n (i := 1) (G0 _ _ (by decide) (by decide)) eX12_init_459 rfl rfl ?_
  refine N_bipush (n := 8) (v := (nI 8)) (G0 _ _ (by decide) (by decide)) eX12_init_460 rfl ?_
  refine N_remC (v := (nI 3)) (G0 _ _ (by decide) (by decide)) eX12_init_462 (by decide) (by decide) ?_
  refine N_neF (G0 _ _ (by decide) (by decide)) eX12_init_463 (by decide) ?_
  refine N_iconst (n := 0) (v := (nI 0)) (G0 _ _ (by decide) (by decide)) eX12_init_466 rfl ?_
  refine N_goto (G0 _ _ (by decide) (by decide)) eX12_init_467 ?_
  refine C_iast (q := 35) (n := 64) (G0 _ _ (by decide) (by decide)) K (cOk_this ho) (by rfl) (by exact vp_in_nI (by decide) (by decide)) eX12_init_472 ?_
  refine N_iincC (i := 1) (v := (nI 28)) (L' := [some (.ref o), some (.int (nI 28))]) (G0 _ _ (by decide) (by decide)) eX12_init_473 rfl (by decide) (by decide) rfl rfl ?_
  refine N_goto (G0 _ _ (by decide) (by decide)) eX12_init_476 ?_
  refine N_iload_n (i := 1) (G0 _ _ (by decide) (by decide)) eX12_init_444 rfl rfl ?_
  refine N_bipush (n := 64) (v := (nI 64)) (G0 _ _ (by decide) (by decide)) eX12_init_445 rfl ?_
  refine N_geF (G0 _ _ (by decide) (by decide)) eX12_init_447 (by decide) ?_
  refine N_aload_n (i := 0) (G0 _ _ (by decide) (by decide)) eX12_init_450 rfl rfl ?_
  refine C_get (v := .ref (s.heap.size + 35)) (G0 _ _ (by decide) (by decide)) K ggX12_120 (by rfl) eX12_init_451 ?_
  refine N_iload_n (i := 1) (G0 _ _ (by decide) (by decide)) eX12_init_454 rfl rfl ?_
  refine N_iload_n (i := 1) (G0 _ _ (by decide) (by decide)) eX12_init_455 rfl rfl ?_
  refine N_bipush (n := 8) (v := (nI 8)) (G0 _ _ (by decide) (by decide)) eX12_init_456 rfl ?_
  refine N_divC (v := (nI 3)) (G0 _ _ (by decide) (by decide)) eX12_init_458 (by decide) (by decide) ?_
  refine N_iload_n (i := 1) (G0 _ _ (by decide) (by decide)) eX12_init_459 rfl rfl ?_
  refine N_bipush (n := 8) (v := (nI 8)) (G0 _ _ (by decide) (by decide)) eX12_init_460 rfl ?_
  refine N_remC (v := (nI 4)) (G0 _ _ (by decide) (by decide)) eX12_init_462 (by decide) (by decide) ?_
  refine N_neT (G0 _ _ (by decide) (by decide)) eX12_init_463 (by decide) ?_
  refine N_bipush (n := 10) (v := (nI 10)) (G0 _ _ (by decide) (by decide)) eX12_init_470 rfl ?_
  refine C_iast (q := 35) (n := 64) (G0 _ _ (by decide) (by decide)) K (cOk_this ho) (by rfl) (by exact vp_in_nI (by decide) (by decide)) eX12_init_472 ?_
  refine N_iincC (i := 1) (v := (nI 29)) (L' := [some (.ref o), some (.int (nI 29))]) (G0 _ _ (by decide) (by decide)) eX12_init_473 rfl (by decide) (by decide) rfl rfl ?_
  refine N_goto (G0 _ _ (by decide) (by decide)) eX12_init_476 ?_
  refine N_iload_n (i := 1) (G0 _ _ (by decide) (by decide)) eX12_init_444 rfl rfl ?_
  refine N_bipush (n := 64) (v := (nI 64)) (G0 _ _ (by decide) (by decide)) eX12_init_445 rfl ?_
  refine N_geF (G0 _ _ (by decide) (by decide)) eX12_init_447 (by decide) ?_
  refine N_aload_n (i := 0) (G0 _ _ (by decide) (by decide)) eX12_init_450 rfl rfl ?_
  refine C_get (v := .ref (s.heap.size + 35)) (G0 _ _ (by decide) (by decide)) K ggX12_120 (by rfl) eX12_init_451 ?_
  refine N_iload_n (i := 1) (G0 _ _ (by decide) (by decide)) eX12_init_454 rfl rfl ?_
  refine N_iload_n (i := 1) (G0 _ _ (by decide) (by decide)) eX12_init_455 rfl rfl ?_
  refine N_bipush (n := 8) (v := (nI 8)) (G0 _ _ (by decide) (by decide)) eX12_init_456 rfl ?_
  refine N_divC (v := (nI 3)) (G0 _ _ (by decide) (by decide)) eX12_init_458 (by decide) (by decide) ?_
  refine N_iload_n (i := 1) (G0 _ _ (by decide) (by decide)) eX12_init_459 rfl rfl ?_
  refine N_bipush (n := 8) (v := (nI 8)) (G0 _ _ (by decide) (by decide)) eX12_init_460 rfl ?_
  refine N_remC (v := (nI 5)) (G0 _ _ (by decide) (by decide)) eX12_init_462 (by decide) (by decide) ?_
  refine N_neT (G0 _ _ (by decide) (by decide)) eX12_init_463 (by decide) ?_
  refine N_bipush (n := 10) (v := (nI 10)) (G0 _ _ (by decide) (by decide)) eX12_init_470 rfl ?_
  refine C_iast (q := 35) (n := 64) (G0 _ _ (by decide) (by decide)) K (cOk_this ho) (by rfl) (by exact vp_in_nI (by decide) (by decide)) eX12_init_472 ?_
  refine N_iincC (i := 1) (v := (nI 30)) (L' := [some (.ref o), some (.int (nI 30))]) (G0 _ _ (by decide) (by decide)) eX12_init_473 rfl (by decide) (by decide) rfl rfl ?_
  refine N_goto (G0 _ _ (by decide) (by decide)) eX12_init_476 ?_
  refine N_iload_n (i := 1) (G0 _ _ (by decide) (by decide)) eX12_init_444 rfl rfl ?_
  refine N_bipush (n := 64) (v := (nI 64)) (G0 _ _ (by decide) (by decide)) eX12_init_445 rfl ?_
  refine N_geF (G0 _ _ (by decide) (by decide)) eX12_init_447 (by decide) ?_
  refine N_aload_n (i := 0) (G0 _ _ (by decide) (by decide)) eX12_init_450 rfl rfl ?_
  refine C_get (v := .ref (s.heap.size + 35)) (G0 _ _ (by decide) (by decide)) K ggX12_120 (by rfl) eX12_init_451 ?_
  refine N_iload_n (i := 1) (G0 _ _ (by decide) (by decide)) eX12_init_454 rfl rfl ?_
  refine N_iload_n (i := 1) (G0 _ _ (by decide) (by decide)) eX12_init_455 rfl rfl ?_
  refine N_bipush (n := 8) (v := (nI 8)) (G0 _ _ (by decide) (by decide)) eX12_init_456 rfl ?_
  refine N_divC (v := (nI 3)) (G0 _ _ (by decide) (by decide)) eX12_init_458 (by decide) (by decide) ?_
  refine N_iload_n (i := 1) (G0 _ _ (by decide) (by decide)) eX12_init_459 rfl rfl ?_
  refine N_bipush (n := 8) (v := (nI 8)) (G0 _ _ (by decide) (by decide)) eX12_init_460 rfl ?_
  refine N_remC (v := (nI 6)) (G0 _ _ (by decide) (by decide)) eX12_init_462 (by decide) (by decide) ?_
  refine N_neT (G0 _ _ (by decide) (by decide)) eX12_init_463 (by decide) ?_
  refine N_bipush (n := 10) (v := (nI 10)) (G0 _ _ (by decide) (by decide)) eX12_init_470 rfl ?_
  refine C_iast (q := 35) (n := 64) (G0 _ _ (by decide) (by decide)) K (cOk_this ho) (by rfl) (by exact vp_in_nI (by decide) (by decide)) eX12_init_472 ?_
  refine N_iincC (i := 1) (v := (nI 31)) (L' := [some (.ref o), some (.int (nI 31))]) (G0 _ _ (by decide) (by decide)) eX12_init_473 rfl (by decide) (by decide) rfl rfl ?_
  refine N_goto (G0 _ _ (by decide) (by decide)) eX12_init_476 ?_
  refine N_iload_n (i := 1) (G0 _ _ (by decide) (by decide)) eX12_init_444 rfl rfl ?_
  refine N_bipush (n := 64) (v := (nI 64)) (G0 _ _ (by decide) (by decide)) eX12_init_445 rfl ?_
  refine N_geF (G0 _ _ (by decide) (by decide)) eX12_init_447 (by decide) ?_
  refine N_aload_n (i := 0) (G0 _ _ (by decide) (by decide)) eX12_init_450 rfl rfl ?_
  refine C_get (v := .ref (s.heap.size + 35)) (G0 _ _ (by decide) (by decide)) K ggX12_120 (by rfl) eX12_init_451 ?_
  refine N_iload_n (i := 1) (G0 _ _ (by decide) (by decide)) eX12_init_454 rfl rfl ?_
  refine N_iload_n (i := 1) (G0 _ _ (by decide) (by decide)) eX12_init_455 rfl rfl ?_
  refine N_bipush (n := 8) (v := (nI 8)) (G0 _ _ (by decide) (by decide)) eX12_init_456 rfl ?_
  refine N_divC (v := (nI 3)) (G0 _ _ (by decide) (by decide)) eX12_init_458 (by decide) (by decide) ?_
  refine N_iload_n (i := 1) (G0 _ _ (by decide) (by decide)) eX12_init_459 rfl rfl ?_
  refine N_bipush (n := 8) (v := (nI 8)) (G0 _ _ (by decide) (by decide)) eX12_init_460 rfl ?_
  refine N_remC (v := (nI 7)) (G0 _ _ (by decide) (by decide)) eX12_init_462 (by decide) (by decide) ?_
  refine N_neT (G0 _ _ (by decide) (by decide)) eX12_init_463 (by decide) ?_
  refine N_bipush (n := 10) (v := (nI 10)) (G0 _ _ (by decide) (by decide)) eX12_init_470 rfl ?_
  refine C_iast (q := 35) (n := 64) (G0 _ _ (by decide) (by decide)) K (cOk_this ho) (by rfl) (by exact vp_in_nI (by decide) (by decide)) eX12_init_472 ?_
  refine N_iincC (i := 1) (v := (nI 32)) (L' := [some (.ref o), some (.int (nI 32))]) (G0 _ _ (by decide) (by decide)) eX12_init_473 rfl (by decide) (by decide) rfl rfl ?_
  refine N_goto (G0 _ _ (by decide) (by decide)) eX12_init_476 ?_
  refine N_iload_n (i := 1) (G0 _ _ (by decide) (by decide)) eX12_init_444 rfl rfl ?_
  refine N_bipush (n := 64) (v := (nI 64)) (G0 _ _ (by decide) (by decide)) eX12_init_445 rfl ?_
  refine N_geF (G0 _ _ (by decide) (by decide)) eX12_init_447 (by decide) ?_
  refine N_aload_n (i := 0) (G0 _ _ (by decide) (by decide)) eX12_init_450 rfl rfl ?_
  refine C_get (v := .ref (s.heap.size + 35)) (G0 _ _ (by decide) (by decide)) K ggX12_120 (by rfl) eX12_init_451 ?_
  refine N_iload_n (i := 1) (G0 _ _ (by decide) (by decide)) eX12_init_454 rfl rfl ?_
  refine N_iload_n (i := 1) (G0 _ _ (by decide) (by decide)) eX12_init_455 rfl rfl ?_
  refine N_bipush (n := 8) (v := (nI 8)) (G0 _ _ (by decide) (by decide)) eX12_init_456 rfl ?_
  refine N_divC (v := (nI 4)) (G0 _ _ (by decide) (by decide)) eX12_init_458 (by decide) (by decide) ?_
  refine N_iload_n (i := 1) (G0 _ _ (by decide) (by decide)) eX12_init_459 rfl rfl ?_
  refine N_bipush (n := 8) (v := (nI 8)) (G0 _ _ (by decide) (by decide)) eX12_init_460 rfl ?_
  refine N_remC (v := (nI 0)) (G0 _ _ (by decide) (by decide)) eX12_init_462 (by decide) (by decide) ?_
  refine N_neT (G0 _ _ (by decide) (by decide)) eX12_init_463 (by decide) ?_
  refine N_bipush (n := 10) (v := (nI 10)) (G0 _ _ (by decide) (by decide)) eX12_init_470 rfl ?_
  refine C_iast (q := 35) (n := 64) (G0 _ _ (by decide) (by decide)) K (cOk_this ho) (by rfl) (by exact vp_in_nI (by decide) (by decide)) eX12_init_472 ?_
  refine N_iincC (i := 1) (v := (nI 33)) (L' := [some (.ref o), some (.int (nI 33))]) (G0 _ _ (by decide) (by decide)) eX12_init_473 rfl (by decide) (by decide) rfl rfl ?_
  refine N_goto (G0 _ _ (by decide) (by decide)) eX12_init_476 ?_
  refine N_iload_n (i := 1) (G0 _ _ (by decide) (by decide)) eX12_init_444 rfl rfl ?_
  refine N_bipush (n := 64) (v := (nI 64)) (G0 _ _ (by decide) (by decide)) eX12_init_445 rfl ?_
  refine N_geF (G0 _ _ (by decide) (by decide)) eX12_init_447 (by decide) ?_
  refine N_aload_n (i := 0) (G0 _ _ (by decide) (by decide)) eX12_init_450 rfl rfl ?_
  refine C_get (v := .ref (s.heap.size + 35)) (G0 _ _ (by decide) (by decide)) K ggX12_120 (by rfl) eX12_init_451 ?_
  refine N_iload_n (i := 1) (G0 _ _ (by decide) (by decide)) eX12_init_454 rfl rfl ?_
  refine N_iload_n (i := 1) (G0 _ _ (by decide) (by decide)) eX12_init_455 rfl rfl ?_
  refine N_bipush (n := 8) (v := (nI 8)) (G0 _ _ (by decide) (by decide)) eX12_init_456 rfl ?_
  refine N_divC (v := (nI 4)) (G0 _ _ (by decide) (by decide)) eX12_init_458 (by decide) (by decide) ?_
  refine N_iload_n (i := 1) (G0 _ _ (by decide) (by decide)) eX12_init_459 rfl rfl ?_
  refine N_bipush (n := 8) (v := (nI 8)) (G0 _ _ (by decide) (by decide)) eX12_init_460 rfl ?_
  refine N_remC (v := (nI 1)) (G0 _ _ (by decide) (by decide)) eX12_init_462 (by decide) (by decide) ?_
  refine N_neT (G0 _ _ (by decide) (by decide)) eX12_init_463 (by decide) ?_
  refine N_bipush (n := 10) (v := (nI 10)) (G0 _ _ (by decide) (by decide)) eX12_init_470 rfl ?_
  refine C_iast (q := 35) (n := 64) (G0 _ _ (by decide) (by decide)) K (cOk_this ho) (by rfl) (by exact vp_in_nI (by decide) (by decide)) eX12_init_472 ?_
  refine N_iincC (i := 1) (v := (nI 34)) (L' := [some (.ref o), some (.int (nI 34))]) (G0 _ _ (by decide) (by decide)) eX12_init_473 rfl (by decide) (by decide) rfl rfl ?_
  refine N_goto (G0 _ _ (by decide) (by decide)) eX12_init_476 ?_
  refine N_iload_n (i := 1) (G0 _ _ (by decide) (by decide)) eX12_init_444 rfl rfl ?_
  refine N_bipush (n := 64) (v := (nI 64)) (G0 _ _ (by decide) (by decide)) eX12_init_445 rfl ?_
  refine N_geF (G0 _ _ (by decide) (by decide)) eX12_init_447 (by decide) ?_
  refine N_aload_n (i := 0) (G0 _ _ (by decide) (by decide)) eX12_init_450 rfl rfl ?_
  refine C_get (v := .ref (s.heap.size + 35)) (G0 _ _ (by decide) (by decide)) K ggX12_120 (by rfl) eX12_init_451 ?_
  refine N_iload_n (i := 1) (G0 _ _ (by decide) (by decide)) eX12_init_454 rfl rfl ?_
  refine N_iload_n (i := 1) (G0 _ _ (by decide) (by decide)) eX12_init_455 rfl rfl ?_
  refine N_bipush (n := 8) (v := (nI 8)) (G0 _ _ (by decide) (by decide)) eX12_init_456 rfl ?_
  refine N_divC (v := (nI 4)) (G0 _ _ (by decide) (by decide)) eX12_init_458 (by decide) (by decide) ?_
  refine N_iload_n (i := 1) (G0 _ _ (by decide) (by decide)) eX12_init_459 rfl rfl ?_
  refine N_bipush (n := 8) (v := (nI 8)) (G0 _ _ (by decide) (by decide)) eX12_init_460 rfl ?_
  refine N_remC (v := (nI 2)) (G0 _ _ (by decide) (by decide)) eX12_init_462 (by decide) (by decide) ?_
  refine N_neT (G0 _ _ (by decide) (by decide)) eX12_init_463 (by decide) ?_
  refine N_bipush (n := 10) (v := (nI 10)) (G0 _ _ (by decide) (by decide)) eX12_init_470 rfl ?_
  refine C_iast (q := 35) (n := 64) (G0 _ _ (by decide) (by decide)) K (cOk_this ho) (by rfl) (by exact vp_in_nI (by decide) (by decide)) eX12_init_472 ?_
  refine N_iincC (i := 1) (v := (nI 35)) (L' := [some (.ref o), some (.int (nI 35))]) (G0 _ _ (by decide) (by decide)) eX12_init_473 rfl (by decide) (by decide) rfl rfl ?_
  refine N_goto (G0 _ _ (by decide) (by decide)) eX12_init_476 ?_
  refine N_iload_n (i := 1) (G0 _ _ (by decide) (by decide)) eX12_init_444 rfl rfl ?_
  refine N_bipush (n := 64) (v := (nI 64)) (G0 _ _ (by decide) (by decide)) eX12_init_445 rfl ?_
  refine N_geF (G0 _ _ (by decide) (by decide)) eX12_init_447 (by decide) ?_
  refine N_aload_n (i := 0) (G0 _ _ (by decide) (by decide)) eX12_init_450 rfl rfl ?_
  refine C_get (v := .ref (s.heap.size + 35)) (G0 _ _ (by decide) (by decide)) K ggX12_120 (by rfl) eX12_init_451 ?_
  refine N_iload_n (i := 1) (G0 _ _ (by decide) (by decide)) eX12_init_454 rfl rfl ?_
  refine N_iload_n (i := 1) (G0 _ _ (by decide) (by decide)) eX12_init_455 rfl rfl ?_
  refine N_bipush (n := 8) (v := (nI 8)) (G0 _ _ (by decide) (by decide)) eX12_init_456 rfl ?_
  refine N_divC (v := (nI 4)) (G0 _ _ (by decide) (by decide)) eX12_init_458 (by decide) (by decide) ?_
  refine N_iload_n (i := 1) (G0 _ _ (by decide) (by decide)) eX12_init_459 rfl rfl ?_
  refine N_bipush (n := 8) (v := (nI 8)) (G0 _ _ (by decide) (by decide)) eX12_init_460 rfl ?_
  refine N_remC (v := (nI 3)) (G0 _ _ (by decide) (by decide)) eX12_init_462 (by decide) (by decide) ?_
  refine N_neT (G0 _ _ (by decide) (by decide)) eX12_init_463 (by decide) ?_
  refine N_bipush (n := 10) (v := (nI 10)) (G0 _ _ (by decide) (by decide)) eX12_init_470 rfl ?_
  refine C_iast (q := 35) (n := 64) (G0 _ _ (by decide) (by decide)) K (cOk_this ho) (by rfl) (by exact vp_in_nI (by decide) (by decide)) eX12_init_472 ?_
  refine N_iincC (i := 1) (v := (nI 36)) (L' := [some (.ref o), some (.int (nI 36))]) (G0 _ _ (by decide) (by decide)) eX12_init_473 rfl (by decide) (by decide) rfl rfl ?_
  refine N_goto (G0 _ _ (by decide) (by decide)) eX12_init_476 ?_
  refine N_iload_n (i := 1) (G0 _ _ (by decide) (by decide)) eX12_init_444 rfl rfl ?_
  refine N_bipush (n := 64) (v := (nI 64)) (G0 _ _ (by decide) (by decide)) eX12_init_445 rfl ?_
  refine N_geF (G0 _ _ (by decide) (by decide)) eX12_init_447 (by decide) ?_
  refine N_aload_n (i := 0) (G0 _ _ (by decide) (by decide)) eX12_init_450 rfl rfl ?_
  refine C_get (v := .ref (s.heap.size + 35)) (G0 _ _ (by decide) (by decide)) K ggX12_120 (by rfl) eX12_init_451 ?_
  refine N_iload_n (i := 1) (G0 _ _ (by decide) (by decide)) eX12_init_454 rfl rfl ?_
  refine N_iload_n (i := 1) (G0 _ _ (by decide) (by decide)) eX12_init_455 rfl rfl ?_
  refine N_bipush (n := 8) (v := (nI 8)) (G0 _ _ (by decide) (by decide)) eX12_init_456 rfl ?_
  refine N_divC (v := (nI 4)) (G0 _ _ (by decide) (by decide)) eX12_init_458 (by decide) (by decide) ?_
  refine N_iload_n (i := 1) (G0 _ _ (by decide) (by decide)) eX12_init_459 rfl rfl ?_
  refine N_bipush (n := 8) (v := (nI 8)) (G0 _ _ (by decide) (by decide)) eX12_init_460 rfl ?_
  refine N_remC (v := (nI 4)) (G0 _ _ (by decide) (by decide)) eX12_init_462 (by decide) (by decide) ?_
  refine N_neF (G0 _ _ (by decide) (by decide)) eX12_init_463 (by decide) ?_
  refine N_iconst (n := 0) (v := (nI 0)) (G0 _ _ (by decide) (by decide)) eX12_init_466 rfl ?_
  refine N_goto (G0 _ _ (by decide) (by decide)) eX12_init_467 ?_
  refine C_iast (q := 35) (n := 64) (G0 _ _ (by decide) (by decide)) K (cOk_this ho) (by rfl) (by exact vp_in_nI (by decide) (by decide)) eX12_init_472 ?_
  refine N_iincC (i := 1) (v := (nI 37)) (L' := [some (.ref o), some (.int (nI 37))]) (G0 _ _ (by decide) (by decide)) eX12_init_473 rfl (by decide) (by decide) rfl rfl ?_
  refine N_goto (G0 _ _ (by decide) (by decide)) eX12_init_476 ?_
  refine N_iload_n (i := 1) (G0 _ _ (by decide) (by decide)) eX12_init_444 rfl rfl ?_
  refine N_bipush (n := 64) (v := (nI 64)) (G0 _ _ (by decide) (by decide)) eX12_init_445 rfl ?_
  refine N_geF (G0 _ _ (by decide) (by decide)) eX12_init_447 (by decide) ?_
  refine N_aload_n (i := 0) (G0 _ _ (by decide) (by decide)) eX12_init_450 rfl rfl ?_
  refine C_get (v := .ref (s.heap.size + 35)) (G0 _ _ (by decide) (by decide)) K ggX12_120 (by rfl) eX12_init_451 ?_
  refine N_iload_n (i := 1) (G0 _ _ (by decide) (by decide)) eX12_init_454 rfl rfl ?_
  refine N_iload_n (i := 1) (G0 _ _ (by decide) (by decide)) eX12_init_455 rfl rfl ?_
  refine N_bipush (n := 8) (v := (nI 8)) (G0 _ _ (by decide) (by decide)) eX12_init_456 rfl ?_
  refine N_divC (v := (nI 4)) (G0 _ _ (by decide) (by decide)) eX12_init_458 (by decide) (by decide) ?_
  refine N_iload_n (i := 1) (G0 _ _ (by decide) (by decide)) eX12_init_459 rfl rfl ?_
  refine N_bipush (n := 8) (v := (nI 8)) (G0 _ _ (by decide) (by decide)) eX12_init_460 rfl ?_
  refine N_remC (v := (nI 5)) (G0 _ _ (by decide) (by decide)) eX12_init_462 (by decide) (by decide) ?_
  refine N_neT (G0 _ _ (by decide) (by decide)) eX12_init_463 (by decide) ?_
  refine N_bipush (n := 10) (v := (nI 10)) (G0 _ _ (by decide) (by decide)) eX12_init_470 rfl ?_
  refine C_iast (q := 35) (n := 64) (G0 _ _ (by decide) (by decide)) K (cOk_this ho) (by rfl) (by exact vp_in_nI (by decide) (by decide)) eX12_init_472 ?_
  refine N_iincC (i := 1) (v := (nI 38)) (L' := [some (.ref o), some (.int (nI 38))]) (G0 _ _ (by decide) (by decide)) eX12_init_473 rfl (by decide) (by decide) rfl rfl ?_
  refine N_goto (G0 _ _ (by decide) (by decide)) eX12_init_476 ?_
  refine N_iload_n (i := 1) (G0 _ _ (by decide) (by decide)) eX12_init_444 rfl rfl ?_
  refine N_bipush (n := 64) (v := (nI 64)) (G0 _ _ (by decide) (by decide)) eX12_init_445 rfl ?_
  refine N_geF (G0 _ _ (by decide) (by decide)) eX12_init_447 (by decide) ?_
  refine N_aload_n (i := 0) (G0 _ _ (by decide) (by decide)) eX12_init_450 rfl rfl ?_
  refine C_get (v := .ref (s.heap.size + 35)) (G0 _ _ (by decide) (by decide)) K ggX12_120 (by rfl) eX12_init_451 ?_
  refine N_iload_n (i := 1) (G0 _ _ (by decide) (by decide)) eX12_init_454 rfl rfl ?_
  refine N_iload_n (i := 1) (G0 _ _ (by decide) (by decide)) eX12_init_455 rfl rfl ?_
  refine N_bipush (n := 8) (v := (nI 8)) (G0 _ _ (by decide) (by decide)) eX12_init_456 rfl ?_
  refine N_divC (v := (nI 4)) (G0 _ _ (by decide) (by decide)) eX12_init_458 (by decide) (by decide) ?_
  refine N_iload_n (i := 1) (G0 _ _ (by decide) (by decide)) eX12_init_459 rfl rfl ?_
  refine N_bipush (n := 8) (v := (nI 8)) (G0 _ _ (by decide) (by decide)) eX12_init_460 rfl ?_
  refine N_remC (v := (nI 6)) (G0 _ _ (by decide) (by decide)) eX12_init_462 (by decide) (by decide) ?_
  refine N_neT (G0 _ _ (by decide) (by decide)) eX12_init_463 (by decide) ?_
  refine N_bipush (n := 10) (v := (nI 10)) (G0 _ _ (by decide) (by decide)) eX12_init_470 rfl ?_
  refine C_iast (q := 35) (n := 64) (G0 _ _ (by decide) (by decide)) K (cOk_this ho) (by rfl) (by exact vp_in_nI (by decide) (by decide)) eX12_init_472 ?_
  refine N_iincC (i := 1) (v := (nI 39)) (L' := [some (.ref o), some (.int (nI 39))]) (G0 _ _ (by decide) (by decide)) eX12_init_473 rfl (by decide) (by decide) rfl rfl ?_
  refine N_goto (G0 _ _ (by decide) (by decide)) eX12_init_476 ?_
  refine N_iload_n (i := 1) (G0 _ _ (by decide) (by decide)) eX12_init_444 rfl rfl ?_
  refine N_bipush (n := 64) (v := (nI 64)) (G0 _ _ (by decide) (by decide)) eX12_init_445 rfl ?_
  refine N_geF (G0 _ _ (by decide) (by decide)) eX12_init_447 (by decide) ?_
  refine N_aload_n (i := 0) (G0 _ _ (by decide) (by decide)) eX12_init_450 rfl rfl ?_
  refine C_get (v := .ref (s.heap.size + 35)) (G0 _ _ (by decide) (by decide)) K ggX12_120 (by rfl) eX12_init_451 ?_
  refine N_iload_n (i := 1) (G0 _ _ (by decide) (by decide)) eX12_init_454 rfl rfl ?_
  refine N_iload_n (i := 1) (G0 _ _ (by decide) (by decide)) eX12_init_455 rfl rfl ?_
  refine N_bipush (n := 8) (v := (nI 8)) (G0 _ _ (by decide) (by decide)) eX12_init_456 rfl ?_
  refine N_divC (v := (nI 4)) (G0 _ _ (by decide) (by decide)) eX12_init_458 (by decide) (by decide) ?_
  refine N_iload_n (i := 1) (G0 _ _ (by decide) (by decide)) eX12_init_459 rfl rfl ?_
  refine N_bipush (n := 8) (v := (nI 8)) (G0 _ _ (by decide) (by decide)) eX12_init_460 rfl ?_
  refine N_remC (v := (nI 7)) (G0 _ _ (by decide) (by decide)) eX12_init_462 (by decide) (by decide) ?_
  refine N_neT (G0 _ _ (by decide) (by decide)) eX12_init_463 (by decide) ?_
  refine N_bipush (n := 10) (v := (nI 10)) (G0 _ _ (by decide) (by decide)) eX12_init_470 rfl ?_
  refine C_iast (q := 35) (n := 64) (G0 _ _ (by decide) (by decide)) K (cOk_this ho) (by rfl) (by exact vp_in_nI (by decide) (by decide)) eX12_init_472 ?_
  refine N_iincC (i := 1) (v := (nI 40)) (L' := [some (.ref o), some (.int (nI 40))]) (G0 _ _ (by decide) (by decide)) eX12_init_473 rfl (by decide) (by decide) rfl rfl ?_
  refine N_goto (G0 _ _ (by decide) (by decide)) eX12_init_476 ?_
  refine N_iload_n (i := 1) (G0 _ _ (by decide) (by decide)) eX12_init_444 rfl rfl ?_
  refine N_bipush (n := 64) (v := (nI 64)) (G0 _ _ (by decide) (by decide)) eX12_init_445 rfl ?_
  refine N_geF (G0 _ _ (by decide) (by decide)) eX12_init_447 (by decide) ?_
  refine N_aload_n (i := 0) (G0 _ _ (by decide) (by decide)) eX12_init_450 rfl rfl ?_
  refine C_get (v := .ref (s.heap.size + 35)) (G0 _ _ (by decide) (by decide)) K ggX12_120 (by rfl) eX12_init_451 ?_
  refine N_iload_n (i := 1) (G0 _ _ (by decide) (by decide)) eX12_init_454 rfl rfl ?_
  refine N_iload_n (i := 1) (G0 _ _ (by decide) (by decide)) eX12_init_455 rfl rfl ?_
  refine N_bipush (n := 8) (v := (nI 8)) (G0 _ _ (by decide) (by decide)) eX12_init_456 rfl ?_
  refine N_divC (v := (nI 5)) (G0 _ _ (by decide) (by decide)) eX12_init_458 (by decide) (by decide) ?_
  refine N_iload_n (i := 1) (G0 _ _ (by decide) (by decide)) eX12_init_459 rfl rfl ?_
  refine N_bipush (n := 8) (v := (nI 8)) (G0 _ _ (by decide) (by decide)) eX12_init_460 rfl ?_
  refine N_remC (v := (nI 0)) (G0 _ _ (by decide) (by decide)) eX12_init_462 (by decide) (by decide) ?_
  refine N_neT (G0 _ _ (by decide) (by decide)) eX12_init_463 (by decide) ?_
  refine N_bipush (n := 10) (v := (nI 10)) (G0 _ _ (by decide) (by decide)) eX12_init_470 rfl ?_
  refine C_iast (q := 35) (n := 64) (G0 _ _ (by decide) (by decide)) K (cOk_this ho) (by rfl) (by exact vp_in_nI (by decide) (by decide)) eX12_init_472 ?_
  refine N_iincC (i := 1) (v := (nI 41)) (L' := [some (.ref o), some (.int (nI 41))]) (G0 _ _ (by decide) (by decide)) eX12_init_473 rfl (by decide) (by decide) rfl rfl ?_
  refine N_goto (G0 _ _ (by decide) (by decide)) eX12_init_476 ?_
  refine N_iload_n (i := 1) (G0 _ _ (by decide) (by decide)) eX12_init_444 rfl rfl ?_
  refine N_bipush (n := 64) (v := (nI 64)) (G0 _ _ (by decide) (by decide)) eX12_init_445 rfl ?_
  refine N_geF (G0 _ _ (by decide) (by decide)) eX12_init_447 (by decide) ?_
  refine N_aload_n (i := 0) (G0 _ _ (by decide) (by decide)) eX12_init_450 rfl rfl ?_
  refine C_get (v := .ref (s.heap.size + 35)) (G0 _ _ (by decide) (by decide)) K ggX12_120 (by rfl) eX12_init_451 ?_
  refine N_iload_n (i := 1) (G0 _ _ (by decide) (by decide)) eX12_init_454 rfl rfl ?_
  refine N_iload_n (i := 1) (G0 _ _ (by decide) (by decide)) eX12_init_455 rfl rfl ?_
  refine N_bipush (n := 8) (v := (nI 8)) (G0 _ _ (by decide) (by decide)) eX12_init_456 rfl ?_
  refine N_divC (v := (nI 5)) (G0 _ _ (by decide) (by decide)) eX12_init_458 (by decide) (by decide) ?_
  refine N_iload_n (i := 1) (G0 _ _ (by decide) (by decide)) eX12_init_459 rfl rfl ?_
  refine N_bipush (n := 8) (v := (nI 8)) (G0 _ _ (by decide) (by decide)) eX12_init_460 rfl ?_
  refine N_remC (v := (nI 1)) (G0 _ _ (by decide) (by decide)) eX12_init_462 (by decide) (by decide) ?_
  refine N_neT (G0 _ _ (by decide) (by decide)) eX12_init_463 (by decide) ?_
  refine N_bipush (n := 10) (v := (nI 10)) (G0 _ _ (by decide) (by decide)) eX12_init_470 rfl ?_
  refine C_iast (q := 35) (n := 64) (G0 _ _ (by decide) (by decide)) K (cOk_this ho) (by rfl) (by exact vp_in_nI (by decide) (by decide)) eX12_init_472 ?_
  refine N_iincC (i := 1) (v := (nI 42)) (L' := [some (.ref o), some (.int (nI 42))]) (G0 _ _ (by decide) (by decide)) eX12_init_473 rfl (by decide) (by decide) rfl rfl ?_
  refine N_goto (G0 _ _ (by decide) (by decide)) eX12_init_476 ?_
  refine N_iload_n (i := 1) (G0 _ _ (by decide) (by decide)) eX12_init_444 rfl rfl ?_
  refine N_bipush (n := 64) (v := (nI 64)) (G0 _ _ (by decide) (by decide)) eX12_init_445 rfl ?_
  refine N_geF (G0 _ _ (by decide) (by decide)) eX12_init_447 (by decide) ?_
  refine N_aload_n (i := 0) (G0 _ _ (by decide) (by decide)) eX12_init_450 rfl rfl ?_
  refine C_get (v := .ref (s.heap.size + 35)) (G0 _ _ (by decide) (by decide)) K ggX12_120 (by rfl) eX12_init_451 ?_
  refine N_iload_n (i := 1) (G0 _ _ (by decide) (by decide)) eX12_init_454 rfl rfl ?_
  refine N_iload_n (i := 1) (G0 _ _ (by decide) (by decide)) eX12_init_455 rfl rfl ?_
  refine N_bipush (n := 8) (v := (nI 8)) (G0 _ _ (by decide) (by decide)) eX12_init_456 rfl ?_
  refine N_divC (v := (nI 5)) (G0 _ _ (by decide) (by decide)) eX12_init_458 (by decide) (by decide) ?_
  refine N_iload_n (i := 1) (G0 _ _ (by decide) (by decide)) eX12_init_459 rfl rfl ?_
  refine N_bipush (n := 8) (v := (nI 8)) (G0 _ _ (by decide) (by decide)) eX12_init_460 rfl ?_
  refine N_remC (v := (nI 2)) (G0 _ _ (by decide) (by decide)) eX12_init_462 (by decide) (by decide) ?_
  refine N_neT (G0 _ _ (by decide) (by decide)) eX12_init_463 (by decide) ?_
  refine N_bipush (n := 10) (v := (nI 10)) (G0 _ _ (by decide) (by decide)) eX12_init_470 rfl ?_
  refine C_iast (q := 35) (n := 64) (G0 _ _ (by decide) (by decide)) K (cOk_this ho) (by rfl) (by exact vp_in_nI (by decide) (by decide)) eX12_init_472 ?_
  refine N_iincC (i := 1) (v := (nI 43)) (L' := [some (.ref o), some (.int (nI 43))]) (G0 _ _ (by decide) (by decide)) eX12_init_473 rfl (by decide) (by decide) rfl rfl ?_
  refine N_goto (G0 _ _ (by decide) (by decide)) eX12_init_476 ?_
  refine N_iload_n (i := 1) (G0 _ _ (by decide) (by decide)) eX12_init_444 rfl rfl ?_
  refine N_bipush (n := 64) (v := (nI 64)) (G0 _ _ (by decide) (by decide)) eX12_init_445 rfl ?_
  refine N_geF (G0 _ _ (by decide) (by decide)) eX12_init_447 (by decide) ?_
  refine N_aload_n (i := 0) (G0 _ _ (by decide) (by decide)) eX12_init_450 rfl rfl ?_
  refine C_get (v := .ref (s.heap.size + 35)) (G0 _ _ (by decide) (by decide)) K ggX12_120 (by rfl) eX12_init_451 ?_
  refine N_iload_n (i := 1) (G0 _ _ (by decide) (by decide)) eX12_init_454 rfl rfl ?_
  refine N_iload_n (i := 1) (G0 _ _ (by decide) (by decide)) eX12_init_455 rfl rfl ?_
  refine N_bipush (n := 8) (v := (nI 8)) (G0 _ _ (by decide) (by decide)) eX12_init_456 rfl ?_
  refine N_divC (v := (nI 5)) (G0 _ _ (by decide) (by decide)) eX12_init_458 (by decide) (by decide) ?_
  refine N_iload_n (i := 1) (G0 _ _ (by decide) (by decide)) eX12_init_459 rfl rfl ?_
  refine N_bipush (n := 8) (v := (nI 8)) (G0 _ _ (by decide) (by decide)) eX12_init_460 rfl ?_
  refine N_remC (v := (nI 3)) (G0 _ _ (by decide) (by decide)) eX12_init_462 (by decide) (by decide) ?_
  refine N_neT (G0 _ _ (by decide) (by decide)) eX12_init_463 (by decide) ?_
  refine N_bipush (n := 10) (v := (nI 10)) (G0 _ _ (by decide) (by decide)) eX12_init_470 rfl ?_
  refine C_iast (q := 35) (n := 64) (G0 _ _ (by decide) (by decide)) K (cOk_this ho) (by rfl) (by exact vp_in_nI (by decide) (by decide)) eX12_init_472 ?_
  refine N_iincC (i := 1) (v := (nI 44)) (L' := [some (.ref o), some (.int (nI 44))]) (G0 _ _ (by decide) (by decide)) eX12_init_473 rfl (by decide) (by decide) rfl rfl ?_
  refine N_goto (G0 _ _ (by decide) (by decide)) eX12_init_476 ?_
  refine N_iload_n (i := 1) (G0 _ _ (by decide) (by decide)) eX12_init_444 rfl rfl ?_
  refine N_bipush (n := 64) (v := (nI 64)) (G0 _ _ (by decide) (by decide)) eX12_init_445 rfl ?_
  refine N_geF (G0 _ _ (by decide) (by decide)) eX12_init_447 (by decide) ?_
  refine N_aload_n (i := 0) (G0 _ _ (by decide) (by decide)) eX12_init_450 rfl rfl ?_
  refine C_get (v := .ref (s.heap.size + 35)) (G0 _ _ (by decide) (by decide)) K ggX12_120 (by rfl) eX12_init_451 ?_
  refine N_iload_n (i := 1) (G0 _ _ (by decide) (by decide)) eX12_init_454 rfl rfl ?_
  refine N_iload_n (i := 1) (G0 _ _ (by decide) (by decide)) eX12_init_455 rfl rfl ?_
  refine N_bipush (n := 8) (v := (nI 8)) (G0 _ _ (by decide) (by decide)) eX12_init_456 rfl ?_
  refine N_divC (v := (nI 5)) (G0 _ _ (by decide) (by decide)) eX12_init_458 (by decide) (by decide) ?_
  refine N_iload_n (i := 1) (G0 _ _ (by decide) (by decide)) eX12_init_459 rfl rfl ?_
  refine N_bipush (n := 8) (v := (nI 8)) (G0 _ _ (by decide) (by decide)) eX12_init_460 rfl ?_
  refine N_remC (v := (nI 4)) (G0 _ _ (by decide) (by decide)) eX12_init_462 (by decide) (by decide) ?_
  refine N_neT (G0 _ _ (by decide) (by decide)) eX12_init_463 (by decide) ?_
  refine N_bipush (n := 10) (v := (nI 10)) (G0 _ _ (by decide) (by decide)) eX12_init_470 rfl ?_
  refine C_iast (q := 35) (n := 64) (G0 _ _ (by decide) (by decide)) K (cOk_this ho) (by rfl) (by exact vp_in_nI (by decide) (by decide)) eX12_init_472 ?_
  refine N_iincC (i := 1) (v := (nI 45)) (L' := [some (.ref o), some (.int (nI 45))]) (G0 _ _ (by decide) (by decide)) eX12_init_473 rfl (by decide) (by decide) rfl rfl ?_
  refine N_goto (G0 _ _ (by decide) (by decide)) eX12_init_476 ?_
  refine N_iload_n (i := 1) (G0 _ _ (by decide) (by decide)) eX12_init_444 rfl rfl ?_
  refine N_bipush (n := 64) (v := (nI 64)) (G0 _ _ (by decide) (by decide)) eX12_init_445 rfl ?_
  refine N_geF (G0 _ _ (by decide) (by decide)) eX12_init_447 (by decide) ?_
  refine N_aload_n (i := 0) (G0 _ _ (by decide) (by decide)) eX12_init_450 rfl rfl ?_
  refine C_get (v := .ref (s.heap.size + 35)) (G0 _ _ (by decide) (by decide)) K ggX12_120 (by rfl) eX12_init_451 ?_
  refine N_iload_n (i := 1) (G0 _ _ (by decide) (by decide)) eX12_init_454 rfl rfl ?_
  refine N_iload_n (i := 1) (G0 _ _ (by decide) (by decide)) eX12_init_455 rfl rfl ?_
  refine N_bipush (n := 8) (v := (nI 8)) (G0 _ _ (by decide) (by decide)) eX12_init_456 rfl ?_
  refine N_divC (v := (nI 5)) (G0 _ _ (by decide) (by decide)) eX12_init_458 (by decide) (by decide) ?_
  refine N_iload_n (i := 1) (G0 _ _ (by decide) (by decide)) eX12_init_459 rfl rfl ?_
  refine N_bipush (n := 8) (v := (nI 8)) (G0 _ _ (by decide) (by decide)) eX12_init_460 rfl ?_
  refine N_remC (v := (nI 5)) (G0 _ _ (by decide) (by decide)) eX12_init_462 (by decide) (by decide) ?_
  refine N_neF (G0 _ _ (by decide) (by decide)) eX12_init_463 (by decide) ?_
  refine N_iconst (n := 0) (v := (nI 0)) (G0 _ _ (by decide) (by decide)) eX12_init_466 rfl ?_
  refine N_goto (G0 _ _ (by decide) (by decide)) eX12_init_467 ?_
  refine C_iast (q := 35) (n := 64) (G0 _ _ (by decide) (by decide)) K (cOk_this ho) (by rfl) (by exact vp_in_nI (by decide) (by decide)) eX12_init_472 ?_
  refine N_iincC (i := 1) (v := (nI 46)) (L' := [some (.ref o), some (.int (nI 46))]) (G0 _ _ (by decide) (by decide)) eX12_init_473 rfl (by decide) (by decide) rfl rfl ?_
  refine N_goto (G0 _ _ (by decide) (by decide)) eX12_init_476 ?_
  refine N_iload_n (i := 1) (G0 _ _ (by decide) (by decide)) eX12_init_444 rfl rfl ?_
  refine N_bipush (n := 64) (v := (nI 64)) (G0 _ _ (by decide) (by decide)) eX12_init_445 rfl ?_
  refine N_geF (G0 _ _ (by decide) (by decide)) eX12_init_447 (by decide) ?_
  refine N_aload_n (i := 0) (G0 _ _ (by decide) (by decide)) eX12_init_450 rfl rfl ?_
  refine C_get (v := .ref (s.heap.size + 35)) (G0 _ _ (by decide) (by decide)) K ggX12_120 (by rfl) eX12_init_451 ?_
  refine N_iload_n (i := 1) (G0 _ _ (by decide) (by decide)) eX12_init_454 rfl rfl ?_
  refine N_iload_n (i := 1) (G0 _ _ (by decide) (by decide)) eX12_init_455 rfl rfl ?_
  refine N_bipush (n := 8) (v := (nI 8)) (G0 _ _ (by decide) (by decide)) eX12_init_456 rfl ?_
  refine N_divC (v := (nI 5)) (G0 _ _ (by decide) (by decide)) eX12_init_458 (by decide) (by decide) ?_
  refine N_iload_n (i := 1) (G0 _ _ (by decide) (by decide)) eX12_init_459 rfl rfl ?_
  refine N_bipush (n := 8) (v := (nI 8)) (G0 _ _ (by decide) (by decide)) eX12_init_460 rfl ?_
  refine N_remC (v := (nI 6)) (G0 _ _ (by decide) (by decide)) eX12_init_462 (by decide) (by decide) ?_
  refine N_neT (G0 _ _ (by decide) (by decide)) eX12_init_463 (by decide) ?_
  refine N_bipush (n := 10) (v := (nI 10)) (G0 _ _ (by decide) (by decide)) eX12_init_470 rfl ?_
  refine C_iast (q := 35) (n := 64) (G0 _ _ (by decide) (by decide)) K (cOk_this ho) (by rfl) (by exact vp_in_nI (by decide) (by decide)) eX12_init_472 ?_
  refine N_iincC (i := 1) (v := (nI 47)) (L' := [some (.ref o), some (.int (nI 47))]) (G0 _ _ (by decide) (by decide)) eX12_init_473 rfl (by decide) (by decide) rfl rfl ?_
  refine N_goto (G0 _ _ (by decide) (by decide)) eX12_init_476 ?_
  refine N_iload_n (i := 1) (G0 _ _ (by decide) (by decide)) eX12_init_444 rfl rfl ?_
  refine N_bipush (n := 64) (v := (nI 64)) (G0 _ _ (by decide) (by decide)) eX12_init_445 rfl ?_
  refine N_geF (G0 _ _ (by decide) (by decide)) eX12_init_447 (by decide) ?_
  refine N_aload_n (i := 0) (G0 _ _ (by decide) (by decide)) eX12_init_450 rfl rfl ?_
  refine C_get (v := .ref (s.heap.size + 35)) (G0 _ _ (by decide) (by decide)) K ggX12_120 (by rfl) eX12_init_451 ?_
  refine N_iload_n (i := 1) (G0 _ _ (by decide) (by decide)) eX12_init_454 rfl rfl ?_
  refine N_iload_n (i := 1) (G0 _ _ (by decide) (by decide)) eX12_init_455 rfl rfl ?_
  refine N_bipush (n := 8) (v := (nI 8)) (G0 _ _ (by decide) (by decide)) eX12_init_456 rfl ?_
  refine N_divC (v := (nI 5)) (G0 _ _ (by decide) (by decide)) eX12_init_458 (by decide) (by decide) ?_
  refine N_iload_n (i := 1) (G0 _ _ (by decide) (by decide)) eX12_init_459 rfl rfl ?_
  refine N_bipush (n := 8) (v := (nI 8)) (G0 _ _ (by decide) (by decide)) eX12_init_460 rfl ?_
  refine N_remC (v := (nI 7)) (G0 _ _ (by decide) (by decide)) eX12_init_462 (by decide) (by decide) ?_
  refine N_neT (G0 _ _ (by decide) (by decide)) eX12_init_463 (by decide) ?_
  refine N_bipush (n := 10) (v := (nI 10)) (G0 _ _ (by decide) (by decide)) eX12_init_470 rfl ?_
  refine C_iast (q := 35) (n := 64) (G0 _ _ (by decide) (by decide)) K (cOk_this ho) (by rfl) (by exact vp_in_nI (by decide) (by decide)) eX12_init_472 ?_
  refine N_iincC (i := 1) (v := (nI 48)) (L' := [some (.ref o), some (.int (nI 48))]) (G0 _ _ (by decide) (by decide)) eX12_init_473 rfl (by decide) (by decide) rfl rfl ?_
  refine N_goto (G0 _ _ (by decide) (by decide)) eX12_init_476 ?_
  refine N_iload_n (i := 1) (G0 _ _ (by decide) (by decide)) eX12_init_444 rfl rfl ?_
  refine N_bipush (n := 64) (v := (nI 64)) (G0 _ _ (by decide) (by decide)) eX12_init_445 rfl ?_
  refine N_geF (G0 _ _ (by decide) (by decide)) eX12_init_447 (by decide) ?_
  refine N_aload_n (i := 0) (G0 _ _ (by decide) (by decide)) eX12_init_450 rfl rfl ?_
  refine C_get (v := .ref (s.heap.size + 35)) (G0 _ _ (by decide) (by decide)) K ggX12_120 (by rfl) eX12_init_451 ?_
  refine N_iload_n (i := 1) (G0 _ _ (by decide) (by decide)) eX12_init_454 rfl rfl ?_
  refine N_iload_n (i := 1) (G0 _ _ (by decide) (by decide)) eX12_init_455 rfl rfl ?_
  refine N_bipush (n := 8) (v := (nI 8)) (G0 _ _ (by decide) (by decide)) eX12_init_456 rfl ?_
  refine N_divC (v := (nI 6)) (G0 _ _ (by decide) (by decide)) eX12_init_458 (by decide) (by decide) ?_
  refine N_iload_n (i := 1) (G0 _ _ (by decide) (by decide)) eX12_init_459 rfl rfl ?_
  refine N_bipush (n := 8) (v := (nI 8)) (G0 _ _ (by decide) (by decide)) eX12_init_460 rfl ?_
  refine N_remC (v := (nI 0)) (G0 _ _ (by decide) (by decide)) eX12_init_462 (by decide) (by decide) ?_
  refine N_neT (G0 _ _ (by decide) (by decide)) eX12_init_463 (by decide) ?_
  refine N_bipush (n := 10) (v := (nI 10)) (G0 _ _ (by decide) (by decide)) eX12_init_470 rfl ?_
  refine C_iast (q := 35) (n := 64) (G0 _ _ (by decide) (by decide)) K (cOk_this ho) (by rfl) (by exact vp_in_nI (by decide) (by decide)) eX12_init_472 ?_
  refine N_iincC (i := 1) (v := (nI 49)) (L' := [some (.ref o), some (.int (nI 49))]) (G0 _ _ (by decide) (by decide)) eX12_init_473 rfl (by decide) (by decide) rfl rfl ?_
  refine N_goto (G0 _ _ (by decide) (by decide)) eX12_init_476 ?_
  refine N_iload_n (i := 1) (G0 _ _ (by decide) (by decide)) eX12_init_444 rfl rfl ?_
  refine N_bipush (n := 64) (v := (nI 64)) (G0 _ _ (by decide) (by decide)) eX12_init_445 rfl ?_
  refine N_geF (G0 _ _ (by decide) (by decide)) eX12_init_447 (by decide) ?_
  refine N_aload_n (i := 0) (G0 _ _ (by decide) (by decide)) eX12_init_450 rfl rfl ?_
  refine C_get (v := .ref (s.heap.size + 35)) (G0 _ _ (by decide) (by decide)) K ggX12_120 (by rfl) eX12_init_451 ?_
  refine N_iload_n (i := 1) (G0 _ _ (by decide) (by decide)) eX12_init_454 rfl rfl ?_
  refine N_iload_n (i := 1) (G0 _ _ (by decide) (by decide)) eX12_init_455 rfl rfl ?_
  refine N_bipush (n := 8) (v := (nI 8)) (G0 _ _ (by decide) (by decide)) eX12_init_456 rfl ?_
  refine N_divC (v := (nI 6)) (G0 _ _ (by decide) (by decide)) eX12_init_458 (by decide) (by decide) ?_
  refine N_iload_n (i := 1) (G0 _ _ (by decide) (by decide)) eX12_init_459 rfl rfl ?_
  refine N_bipush (n := 8) (v := (nI 8)) (G0 _ _ (by decide) (by decide)) eX12_init_460 rfl ?_
  refine N_remC (v := (nI 1)) (G0 _ _ (by decide) (by decide)) eX12_init_462 (by decide) (by decide) ?_
  refine N_neT (G0 _ _ (by decide) (by decide)) eX12_init_463 (by decide) ?_
  refine N_bipush (n := 10) (v := (nI 10)) (G0 _ _ (by decide) (by decide)) eX12_init_470 rfl ?_
  refine C_iast (q := 35) (n := 64) (G0 _ _ (by decide) (by decide)) K (cOk_this ho) (by rfl) (by exact vp_in_nI (by decide) (by decide)) eX12_init_472 ?_
  refine N_iincC (i := 1) (v := (nI 50)) (L' := [some (.ref o), some (.int (nI 50))]) (G0 _ _ (by decide) (by decide)) eX12_init_473 rfl (by decide) (by decide) rfl rfl ?_
  refine N_goto (G0 _ _ (by decide) (by decide)) eX12_init_476 ?_
  refine N_iload_n (i := 1) (G0 _ _ (by decide) (by decide)) eX12_init_444 rfl rfl ?_
  refine N_bipush (n := 64) (v := (nI 64)) (G0 _ _ (by decide) (by decide)) eX12_init_445 rfl ?_
  refine N_geF (G0 _ _ (by decide) (by decide)) eX12_init_447 (by decide) ?_
  refine N_aload_n (i := 0) (G0 _ _ (by decide) (by decide)) eX12_init_450 rfl rfl ?_
  refine C_get (v := .ref (s.heap.size + 35)) (G0 _ _ (by decide) (by decide)) K ggX12_120 (by rfl) eX12_init_451 ?_
  refine N_iload_n (i := 1) (G0 _ _ (by decide) (by decide)) eX12_init_454 rfl rfl ?_
  refine N_iload_n (i := 1) (G0 _ _ (by decide) (by decide)) eX12_init_455 rfl rfl ?_
  refine N_bipush (n := 8) (v := (nI 8)) (G0 _ _ (by decide) (by decide)) eX12_init_456 rfl ?_
  refine N_divC (v := (nI 6)) (G0 _ _ (by decide) (by decide)) eX12_init_458 (by decide) (by decide) ?_
  refine N_iload_n (i := 1) (G0 _ _ (by decide) (by decide)) eX12_init_459 rfl rfl ?_
  refine N_bipush (n := 8) (v := (nI 8)) (G0 _ _ (by decide) (by decide)) eX12_init_460 rfl ?_
  refine N_remC (v := (nI 2)) (G0 _ _ (by decide) (by decide)) eX12_init_462 (by decide) (by decide) ?_
  refine N_neT (G0 _ _ (by decide) (by decide)) eX12_init_463 (by decide) ?_
  refine N_bipush (n := 10) (v := (nI 10)) (G0 _ _ (by decide) (by decide)) eX12_init_470 rfl ?_
  refine C_iast (q := 35) (n := 64) (G0 _ _ (by decide) (by decide)) K (cOk_this ho) (by rfl) (by exact vp_in_nI (by decide) (by decide)) eX12_init_472 ?_
  refine N_iincC (i := 1) (v := (nI 51)) (L' := [some (.ref o), some (.int (nI 51))]) (G0 _ _ (by decide) (by decide)) eX12_init_473 rfl (by decide) (by decide) rfl rfl ?_
  refine N_goto (G0 _ _ (by decide) (by decide)) eX12_init_476 ?_
  refine N_iload_n (i := 1) (G0 _ _ (by decide) (by decide)) eX12_init_444 rfl rfl ?_
  refine N_bipush (n := 64) (v := (nI 64)) (G0 _ _ (by decide) (by decide)) eX12_init_445 rfl ?_
  refine N_geF (G0 _ _ (by decide) (by decide)) eX12_init_447 (by decide) ?_
  refine N_aload_n (i := 0) (G0 _ _ (by decide) (by decide)) eX12_init_450 rfl rfl ?_
  refine C_get (v := .ref (s.heap.size + 35)) (G0 _ _ (by decide) (by decide)) K ggX12_120 (by rfl) eX12_init_451 ?_
  refine N_iload_n (i := 1) (G0 _ _ (by decide) (by decide)) eX12_init_454 rfl rfl ?_
  refine N_iload_n (i := 1) (G0 _ _ (by decide) (by decide)) eX12_init_455 rfl rfl ?_
  refine N_bipush (n := 8) (v := (nI 8)) (G0 _ _ (by decide) (by decide)) eX12_init_456 rfl ?_
  refine N_divC (v := (nI 6)) (G0 _ _ (by decide) (by decide)) eX12_init_458 (by decide) (by decide) ?_
  refine N_iload_n (i := 1) (G0 _ _ (by decide) (by decide)) eX12_init_459 rfl rfl ?_
  refine N_bipush (n := 8) (v := (nI 8)) (G0 _ _ (by decide) (by decide)) eX12_init_460 rfl ?_
  refine N_remC (v := (nI 3)) (G0 _ _ (by decide) (by decide)) eX12_init_462 (by decide) (by decide) ?_
  refine N_neT (G0 _ _ (by decide) (by decide)) eX12_init_463 (by decide) ?_
  refine N_bipush (n := 10) (v := (nI 10)) (G0 _ _ (by decide) (by decide)) eX12_init_470 rfl ?_
  refine C_iast (q := 35) (n := 64) (G0 _ _ (by decide) (by decide)) K (cOk_this ho) (by rfl) (by exact vp_in_nI (by decide) (by decide)) eX12_init_472 ?_
  refine N_iincC (i := 1) (v := (nI 52)) (L' := [some (.ref o), some (.int (nI 52))]) (G0 _ _ (by decide) (by decide)) eX12_init_473 rfl (by decide) (by decide) rfl rfl ?_
  refine N_goto (G0 _ _ (by decide) (by decide)) eX12_init_476 ?_
  refine N_iload_n (i := 1) (G0 _ _ (by decide) (by decide)) eX12_init_444 rfl rfl ?_
  refine N_bipush (n := 64) (v := (nI 64)) (G0 _ _ (by decide) (by decide)) eX12_init_445 rfl ?_
  refine N_geF (G0 _ _ (by decide) (by decide)) eX12_init_447 (by decide) ?_
  refine N_aload_n (i := 0) (G0 _ _ (by decide) (by decide)) eX12_init_450 rfl rfl ?_
  refine C_get (v := .ref (s.heap.size + 35)) (G0 _ _ (by decide) (by decide)) K ggX12_120 (by rfl) eX12_init_451 ?_
  refine N_iload_n (i := 1) (G0 _ _ (by decide) (by decide)) eX12_init_454 rfl rfl ?_
  refine N_iload_n (i := 1) (G0 _ _ (by decide) (by decide)) eX12_init_455 rfl rfl ?_
  refine N_bipush (n := 8) (v := (nI 8)) (G0 _ _ (by decide) (by decide)) eX12_init_456 rfl ?_
  refine N_divC (v := (nI 6)) (G0 _ _ (by decide) (by decide)) eX12_init_458 (by decide) (by decide) ?_
  refine N_iload_n (i := 1) (G0 _ _ (by decide) (by decide)) eX12_init_459 rfl rfl ?_
  refine N_bipush (n := 8) (v := (nI 8)) (G0 _ _ (by decide) (by decide)) eX12_init_460 rfl ?_
  refine N_remC (v := (nI 4)) (G0 _ _ (by decide) (by decide)) eX12_init_462 (by decide) (by decide) ?_
  refine N_neT (G0 _ _ (by decide) (by decide)) eX12_init_463 (by decide) ?_
  refine N_bipush (n := 10) (v := (nI 10)) (G0 _ _ (by decide) (by decide)) eX12_init_470 rfl ?_
  refine C_iast (q := 35) (n := 64) (G0 _ _ (by decide) (by decide)) K (cOk_this ho) (by rfl) (by exact vp_in_nI (by decide) (by decide)) eX12_init_472 ?_
  refine N_iincC (i := 1) (v := (nI 53)) (L' := [some (.ref o), some (.int (nI 53))]) (G0 _ _ (by decide) (by decide)) eX12_init_473 rfl (by decide) (by decide) rfl rfl ?_
  refine N_goto (G0 _ _ (by decide) (by decide)) eX12_init_476 ?_
  refine N_iload_n (i := 1) (G0 _ _ (by decide) (by decide)) eX12_init_444 rfl rfl ?_
  refine N_bipush (n := 64) (v := (nI 64)) (G0 _ _ (by decide) (by decide)) eX12_init_445 rfl ?_
  refine N_geF (G0 _ _ (by decide) (by decide)) eX12_init_447 (by decide) ?_
  refine N_aload_n (i := 0) (G0 _ _ (by decide) (by decide)) eX12_init_450 rfl rfl ?_
  refine C_get (v := .ref (s.heap.size + 35)) (G0 _ _ (by decide) (by decide)) K ggX12_120 (by rfl) eX12_init_451 ?_
  refine N_iload_n (i := 1) (G0 _ _ (by decide) (by decide)) eX12_init_454 rfl rfl ?_
  refine N_iload_n (i := 1) (G0 _ _ (by decide) (by decide)) eX12_init_455 rfl rfl ?_
  refine N_bipush (n := 8) (v := (nI 8)) (G0 _ _ (by decide) (by decide)) eX12_init_456 rfl ?_
  refine N_divC (v := (nI 6)) (G0 _ _ (by decide) (by decide)) eX12_init_458 (by decide) (by decide) ?_
  refine N_iload_n (i := 1) (G0 _ _ (by decide) (by decide)) eX12_init_459 rfl rfl ?_
  refine N_bipush (n := 8) (v := (nI 8)) (G0 _ _ (by decide) (by decide)) eX12_init_460 rfl ?_
  refine N_remC (v := (nI 5)) (G0 _ _ (by decide) (by decide)) eX12_init_462 (by decide) (by decide) ?_
  refine N_neT (G0 _ _ (by decide) (by decide)) eX12_init_463 (by decide) ?_
  refine N_bipush (n := 10) (v := (nI 10)) (G0 _ _ (by decide) (by decide)) eX12_init_470 rfl ?_
  refine C_iast (q := 35) (n := 64) (G0 _ _ (by decide) (by decide)) K (cOk_this ho) (by rfl) (by exact vp_in_nI (by decide) (by decide)) eX12_init_472 ?_
  refine N_iincC (i := 1) (v := (nI 54)) (L' := [some (.ref o), some (.int (nI 54))]) (G0 _ _ (by decide) (by decide)) eX12_init_473 rfl (by decide) (by decide) rfl rfl ?_
  refine N_goto (G0 _ _ (by decide) (by decide)) eX12_init_476 ?_
  refine N_iload_n (i := 1) (G0 _ _ (by decide) (by decide)) eX12_init_444 rfl rfl ?_
  refine N_bipush (n := 64) (v := (nI 64)) (G0 _ _ (by decide) (by decide)) eX12_init_445 rfl ?_
  refine N_geF (G0 _ _ (by decide) (by decide)) eX12_init_447 (by decide) ?_
  refine N_aload_n (i := 0) (G0 _ _ (by decide) (by decide)) eX12_init_450 rfl rfl ?_
  refine C_get (v := .ref (s.heap.size + 35)) (G0 _ _ (by decide) (by decide)) K ggX12_120 (by rfl) eX12_init_451 ?_
  refine N_iload_n (i := 1) (G0 _ _ (by decide) (by decide)) eX12_init_454 rfl rfl ?_
  refine N_iload_n (i := 1) (G0 _ _ (by decide) (by decide)) eX12_init_455 rfl rfl ?_
  refine N_bipush (n := 8) (v := (nI 8)) (G0 _ _ (by decide) (by decide)) eX12_init_456 rfl ?_
  refine N_divC (v := (nI 6)) (G0 _ _ (by decide) (by decide)) eX12_init_458 (by decide) (by decide) ?_
  refine N_iload_n (i := 1) (G0 _ _ (by decide) (by decide)) eX12_init_459 rfl rfl ?_
  refine N_bipush (n := 8) (v := (nI 8)) (G0 _ _ (by decide) (by decide)) eX12_init_460 rfl ?_
  refine N_remC (v := (nI 6)) (G0 _ _ (by decide) (by decide)) eX12_init_462 (by decide) (by decide) ?_
  refine N_neF (G0 _ _ (by decide) (by decide)) eX12_init_463 (by decide) ?_
  refine N_iconst (n := 0) (v := (nI 0)) (G0 _ _ (by decide) (by decide)) eX12_init_466 rfl ?_
  refine N_goto (G0 _ _ (by decide) (by decide)) eX12_init_467 ?_
  refine C_iast (q := 35) (n := 64) (G0 _ _ (by decide) (by decide)) K (cOk_this ho) (by rfl) (by exact vp_in_nI (by decide) (by decide)) eX12_init_472 ?_
  refine N_iincC (i := 1) (v := (nI 55)) (L' := [some (.ref o), some (.int (nI 55))]) (G0 _ _ (by decide) (by decide)) eX12_init_473 rfl (by decide) (by decide) rfl rfl ?_
  refine N_goto (G0 _ _ (by decide) (by decide)) eX12_init_476 ?_
  refine N_iload_n (i := 1) (G0 _ _ (by decide) (by decide)) eX12_init_444 rfl rfl ?_
  refine N_bipush (n := 64) (v := (nI 64)) (G0 _ _ (by decide) (by decide)) eX12_init_445 rfl ?_
  refine N_geF (G0 _ _ (by decide) (by decide)) eX12_init_447 (by decide) ?_
  refine N_aload_n (i := 0) (G0 _ _ (by decide) (by decide)) eX12_init_450 rfl rfl ?_
  refine C_get (v := .ref (s.heap.size + 35)) (G0 _ _ (by decide) (by decide)) K ggX12_120 (by rfl) eX12_init_451 ?_
  refine N_iload_n (i := 1) (G0 _ _ (by decide) (by decide)) eX12_init_454 rfl rfl ?_
  refine N_iload_n (i := 1) (G0 _ _ (by decide) (by decide)) eX12_init_455 rfl rfl ?_
  refine N_bipush (n := 8) (v := (nI 8)) (G0 _ _ (by decide) (by decide)) eX12_init_456 rfl ?_
  refine N_divC (v := (nI 6)) (G0 _ _ (by decide) (by decide)) eX12_init_458 (by decide) (by decide) ?_
  refine N_iload_n (i := 1) (G0 _ _ (by decide) (by decide)) eX12_init_459 rfl rfl ?_
  refine N_bipush (n := 8) (v := (nI 8)) (G0 _ _ (by decide) (by decide)) eX12_init_460 rfl ?_
  refine N_remC (v := (nI 7)) (G0 _ _ (by decide) (by decide)) eX12_init_462 (by decide) (by decide) ?_
  refine N_neT (G0 _ _ (by decide) (by decide)) eX12_init_463 (by decide) ?_
  refine N_bipush (n := 10) (v := (nI 10)) (G0 _ _ (by decide) (by decide)) eX12_init_470 rfl ?_
  refine C_iast (q := 35) (n := 64) (G0 _ _ (by decide) (by decide)) K (cOk_this ho) (by rfl) (by exact vp_in_nI (by decide) (by decide)) eX12_init_472 ?_
  refine N_iincC (i := 1) (v := (nI 56)) (L' := [some (.ref o), some (.int (nI 56))]) (G0 _ _ (by decide) (by decide)) eX12_init_473 rfl (by decide) (by decide) rfl rfl ?_
  refine N_goto (G0 _ _ (by decide) (by decide)) eX12_init_476 ?_
  refine N_iload_n (i := 1) (G0 _ _ (by decide) (by decide)) eX12_init_444 rfl rfl ?_
  refine N_bipush (n := 64) (v := (nI 64)) (G0 _ _ (by decide) (by decide)) eX12_init_445 rfl ?_
  refine N_geF (G0 _ _ (by decide) (by decide)) eX12_init_447 (by decide) ?_
  refine N_aload_n (i := 0) (G0 _ _ (by decide) (by decide)) eX12_init_450 rfl rfl ?_
  refine C_get (v := .ref (s.heap.size + 35)) (G0 _ _ (by decide) (by decide)) K ggX12_120 (by rfl) eX12_init_451 ?_
  refine N_iload_n (i := 1) (G0 _ _ (by decide) (by decide)) eX12_init_454 rfl rfl ?_
  refine N_iload_n (i := 1) (G0 _ _ (by decide) (by decide)) eX12_init_455 rfl rfl ?_
  refine N_bipush (n := 8) (v := (nI 8)) (G0 _ _ (by decide) (by decide)) eX12_init_456 rfl ?_
  refine N_divC (v := (nI 7)) (G0 _ _ (by decide) (by decide)) eX12_init_458 (by decide) (by decide) ?_
  refine N_iload_n (i := 1) (G0 _ _ (by decide) (by decide)) eX12_init_459 rfl rfl ?_
  refine N_bipush (n := 8) (v := (nI 8)) (G0 _ _ (by decide) (by decide)) eX12_init_460 rfl ?_
  refine N_remC (v := (nI 0)) (G0 _ _ (by decide) (by decide)) eX12_init_462 (by decide) (by decide) ?_
  refine N_neT (G0 _ _ (by decide) (by decide)) eX12_init_463 (by decide) ?_
  refine N_bipush (n := 10) (v := (nI 10)) (G0 _ _ (by decide) (by decide)) eX12_init_470 rfl ?_
  refine C_iast (q := 35) (n := 64) (G0 _ _ (by decide) (by decide)) K (cOk_this ho) (by rfl) (by exact vp_in_nI (by decide) (by decide)) eX12_init_472 ?_
  refine N_iincC (i := 1) (v := (nI 57)) (L' := [some (.ref o), some (.int (nI 57))]) (G0 _ _ (by decide) (by decide)) eX12_init_473 rfl (by decide) (by decide) rfl rfl ?_
  refine N_goto (G0 _ _ (by decide) (by decide)) eX12_init_476 ?_
  refine N_iload_n (i := 1) (G0 _ _ (by decide) (by decide)) eX12_init_444 rfl rfl ?_
  refine N_bipush (n := 64) (v := (nI 64)) (G0 _ _ (by decide) (by decide)) eX12_init_445 rfl ?_
  refine N_geF (G0 _ _ (by decide) (by decide)) eX12_init_447 (by decide) ?_
  refine N_aload_n (i := 0) (G0 _ _ (by decide) (by decide)) eX12_init_450 rfl rfl ?_
  refine C_get (v := .ref (s.heap.size + 35)) (G0 _ _ (by decide) (by decide)) K ggX12_120 (by rfl) eX12_init_451 ?_
  refine N_iload_n (i := 1) (G0 _ _ (by decide) (by decide)) eX12_init_454 rfl rfl ?_
  refine N_iload_n (i := 1) (G0 _ _ (by decide) (by decide)) eX12_init_455 rfl rfl ?_
  refine N_bipush (n := 8) (v := (nI 8)) (G0 _ _ (by decide) (by decide)) eX12_init_456 rfl ?_
  refine N_divC (v := (nI 7)) (G0 _ _ (by decide) (by decide)) eX12_init_458 (by decide) (by decide) ?_
  refine N_iload_n (i := 1) (G0 _ _ (by decide) (by decide)) eX12_init_459 rfl rfl ?_
  refine N_bipush (n := 8) (v := (nI 8)) (G0 _ _ (by decide) (by decide)) eX12_init_460 rfl ?_
  refine N_remC (v := (nI 1)) (G0 _ _ (by decide) (by decide)) eX12_init_462 (by decide) (by decide) ?_
  refine N_neT (G0 _ _ (by decide) (by decide)) eX12_init_463 (by decide) ?_
  refine N_bipush (n := 10) (v := (nI 10)) (G0 _ _ (by decide) (by decide)) eX12_init_470 rfl ?_
  refine C_iast (q := 35) (n := 64) (G0 _ _ (by decide) (by decide)) K (cOk_this ho) (by rfl) (by exact vp_in_nI (by decide) (by decide)) eX12_init_472 ?_
  refine N_iincC (i := 1) (v := (nI 58)) (L' := [some (.ref o), some (.int (nI 58))]) (G0 _ _ (by decide) (by decide)) eX12_init_473 rfl (by decide) (by decide) rfl rfl ?_
  refine N_goto (G0 _ _ (by decide) (by decide)) eX12_init_476 ?_
  refine N_iload_n (i := 1) (G0 _ _ (by decide) (by decide)) eX12_init_444 rfl rfl ?_
  refine N_bipush (n := 64) (v := (nI 64)) (G0 _ _ (by decide) (by decide)) eX12_init_445 rfl ?_
  refine N_geF (G0 _ _ (by decide) (by decide)) eX12_init_447 (by decide) ?_
  refine N_aload_n (i := 0) (G0 _ _ (by decide) (by decide)) eX12_init_450 rfl rfl ?_
  refine C_get (v := .ref (s.heap.size + 35)) (G0 _ _ (by decide) (by decide)) K ggX12_120 (by rfl) eX12_init_451 ?_
  refine N_iload_n (i := 1) (G0 _ _ (by decide) (by decide)) eX12_init_454 rfl rfl ?_
  refine N_iload_n (i := 1) (G0 _ _ (by decide) (by decide)) eX12_init_455 rfl rfl ?_
  refine N_bipush (n := 8) (v := (nI 8)) (G0 _ _ (by decide) (by decide)) eX12_init_456 rfl ?_
  refine N_divC (v := (nI 7)) (G0 _ _ (by decide) (by decide)) eX12_init_458 (by decide) (by decide) ?_
  refine N_iload_n (i := 1) (G0 _ _ (by decide) (by decide)) eX12_init_459 rfl rfl ?_
  refine N_bipush (n := 8) (v := (nI 8)) (G0 _ _ (by decide) (by decide)) eX12_init_460 rfl ?_
  refine N_remC (v := (nI 2)) (G0 _ _ (by decide) (by decide)) eX12_init_462 (by decide) (by decide) ?_
  refine N_neT (G0 _ _ (by decide) (by decide)) eX12_init_463 (by decide) ?_
  refine N_bipush (n := 10) (v := (nI 10)) (G0 _ _ (by decide) (by decide)) eX12_init_470 rfl ?_
  refine C_iast (q := 35) (n := 64) (G0 _ _ (by decide) (by decide)) K (cOk_this ho) (by rfl) (by exact vp_in_nI (by decide) (by decide)) eX12_init_472 ?_
  refine N_iincC (i := 1) (v := (nI 59)) (L' := [some (.ref o), some (.int (nI 59))]) (G0 _ _ (by decide) (by decide)) eX12_init_473 rfl (by decide) (by decide) rfl rfl ?_
  refine N_goto (G0 _ _ (by decide) (by decide)) eX12_init_476 ?_
  refine N_iload_n (i := 1) (G0 _ _ (by decide) (by decide)) eX12_init_444 rfl rfl ?_
  refine N_bipush (n := 64) (v := (nI 64)) (G0 _ _ (by decide) (by decide)) eX12_init_445 rfl ?_
  refine N_geF (G0 _ _ (by decide) (by decide)) eX12_init_447 (by decide) ?_
  refine N_aload_n (i := 0) (G0 _ _ (by decide) (by decide)) eX12_init_450 rfl rfl ?_
  refine C_get (v := .ref (s.heap.size + 35)) (G0 _ _ (by decide) (by decide)) K ggX12_120 (by rfl) eX12_init_451 ?_
  refine N_iload_n (i := 1) (G0 _ _ (by decide) (by decide)) eX12_init_454 rfl rfl ?_
  refine N_iload_n (i := 1) (G0 _ _ (by decide) (by decide)) eX12_init_455 rfl rfl ?_
  refine N_bipush (n := 8) (v := (nI 8)) (G0 _ _ (by decide) (by decide)) eX12_init_456 rfl ?_
  refine N_divC (v := (nI 7)) (G0 _ _ (by decide) (by decide)) eX12_init_458 (by decide) (by decide) ?_
  refine N_iload_n (i := 1) (G0 _ _ (by decide) (by decide)) eX12_init_459 rfl rfl ?_
  refine N_bipush (n := 8) (v := (nI 8)) (G0 _ _ (by decide) (by decide)) eX12_init_460 rfl ?_
  refine N_remC (v := (nI 3)) (G0 _ _ (by decide) (by decide)) eX12_init_462 (by decide) (by decide) ?_
  refine N_neT (G0 _ _ (by decide) (by decide)) eX12_init_463 (by decide) ?_
  refine N_bipush (n := 10) (v := (nI 10)) (G0 _ _ (by decide) (by decide)) eX12_init_470 rfl ?_
  refine C_iast (q := 35) (n := 64) (G0 _ _ (by decide) (by decide)) K (cOk_this ho) (by rfl) (by exact vp_in_nI (by decide) (by decide)) eX12_init_472 ?_
  refine N_iincC (i := 1) (v := (nI 60)) (L' := [some (.ref o), some (.int (nI 60))]) (G0 _ _ (by decide) (by decide)) eX12_init_473 rfl (by decide) (by decide) rfl rfl ?_
  refine N_goto (G0 _ _ (by decide) (by decide)) eX12_init_476 ?_
  refine N_iload_n (i := 1) (G0 _ _ (by decide) (by decide)) eX12_init_444 rfl rfl ?_
  refine N_bipush (n := 64) (v := (nI 64)) (G0 _ _ (by decide) (by decide)) eX12_init_445 rfl ?_
  refine N_geF (G0 _ _ (by decide) (by decide)) eX12_init_447 (by decide) ?_
  refine N_aload_n (i := 0) (G0 _ _ (by decide) (by decide)) eX12_init_450 rfl rfl ?_
  refine C_get (v := .ref (s.heap.size + 35)) (G0 _ _ (by decide) (by decide)) K ggX12_120 (by rfl) eX12_init_451 ?_
  refine N_iload_n (i := 1) (G0 _ _ (by decide) (by decide)) eX12_init_454 rfl rfl ?_
  refine N_iload_n (i := 1) (G0 _ _ (by decide) (by decide)) eX12_init_455 rfl rfl ?_
  refine N_bipush (n := 8) (v := (nI 8)) (G0 _ _ (by decide) (by decide)) eX12_init_456 rfl ?_
  refine N_divC (v := (nI 7)) (G0 _ _ (by decide) (by decide)) eX12_init_458 (by decide) (by decide) ?_
  refine N_iload_n (i := 1) (G0 _ _ (by decide) (by decide)) eX12_init_459 rfl rfl ?_
  refine N_bipush (n := 8) (v := (nI 8)) (G0 _ _ (by decide) (by decide)) eX12_init_460 rfl ?_
  refine N_remC (v := (nI 4)) (G0 _ _ (by decide) (by decide)) eX12_init_462 (by decide) (by decide) ?_
  refine N_neT (G0 _ _ (by decide) (by decide)) eX12_init_463 (by decide) ?_
  refine N_bipush (n := 10) (v := (nI 10)) (G0 _ _ (by decide) (by decide)) eX12_init_470 rfl ?_
  refine C_iast (q := 35) (n := 64) (G0 _ _ (by decide) (by decide)) K (cOk_this ho) (by rfl) (by exact vp_in_nI (by decide) (by decide)) eX12_init_472 ?_
  refine N_iincC (i := 1) (v := (nI 61)) (L' := [some (.ref o), some (.int (nI 61))]) (G0 _ _ (by decide) (by decide)) eX12_init_473 rfl (by decide) (by decide) rfl rfl ?_
  refine N_goto (G0 _ _ (by decide) (by decide)) eX12_init_476 ?_
  refine N_iload_n (i := 1) (G0 _ _ (by decide) (by decide)) eX12_init_444 rfl rfl ?_
  refine N_bipush (n := 64) (v := (nI 64)) (G0 _ _ (by decide) (by decide)) eX12_init_445 rfl ?_
  refine N_geF (G0 _ _ (by decide) (by decide)) eX12_init_447 (by decide) ?_
  refine N_aload_n (i := 0) (G0 _ _ (by decide) (by decide)) eX12_init_450 rfl rfl ?_
  refine C_get (v := .ref (s.heap.size + 35)) (G0 _ _ (by decide) (by decide)) K ggX12_120 (by rfl) eX12_init_451 ?_
  refine N_iload_n (i := 1) (G0 _ _ (by decide) (by decide)) eX12_init_454 rfl rfl ?_
  refine N_iload_n (i := 1) (G0 _ _ (by decide) (by decide)) eX12_init_455 rfl rfl ?_
  refine N_bipush (n := 8) (v := (nI 8)) (G0 _ _ (by decide) (by decide)) eX12_init_456 rfl ?_
  refine N_divC (v := (nI 7)) (G0 _ _ (by decide) (by decide)) eX12_init_458 (by decide) (by decide) ?_
  refine N_iload_n (i := 1) (G0 _ _ (by decide) (by decide)) eX12_init_459 rfl rfl ?_
  refine N_bipush (n := 8) (v := (nI 8)) (G0 _ _ (by decide) (by decide)) eX12_init_460 rfl ?_
  refine N_remC (v := (nI 5)) (G0 _ _ (by decide) (by decide)) eX12_init_462 (by decide) (by decide) ?_
  refine N_neT (G0 _ _ (by decide) (by decide)) eX12_init_463 (by decide) ?_
  refine N_bipush (n := 10) (v := (nI 10)) (G0 _ _ (by decide) (by decide)) eX12_init_470 rfl ?_
  refine C_iast (q := 35) (n := 64) (G0 _ _ (by decide) (by decide)) K (cOk_this ho) (by rfl) (by exact vp_in_nI (by decide) (by decide)) eX12_init_472 ?_
  refine N_iincC (i := 1) (v := (nI 62)) (L' := [some (.ref o), some (.int (nI 62))]) (G0 _ _ (by decide) (by decide)) eX12_init_473 rfl (by decide) (by decide) rfl rfl ?_
  refine N_goto (G0 _ _ (by decide) (by decide)) eX12_init_476 ?_
  refine N_iload_n (i := 1) (G0 _ _ (by decide) (by decide)) eX12_init_444 rfl rfl ?_
  refine N_bipush (n := 64) (v := (nI 64)) (G0 _ _ (by decide) (by decide)) eX12_init_445 rfl ?_
  refine N_geF (G0 _ _ (by decide) (by decide)) eX12_init_447 (by decide) ?_
  refine N_aload_n (i := 0) (G0 _ _ (by decide) (by decide)) eX12_init_450 rfl rfl ?_
  refine C_get (v := .ref (s.heap.size + 35)) (G0 _ _ (by decide) (by decide)) K ggX12_120 (by rfl) eX12_init_451 ?_
  refine N_iload_n (i := 1) (G0 _ _ (by decide) (by decide)) eX12_init_454 rfl rfl ?_
  refine N_iload_n (i := 1) (G0 _ _ (by decide) (by decide)) eX12_init_455 rfl rfl ?_
  refine N_bipush (n := 8) (v := (nI 8)) (G0 _ _ (by decide) (by decide)) eX12_init_456 rfl ?_
  refine N_divC (v := (nI 7)) (G0 _ _ (by decide) (by decide)) eX12_init_458 (by decide) (by decide) ?_
  refine N_iload_n (i := 1) (G0 _ _ (by decide) (by decide)) eX12_init_459 rfl rfl ?_
  refine N_bipush (n := 8) (v := (nI 8)) (G0 _ _ (by decide) (by decide)) eX12_init_460 rfl ?_
  refine N_remC (v := (nI 6)) (G0 _ _ (by decide) (by decide)) eX12_init_462 (by decide) (by decide) ?_
  refine N_neT (G0 _ _ (by decide) (by decide)) eX12_init_463 (by decide) ?_
  refine N_bipush (n := 10) (v := (nI 10)) (G0 _ _ (by decide) (by decide)) eX12_init_470 rfl ?_
  refine C_iast (q := 35) (n := 64) (G0 _ _ (by decide) (by decide)) K (cOk_this ho) (by rfl) (by exact vp_in_nI (by decide) (by decide)) eX12_init_472 ?_
  refine N_iincC (i := 1) (v := (nI 63)) (L' := [some (.ref o), some (.int (nI 63))]) (G0 _ _ (by decide) (by decide)) eX12_init_473 rfl (by decide) (by decide) rfl rfl ?_
  refine N_goto (G0 _ _ (by decide) (by decide)) eX12_init_476 ?_
  refine N_iload_n (i := 1) (G0 _ _ (by decide) (by decide)) eX12_init_444 rfl rfl ?_
  refine N_bipush (n := 64) (v := (nI 64)) (G0 _ _ (by decide) (by decide)) eX12_init_445 rfl ?_
  refine N_geF (G0 _ _ (by decide) (by decide)) eX12_init_447 (by decide) ?_
  refine N_aload_n (i := 0) (G0 _ _ (by decide) (by decide)) eX12_init_450 rfl rfl ?_
  refine C_get (v := .ref (s.heap.size + 35)) (G0 _ _ (by decide) (by decide)) K ggX12_120 (by rfl) eX12_init_451 ?_
  refine N_iload_n (i := 1) (G0 _ _ (by decide) (by decide)) eX12_init_454 rfl rfl ?_
  refine N_iload_n (i := 1) (G0 _ _ (by decide) (by decide)) eX12_init_455 rfl rfl ?_
  refine N_bipush (n := 8) (v := (nI 8)) (G0 _ _ (by decide) (by decide)) eX12_init_456 rfl ?_
  refine N_divC (v := (nI 7)) (G0 _ _ (by decide) (by decide)) eX12_init_458 (by decide) (by decide) ?_
  refine N_iload_n (i := 1) (G0 _ _ (by decide) (by decide)) eX12_init_459 rfl rfl ?_
  refine N_bipush (n := 8) (v := (nI 8)) (G0 _ _ (by decide) (by decide)) eX12_init_460 rfl ?_
  refine N_remC (v := (nI 7)) (G0 _ _ (by decide) (by decide)) eX12_init_462 (by decide) (by decide) ?_
  refine N_neF (G0 _ _ (by decide) (by decide)) eX12_init_463 (by decide) ?_
  refine N_iconst (n := 0) (v := (nI 0)) (G0 _ _ (by decide) (by decide)) eX12_init_466 rfl ?_
  refine N_goto (G0 _ _ (by decide) (by decide)) eX12_init_467 ?_
  refine C_iast (q := 35) (n := 64) (G0 _ _ (by decide) (by decide)) K (cOk_this ho) (by rfl) (by exact vp_in_nI (by decide) (by decide)) eX12_init_472 ?_
  refine N_iincC (i := 1) (v := (nI 64)) (L' := [some (.ref o), some (.int (nI 64))]) (G0 _ _ (by decide) (by decide)) eX12_init_473 rfl (by decide) (by decide) rfl rfl ?_
  refine N_goto (G0 _ _ (by decide) (by decide)) eX12_init_476 ?_
  refine N_iload_n (i := 1) (G0 _ _ (by decide) (by decide)) eX12_init_444 rfl rfl ?_
  refine N_bipush (n := 64) (v := (nI 64)) (G0 _ _ (by decide) (by decide)) eX12_init_445 rfl ?_
  refine N_geT (G0 _ _ (by decide) (by decide)) eX12_init_447 (by decide) ?_
  exact C_ret (G0 _ _ (by decide) (by decide)) hr hlk rfl eX12_init_479
