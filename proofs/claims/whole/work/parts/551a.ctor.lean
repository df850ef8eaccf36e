def X9_fs (h : Nat) : List Value := [.ref (h + 0), .int 0, .int 0, .int (-1)]
def X9_ds (w : Wld) (h : Nat) : List va_E := [.inl (w.2.1 0, (120, .inl (fun _ => 0)))]
set_option maxRecDepth 100000 in
set_option maxHeartbeats 4000000 in
theorem X9_c {l : Launch} {w : Wld} {o sz : Nat} : CtC l w yX9_init cX9_init 1 1 [.ref o] o 9 sz [.null, .int 0, .int 0, .int 0] (X9_fs sz) (X9_ds w) 1 120 := by
  refine CtC_of (own := "PotBook$Tape") [some (.ref o)] (by decide +kernel) rfl rfl rfl (Nat.le_of_ble_eq_true rfl) ?_
  intro p e s m args below meth c hx hb hml hown hts K hsz ho hin hr hlk
  subst hsz
  have G0 : ∀ kc ns : Nat, kc ≤ 1 → ns ≤ 120 → Cxg p (rmC 1 1 120) s m args meth c cX9_init 1 "PotBook$Tape" kc ns := fun kc ns h1 h2 => ⟨hx, hb, hml, hown, hts, h1, h2⟩
  refine N_aload_n (i := 0) (G0 _ _ (by decide) (by decide)) eX9_init_0 rfl rfl ?_
  refine C_objInit (G0 _ _ (by decide) (by decide)) oiX9_3 (by decide) (Nat.le_of_ble_eq_true rfl) (by decide) eX9_init_1 ?_
  refine N_aload_n (i := 0) (G0 _ _ (by decide) (by decide)) eX9_init_4 rfl rfl ?_
  refine N_bipush (n := 120) (v := (nI 120)) (G0 _ _ (by decide) (by decide)) eX9_init_5 rfl ?_
  refine L_newarr (n' := 0) (ty := .int) (i := 0) (atype := .int) (N := 120) (z := (120, .inl (fun _ => 0))) (G0 _ _ (by decide) (by decide)) K (by rfl) rfl rfl (fun _ h => h) aw_I (by decide) (by decide) (by decide) (fun _ => rfl) (by decide) (by decide) eX9_init_7 ?_
  refine L_putF (fs' := [.ref (s.heap.size + 0), .int 0, .int 0, .int 0]) (G0 _ _ (by decide) (by decide)) K hin ho (by rfl) ffX9_9 rfl rfl (by exact Nat.le_of_ble_eq_true rfl) eX9_init_9 ?_
  refine N_aload_n (i := 0) (G0 _ _ (by decide) (by decide)) eX9_init_12 rfl rfl ?_
  refine N_iconst (n := -1) (v := (-1)) (G0 _ _ (by decide) (by decide)) eX9_init_13 rfl ?_
  refine L_put (x := (-1)) (fs' := [.ref (s.heap.size + 0), .int 0, .int 0, .int (-1)]) (G0 _ _ (by decide) (by decide)) K ho (by rfl) gnX9_15 fq_9_3 (by exact Nat.le_of_ble_eq_true rfl) eX9_init_14 ?_
  exact C_ret (G0 _ _ (by decide) (by decide)) hr hlk rfl eX9_init_17
