def X3_fs (h : Nat) (a1 : Nat) (a2 : Nat) : List Value := [.ref a1, .ref a2]
def X3_ds (w : Wld) (h : Nat) : List va_E := []
set_option maxRecDepth 100000 in
set_option maxHeartbeats 4000000 in
theorem X3_c {l : Launch} {w : Wld} {o sz a1 a2 : Nat} : CtC l w yX3_init cX3_init 3 1 [.ref o, .ref a1, .ref a2] o 3 sz [.null, .null] (X3_fs sz a1 a2) (X3_ds w) 0 0 := by
  refine CtC_of (own := "PotBook$LawReader") [some (.ref o), some (.ref a1), some (.ref a2)] (by decide +kernel) rfl rfl rfl (Nat.le_of_ble_eq_true rfl) ?_
  intro p e s m args below meth c hx hb hml hown hts K hsz ho hin hr hlk
  subst hsz
  have G0 : ∀ kc ns : Nat, kc ≤ 0 → ns ≤ 0 → Cxg p (rmC 1 0 0) s m args meth c cX3_init 3 "PotBook$LawReader" kc ns := fun kc ns h1 h2 => ⟨hx, hb, hml, hown, hts, h1, h2⟩
  refine N_aload_n (i := 0) (G0 _ _ (by decide) (by decide)) eX3_init_0 rfl rfl ?_
  refine C_objInit (G0 _ _ (by decide) (by decide)) oiX3_3 (by decide) (Nat.le_of_ble_eq_true rfl) (by decide) eX3_init_1 ?_
  refine N_aload_n (i := 0) (G0 _ _ (by decide) (by decide)) eX3_init_4 rfl rfl ?_
  refine N_aload_n (i := 1) (G0 _ _ (by decide) (by decide)) eX3_init_5 rfl rfl ?_
  refine L_putF (fs' := [.ref a1, .null]) (G0 _ _ (by decide) (by decide)) K hin ho (by rfl) ffX3_9 rfl rfl (by exact Nat.le_of_ble_eq_true rfl) eX3_init_6 ?_
  refine N_aload_n (i := 0) (G0 _ _ (by decide) (by decide)) eX3_init_9 rfl rfl ?_
  refine N_aload_n (i := 2) (G0 _ _ (by decide) (by decide)) eX3_init_10 rfl rfl ?_
  refine L_putF (fs' := [.ref a1, .ref a2]) (G0 _ _ (by decide) (by decide)) K hin ho (by rfl) ffX3_15 rfl rfl (by exact Nat.le_of_ble_eq_true rfl) eX3_init_11 ?_
  exact C_ret (G0 _ _ (by decide) (by decide)) hr hlk rfl eX3_init_14
