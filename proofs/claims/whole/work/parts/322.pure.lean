/-! PURE: calls that tell; the groups that a call leaves alone -/
theorem C_tp.mv {S S' : St} {μ μ' : Mem} {V X : List Nat} (h : C_tp S μ) (a : Ag V S S') (d : nIn V [1001, 1000] = true) (F : Fr X μ μ') (e : nIn X [1000, 1001] = true) : C_tp S' μ' := (h.ag a d).fr fun v hv => F.i v (nIn_of e hv)
theorem C_th.mv {S S' : St} {μ μ' : Mem} {V X : List Nat} (h : C_th S μ) (a : Ag V S S') (d : nIn V [808, 807, 800, 801, 802, 803, 804, 805, 806] = true) (F : Fr X μ μ') (e : nIn X [800, 801, 802, 803, 804, 805, 806, 807, 808] = true) : C_th S' μ' := (h.ag a d).fr fun v hv => F.i v (nIn_of e hv)
theorem C_pg.mv {S S' : St} {μ μ' : Mem} {V X : List Nat} (h : C_pg S μ) (a : Ag V S S') (d : nIn V [712, 702, 703, 704, 705, 706, 707, 709, 708, 710, 711] = true) (F : Fr X μ μ') (e : nIn X [702, 703, 704, 705, 706, 707, 708, 709, 710, 711, 712] = true) : C_pg S' μ' := (h.ag a d).fr fun v hv => F.i v (nIn_of e hv)
theorem C_tr.mv {S S' : St} {μ μ' : Mem} {V X : List Nat} (h : C_tr S μ) (a : Ag V S S') (d : nIn V [507, 505, 506] = true) (F : Fr X μ μ') (e : nIn X [505, 506, 507] = true) : C_tr S' μ' := (h.ag a d).fr fun v hv => F.i v (nIn_of e hv)
theorem C_ho.mv {S S' : St} {μ μ' : Mem} {V X : List Nat} (h : C_ho S μ) (a : Ag V S S') (d : nIn V [903, 904, 905, 906, 907] = true) (F : Fr X μ μ') (e : nIn X [903, 904, 905, 906, 907] = true) : C_ho S' μ' := (h.ag a d).fr fun v hv => F.i v (nIn_of e hv)
theorem C_bk.mv {S S' : St} {μ μ' : Mem} {V X : List Nat} (h : C_bk S μ) (a : Ag V S S') (d : nIn V [206, 200, 201, 202] = true) (F : Fr X μ μ') (e : nIn X [200, 201, 202, 206] = true) : C_bk S' μ' := (h.ag a d).fr fun v hv => F.i v (nIn_of e hv)
theorem C_dy.mv {S S' : St} {μ μ' : Mem} {V X : List Nat} (h : C_dy S μ) (a : Ag V S S') (d : nIn V [106, 103, 104, 105] = true) (F : Fr X μ μ') (e : nIn X [103, 104, 105, 106] = true) : C_dy S' μ' := (h.ag a d).fr fun v hv => F.i v (nIn_of e hv)
theorem M_tp.mv {S S' : St} {μ μ' : Mem} {V X : List Nat} (h : M_tp S μ) (a : Ag V S S') (d : nIn V [1001, 1000] = true) (F : Fr X μ μ') (e : nIn X [1301, 1302] = true) : M_tp S' μ' := (h.ag a d).fr fun v hv => F.i v (nIn_of e hv)
theorem M_th.mv {S S' : St} {μ μ' : Mem} {V X : List Nat} (h : M_th S μ) (a : Ag V S S') (d : nIn V [808, 800, 801, 802, 803, 809, 804, 805, 806] = true) (F : Fr X μ μ') (e : nIn X [1306, 1307, 1308, 1309, 1310, 1311, 1312, 1313, 1314] = true) : M_th S' μ' := (h.ag a d).fr fun v hv => F.i v (nIn_of e hv)
theorem M_pg.mv {S S' : St} {μ μ' : Mem} {V X : List Nat} (h : M_pg S μ) (a : Ag V S S') (d : nIn V [712, 702, 703, 704, 705, 709, 708, 711] = true) (F : Fr X μ μ') (e : nIn X [1315, 1316, 1317, 1318, 1319, 1320, 1321, 1322] = true) : M_pg S' μ' := (h.ag a d).fr fun v hv => F.i v (nIn_of e hv)
theorem M_tr.mv {S S' : St} {μ μ' : Mem} {V X : List Nat} (h : M_tr S μ) (a : Ag V S S') (d : nIn V [507, 1345, 1346, 1347] = true) (F : Fr X μ μ') (e : nIn X [1345, 1346, 1347, 1348] = true) : M_tr S' μ' := (h.ag a d).fr fun v hv => F.i v (nIn_of e hv)
theorem M_ho.mv {S S' : St} {μ μ' : Mem} {V X : List Nat} (h : M_ho S μ) (a : Ag V S S') (d : nIn V [903, 904, 1334, 1335, 1336, 1337] = true) (F : Fr X μ μ') (e : nIn X [1334, 1335, 1336, 1337, 1338, 1339] = true) : M_ho S' μ' := (h.ag a d).fr fun v hv => F.i v (nIn_of e hv)
theorem M_bk.mv {S S' : St} {μ μ' : Mem} {V X : List Nat} (h : M_bk S μ) (a : Ag V S S') (d : nIn V [206, 200, 201, 202] = true) (F : Fr X μ μ') (e : nIn X [1349, 1350, 1351, 1354] = true) : M_bk S' μ' := (h.ag a d).fr fun v hv => F.i v (nIn_of e hv)
theorem M_dy.mv {S S' : St} {μ μ' : Mem} {V X : List Nat} (h : M_dy S μ) (a : Ag V S S') (d : nIn V [106, 103, 104, 105] = true) (F : Fr X μ μ') (e : nIn X [1355, 1356, 1357, 1358] = true) : M_dy S' μ' := (h.ag a d).fr fun v hv => F.i v (nIn_of e hv)
theorem C_lw.mv {S S' : St} {μ μ' : Mem} {V X : List Nat} (h : C_lw S μ) (a : Ag V S S') (d : nIn V [504] = true) (hL : sL S' = sL S) (F : Fr X μ μ') (e : nIn X [500, 501, 504] = true) : C_lw S' μ' := (h.ag a d fun l _ => by rw [hL]).fr fun v hv => F.i v (nIn_of e hv)
theorem M_lw.mv {S S' : St} {μ μ' : Mem} {V X : List Nat} (h : M_lw S μ) (a : Ag V S S') (d : nIn V [504] = true) (hL : sL S' = sL S) (F : Fr X μ μ') (e : nIn X [1323, 1324, 1326, 1327, 1328, 1329, 1330] = true) : M_lw S' μ' := (h.ag a d fun l _ => by rw [hL]).fr fun v hv => F.i v (nIn_of e hv)
theorem C_kn.mv {S S' : St} {μ μ' : Mem} {V X : List Nat} (h : C_kn S μ) (a : Ag V S S') (d : nIn V [706, 708, 709, 712] = true) (F : Fr X μ μ') (e : nIn X [301, 302, 303] = true) : C_kn S' μ' := (h.ag a d).fr fun v hv => F.i v (nIn_of e hv)
theorem C_ca.mv {S S' : St} {μ μ' : Mem} {V X : List Nat} (W : WF S) (h9 : sN S 908 0 0 < 2147480000) (h : C_ca S μ) (a : Ag V S S') (d : nIn V [702, 703, 704, 705, 706, 710, 800, 801, 802, 807, 903, 905, 906, 907] = true) (d' : nIn V [908, 712] = true) (hL : sL S' = sL S) (F : Fr X μ μ') (e : nIn X [908, 909, 910, 911, 912, 913, 914, 915, 916, 918] = true) : C_ca S' μ' :=
  (C_ca.ag W h (by omega) (a.n d' 908 (by decide) 0 0) (Nat.le_of_eq (a.n d' 712 (by decide) 0 0).symm) (by have := W.pg.1; have e : nPg S' = nPg S := a.n d' 712 (by decide) 0 0; omega) fun p _ => AgP.of a d hL p).fr fun v hv => F.i v (nIn_of e hv)
def Mut (B M : Mem → Option (Int32 × Mem)) : Prop := ∀ (S : St) (μ ν : Mem), WF S → CR S μ → MR S ν → sN S 908 0 0 < 2147480000 → ∃ r S' μ' ν', B μ = some (r, μ') ∧ M ν = some (r, ν') ∧ WF S' ∧ CR S' μ' ∧ MR S' ν' ∧ sN S' 908 0 0 ≤ sN S 908 0 0 + 1

/-! slips, readings, books -/
theorem q_slip (x y z : Int32) : Mut (B_slip x y z) (M_slip x y z) := by
  intro S μ ν W C R h9
  have same : ∃ r S' μ' ν', some (nI 0, μ) = some (r, μ') ∧ some (nI 0, ν) = some (r, ν') ∧ WF S' ∧ CR S' μ' ∧ MR S' ν' ∧ sN S' 908 0 0 ≤ sN S 908 0 0 + 1 := ⟨_, S, _, _, rfl, rfl, W, C, R, by omega⟩
  unfold B_slip M_slip B_isWord
  rw [within_in]
  rcases in_nat x 0 7 (by decide) (by decide) with h | ⟨u, -, hu, rfl, h⟩
  · simp only [h, rz_0, rz_1, bS, if_neg n10, if_pos z00]; exact same
  rcases in_nat y 0 7 (by decide) (by decide) with h' | ⟨v, -, hv, rfl, h'⟩
  · simp only [h, h', rz_0, rz_1, bS, if_neg n10, if_pos z00]; exact same
  by_cases huv : nI u = nI v
  · simp only [h, h', if_pos huv, rz_0, rz_1, bS, if_neg n10, if_pos z00]; exact same
  rcases in_nat z 0 99 (by decide) (by decide) with h'' | ⟨w, -, hw, rfl, h''⟩
  · simp only [h, h', h'', if_neg huv, rz_0, rz_1, bS, if_neg n10, if_pos z00]; exact same
  simp only [h, h', h'', if_neg huv, rz_0, rz_1, bS, if_neg n10, if_pos z00]
  rw [ix_n (by omega) (by decide), bS, wr_n (by omega) (by decide), bS, mul_n, add_n, wr_n (by omega) (by decide), bS]
  have a : Ag [202] S (stN S 202 u v w) := Ag.sn (by simp) Ag.rfl
  have FC : Fr [202] μ (mSI μ 202 u v (nI w)) := fr_si (by simp) Fr.refl
  have FM : Fr [1349] ν (mSI ν 1349 0 (8 * u + v) (nI w)) := fr_si (by simp) Fr.refl
  have h_bk : W_bk (stN S 202 u v w) := ⟨W.bk.1, W.bk.2.1, fun u' v' h1 h2 => by
    rw [sN_N]
    split
    · exact hw
    · exact W.bk.2.2 u' v' h1 h2⟩
  have c_bk : C_bk (stN S 202 u v w) (mSI μ 202 u v (nI w)) := ⟨C.bk.1, C.bk.2.1, fun u' v' h1 h2 => by
    rw [sN_N, I_SI]
    by_cases e : u' = u ∧ v' = v
    · rw [if_pos ⟨rfl, e⟩, if_pos ⟨rfl, e⟩]
    · rw [if_neg (fun q => e q.2), if_neg (fun q => e q.2)]; exact C.bk.2.2 u' v' h1 h2⟩
  have m_bk : M_bk (stN S 202 u v w) (mSI ν 1349 0 (8 * u + v) (nI w)) := ⟨R.bk.1, R.bk.2.1, fun u' v' h1 h2 => by
    rw [sN_N, I_SI]
    by_cases e : u' = u ∧ v' = v
    · rw [if_pos ⟨rfl, rfl, by omega⟩, if_pos ⟨rfl, e⟩]
    · rw [if_neg (fun q => e (by omega)), if_neg (fun q => e q.2)]; exact R.bk.2.2 u' v' h1 h2⟩
  exact ⟨_, _, _, _, rfl, rfl, ⟨W.tp.ag a (by decide), W.th.ag a (by decide), W.pg.ag a (by decide), W.lw.ag a (by decide) (fun _ _ => rfl), W.tr.ag a (by decide), W.ho.ag a (by decide), h_bk, W.dy.ag a (by decide)⟩, ⟨C.tp.mv a (by decide) FC (by decide), C.th.mv a (by decide) FC (by decide), C.pg.mv a (by decide) FC (by decide), C.lw.mv a (by decide) rfl FC (by decide), C.tr.mv a (by decide) FC (by decide), C.ho.mv a (by decide) FC (by decide), c_bk, C.dy.mv a (by decide) FC (by decide), C_ca.mv W h9 C.ca a (by decide) (by decide) rfl FC (by decide), C.kn.mv a (by decide) FC (by decide)⟩, ⟨R.tp.mv a (by decide) FM (by decide), R.th.mv a (by decide) FM (by decide), R.pg.mv a (by decide) FM (by decide), R.lw.mv a (by decide) rfl FM (by decide), R.tr.mv a (by decide) FM (by decide), R.ho.mv a (by decide) FM (by decide), m_bk, R.dy.mv a (by decide) FM (by decide)⟩, Nat.le_succ _⟩
theorem m1_in (x : Int32) (n : Nat) (hn : n ≤ 1000000) : (¬ x = -1 ∧ outN x n ∧ M_in x (-1) (nI n - nI 1) = some (nI 0)) ∨ ((x = -1 ∨ ∃ k, k < n ∧ x = nI k) ∧ M_in x (-1) (nI n - nI 1) = some (nI 1)) := by
  rw [sub1]
  have hd := dI_toInt (n := n) (by omega)
  have h1 : (-1 : Int32).toInt = -1 := im1
  rcases arg_n x n hn with h | ⟨k, hk, rfl⟩
  · by_cases e : x = -1
    · subst e
      refine Or.inr ⟨Or.inl rfl, in_pos ?_ ?_⟩ <;> rw [Int32.lt_iff_toInt_lt] <;> omega
    · have e' : x.toInt ≠ -1 := fun q => e (Int32.toInt_inj.mp (by rw [q, h1]))
      refine Or.inl ⟨e, h, in_neg ?_⟩
      rcases h with h | h
      · left; rw [Int32.lt_iff_toInt_lt] at h ⊢; rw [h1]; rw [i0] at h; omega
      · right; rw [Int32.le_iff_toInt_le, nI_toInt (by omega)] at h; rw [Int32.lt_iff_toInt_lt]; omega
  · have := nI_toInt (n := k) (by omega)
    refine Or.inr ⟨Or.inr ⟨k, hk, rfl⟩, in_pos ?_ ?_⟩ <;> rw [Int32.lt_iff_toInt_lt] <;> omega
theorem q_book (x : Int32) : Mut (B_book x) (M_book x) := by
  intro S μ ν W C R h9
  have h12 := W.bk.1
  have same : ∃ r S' μ' ν', some ((-1 : Int32), μ) = some (r, μ') ∧ some ((-1 : Int32), ν) = some (r, ν') ∧ WF S' ∧ CR S' μ' ∧ MR S' ν' ∧ sN S' 908 0 0 ≤ sN S 908 0 0 + 1 := ⟨_, S, _, _, rfl, rfl, W, C, R, by omega⟩
  unfold B_book M_book kj
  rw [R.bk.1]
  have go : (x = -1 ∨ ∃ k, k < nBk S ∧ x = nI k) → M_in x (-1) (nI (nBk S) - nI 1) = some (nI 1) → ∃ r S' μ' ν', (if (mI μ 206 0 0) < (nI 12) then ((Copies_put x μ).bind fun (x3, μ4) => some (x3, μ4)) else some ((-1), μ)) = some (r, μ') ∧ ((M_in x (-1) (nI (nBk S) - nI 1)).bind fun x1 => if x1 = 0 then some ((-1), ν) else if (nI (nBk S)) = (nI 12) then some ((-1), ν) else (mWr ν 1350 0 12 (nI (nBk S)) x).bind fun μ2 => (mWr μ2 1351 0 12 (mI μ2 1354 0 0) (-1)).bind fun μ3 => (some (mSI μ3 1354 0 0 ((mI μ3 1354 0 0) + (nI 1)))).bind fun μ4 => some (((mI μ4 1354 0 0) - (nI 1)), μ4)) = some (r, ν') ∧ WF S' ∧ CR S' μ' ∧ MR S' ν' ∧ sN S' 908 0 0 ≤ sN S 908 0 0 + 1 := by
    intro hx hM
    rw [hM, bS, if_neg n10, C.bk.1]
    by_cases h : nBk S = 12
    · rw [h, if_neg (by decide), if_pos rfl]; exact same
    · rw [if_pos ((lt_n (by omega) (by decide)).mpr (by omega)), if_neg (fun z => h ((eq_n (by omega) (by decide)).mp z))]
      have b1 : mI (mSI μ 200 0 (nBk S) x) 206 0 0 = nI (nBk S) := (iS_v (by decide)).trans C.bk.1
      have b2 : mI (mSI (mSI μ 200 0 (nBk S) x) 201 0 (nBk S) (-1)) 206 0 0 = nI (nBk S) := (iS_v (by decide)).trans b1
      have d1 : mI (mSI ν 1350 0 (nBk S) x) 1354 0 0 = nI (nBk S) := (iS_v (by decide)).trans R.bk.1
      have d2 : mI (mSI (mSI ν 1350 0 (nBk S) x) 1351 0 (nBk S) (-1)) 1354 0 0 = nI (nBk S) := (iS_v (by decide)).trans d1
      unfold Copies_put
      rw [C.bk.1, wr_n (by omega) (by decide), bS, b1, wr_n (by omega) (by decide), bS, bS, b2, add_n, iS_eq, sub_n (by omega), Nat.add_sub_cancel, bS, wr_n (by omega) (by decide), bS, d1, wr_n (by omega) (by decide), bS, bS, d2, add_n, iS_eq, sub_n (by omega), Nat.add_sub_cancel]
      let S' := stN (stI (stI S 200 0 (nBk S) x) 201 0 (nBk S) (-1)) 206 0 0 (nBk S + 1)
      have a : Ag [200, 201, 206] S S' := Ag.sn (by simp) (Ag.si (by simp) (Ag.si (by simp) Ag.rfl))
      have FC : Fr [200, 201, 206] μ (mSI (mSI (mSI μ 200 0 (nBk S) x) 201 0 (nBk S) (-1)) 206 0 0 (nI (nBk S + 1))) := fr_si (by simp) (fr_si (by simp) (fr_si (by simp) Fr.refl))
      have FM : Fr [1350, 1351, 1354] ν (mSI (mSI (mSI ν 1350 0 (nBk S) x) 1351 0 (nBk S) (-1)) 1354 0 0 (nI (nBk S + 1))) := fr_si (by simp) (fr_si (by simp) (fr_si (by simp) Fr.refl))
      have k0 : ∀ b, sI S' 200 0 b = if b = nBk S then x else sI S 200 0 b := fun b => by
        by_cases e : b = nBk S
        · subst e; rw [if_pos rfl]; exact (i_v (by decide)).trans i_eq
        · rw [if_neg e]; exact (i_v (by decide)).trans (i_c e)
      have k1 : ∀ b, sI S' 201 0 b = if b = nBk S then -1 else sI S 201 0 b := fun b => by
        by_cases e : b = nBk S
        · subst e; rw [if_pos rfl]; exact i_eq
        · rw [if_neg e]; exact (i_c e).trans (i_v (by decide))
      have kn : nBk S' = nBk S + 1 := n_eq
      have k2 : ∀ u v, sN S' 202 u v = sN S 202 u v := fun u v => n_v (by decide)
      have h_bk : W_bk S' := by
        unfold W_bk
        rw [kn]
        refine ⟨by omega, fun b hb => ?_, fun u v h1 h2 => by rw [k2]; exact W.bk.2.2 u v h1 h2⟩
        rw [k0, k1]
        by_cases e : b = nBk S
        · rw [if_pos e, if_pos e, e]
          exact ⟨hx, Or.inl rfl⟩
        · rw [if_neg e, if_neg e]
          exact W.bk.2.1 b (by omega)
      have c_bk : C_bk S' (mSI (mSI (mSI μ 200 0 (nBk S) x) 201 0 (nBk S) (-1)) 206 0 0 (nI (nBk S + 1))) := by
        unfold C_bk
        rw [kn]
        refine ⟨iS_eq, fun b hb => ?_, fun u v h1 h2 => by rw [k2, FC.i 202 (by decide)]; exact C.bk.2.2 u v h1 h2⟩
        rw [k0, k1]
        by_cases e : b = nBk S
        · subst e; rw [if_pos rfl, if_pos rfl]; exact ⟨(iS_v (by decide)).trans ((iS_v (by decide)).trans iS_eq), (iS_v (by decide)).trans iS_eq⟩
        · rw [if_neg e, if_neg e]
          obtain ⟨g1, g2⟩ := C.bk.2.1 b (by omega)
          exact ⟨(iS_v (by decide)).trans ((iS_v (by decide)).trans ((iS_c e).trans g1)), (iS_v (by decide)).trans ((iS_c e).trans ((iS_v (by decide)).trans g2))⟩
      have m_bk : M_bk S' (mSI (mSI (mSI ν 1350 0 (nBk S) x) 1351 0 (nBk S) (-1)) 1354 0 0 (nI (nBk S + 1))) := by
        unfold M_bk
        rw [kn]
        refine ⟨iS_eq, fun b hb => ?_, fun u v h1 h2 => by rw [k2, FM.i 1349 (by decide)]; exact R.bk.2.2 u v h1 h2⟩
        rw [k0, k1]
        by_cases e : b = nBk S
        · subst e; rw [if_pos rfl, if_pos rfl]; exact ⟨(iS_v (by decide)).trans ((iS_v (by decide)).trans iS_eq), (iS_v (by decide)).trans iS_eq⟩
        · rw [if_neg e, if_neg e]
          obtain ⟨g1, g2⟩ := R.bk.2.1 b (by omega)
          exact ⟨(iS_v (by decide)).trans ((iS_v (by decide)).trans ((iS_c e).trans g1)), (iS_v (by decide)).trans ((iS_c e).trans ((iS_v (by decide)).trans g2))⟩
      exact ⟨_, S', _, _, rfl, rfl, ⟨W.tp.ag a (by decide), W.th.ag a (by decide), W.pg.ag a (by decide), W.lw.ag a (by decide) (fun _ _ => rfl), W.tr.ag a (by decide), W.ho.ag a (by decide), h_bk, W.dy.ag a (by decide)⟩, ⟨C.tp.mv a (by decide) FC (by decide), C.th.mv a (by decide) FC (by decide), C.pg.mv a (by decide) FC (by decide), C.lw.mv a (by decide) rfl FC (by decide), C.tr.mv a (by decide) FC (by decide), C.ho.mv a (by decide) FC (by decide), c_bk, C.dy.mv a (by decide) FC (by decide), C_ca.mv W h9 C.ca a (by decide) (by decide) rfl FC (by decide), C.kn.mv a (by decide) FC (by decide)⟩, ⟨R.tp.mv a (by decide) FM (by decide), R.th.mv a (by decide) FM (by decide), R.pg.mv a (by decide) FM (by decide), R.lw.mv a (by decide) rfl FM (by decide), R.tr.mv a (by decide) FM (by decide), R.ho.mv a (by decide) FM (by decide), m_bk, R.dy.mv a (by decide) FM (by decide)⟩, Nat.le_succ _⟩
  simp only []
  rcases m1_in x (nBk S) (by omega) with ⟨h1, h2, h3⟩ | ⟨h1, h3⟩
  · rw [if_neg h1, bkh_out C.bk.1 h2, bS, if_pos z00, h3, bS, if_pos z00]; exact same
  · rcases h1 with rfl | ⟨k, hk, rfl⟩
    · rw [if_pos rfl]; exact go (Or.inl rfl) h3
    · rw [if_neg (fun z => (m1_n (by omega)).mp z), bkh_in C.bk.1 (by omega) hk, bS, if_neg n10]; exact go (Or.inr ⟨k, hk, rfl⟩) h3

