/-! PURE: end, feed, MOST -/
theorem q_end (x : Int32) : Mut (B_end x) (M_end x) := by
  intro S μ ν W C R h9
  have h120 := W.tp.1
  have same : Same0 S μ ν := same0 W C R
  unfold B_end M_end
  rw [C.tp.1, R.tp.1]
  by_cases hx : x < 0
  · rw [if_pos hx, if_pos hx, rz_0, bS, bS]; exact same
  obtain ⟨k, hk, rfl⟩ := nI_of hx
  rw [if_neg hx, if_neg hx]
  by_cases hn : nI (nTp S) < nI k
  · rw [if_pos hn, if_pos hn, rz_0, bS, bS]; exact same
  have hkn : k ≤ nTp S := by
    have : ¬ nTp S < k := fun z => hn ((lt_n (by omega) (by omega)).mpr z)
    omega
  rw [if_neg hn, if_neg hn, bS, bS, rz_1, bS, bS]
  let S' := stN S 1001 0 0 k
  have a : Ag [1001] S S' := Ag.sn (by simp) Ag.rfl
  have FC : Fr [1001] μ (mSI μ 1001 0 0 (nI k)) := fr_si (by simp) Fr.refl
  have FM : Fr [1302] ν (mSI ν 1302 0 0 (nI k)) := fr_si (by simp) Fr.refl
  have kn : nTp S' = k := n_eq
  have k0 : ∀ i, sN S' 1000 0 i = sN S 1000 0 i := fun i => n_v (by decide)
  have h_tp : W_tp S' := by
    unfold W_tp
    rw [kn]
    exact ⟨by omega, fun i hi => by rw [k0]; exact W.tp.2 i (by omega)⟩
  have c_tp : C_tp S' (mSI μ 1001 0 0 (nI k)) := by
    unfold C_tp
    rw [kn]
    exact ⟨iS_eq, fun i hi => by rw [k0, iS_v (by decide)]; exact C.tp.2 i (by omega)⟩
  have m_tp : M_tp S' (mSI ν 1302 0 0 (nI k)) := by
    unfold M_tp
    rw [kn]
    exact ⟨iS_eq, fun i hi => by rw [k0, iS_v (by decide)]; exact R.tp.2 i (by omega)⟩
  exact ⟨_, S', _, _, rfl, rfl, ⟨h_tp, W.th.ag a (by decide), W.pg.ag a (by decide), W.lw.ag a (by decide) (fun _ _ => rfl), W.tr.ag a (by decide), W.ho.ag a (by decide), W.bk.ag a (by decide), W.dy.ag a (by decide)⟩, ⟨c_tp, C.th.mv a (by decide) FC (by decide), C.pg.mv a (by decide) FC (by decide), C.lw.mv a (by decide) rfl FC (by decide), C.tr.mv a (by decide) FC (by decide), C.ho.mv a (by decide) FC (by decide), C.bk.mv a (by decide) FC (by decide), C.dy.mv a (by decide) FC (by decide), C_ca.mv W h9 C.ca a (by decide) (by decide) rfl FC (by decide), C.kn.mv a (by decide) FC (by decide)⟩, ⟨m_tp, R.th.mv a (by decide) FM (by decide), R.pg.mv a (by decide) FM (by decide), R.lw.mv a (by decide) rfl FM (by decide), R.tr.mv a (by decide) FM (by decide), R.ho.mv a (by decide) FM (by decide), R.bk.mv a (by decide) FM (by decide), R.dy.mv a (by decide) FM (by decide)⟩, Nat.le_succ _⟩
def apS (S : St) (xs : List Int32) : St := xs.foldl (fun S x => stN (stN S 1000 0 (nTp S) (nv x)) 1001 0 0 (nTp S + 1)) S
theorem ap_tp : ∀ (xs : List Int32) (S : St) (μ ν : Mem), (∀ x ∈ xs, ∃ j, j < 256 ∧ x = nI j) → nTp S + xs.length ≤ 120 → W_tp S → C_tp S μ → M_tp S ν → W_tp (apS S xs) ∧ C_tp (apS S xs) (apL 1001 1000 μ xs) ∧ M_tp (apS S xs) (apL 1302 1301 ν xs) ∧ Ag [1000, 1001] S (apS S xs) ∧ Fr [1000, 1001] μ (apL 1001 1000 μ xs) ∧ Fr [1301, 1302] ν (apL 1302 1301 ν xs) ∧ sL (apS S xs) = sL S := by
  intro xs
  induction xs with
  | nil => intro S μ ν _ _ W C R; exact ⟨W, C, R, Ag.rfl, Fr.refl, Fr.refl, rfl⟩
  | cons x t ih =>
    intro S μ ν hx hl W C R
    obtain ⟨j, hj, rfl⟩ := hx x (List.mem_cons_self ..)
    rw [List.length_cons] at hl
    let S1 := stN (stN S 1000 0 (nTp S) (nv (nI j))) 1001 0 0 (nTp S + 1)
    have hjv : nv (nI j) = j := nv_nI (by omega)
    have kn : nTp S1 = nTp S + 1 := n_eq
    have k0 : ∀ i, sN S1 1000 0 i = if i = nTp S then j else sN S 1000 0 i := fun i => by
      by_cases e : i = nTp S
      · subst e; rw [if_pos rfl]; exact (n_v (by decide)).trans (n_eq.trans hjv)
      · rw [if_neg e]; exact (n_v (by decide)).trans (n_c e)
    have w1 : W_tp S1 := by
      unfold W_tp
      rw [kn]
      refine ⟨by omega, fun i hi => ?_⟩
      rw [k0]
      split
      · exact hj
      · exact W.2 i (by omega)
    have e1 : ap1 1001 1000 μ (nI j) = mSI (mSI μ 1000 0 (nTp S) (nI j)) 1001 0 0 (nI (nTp S + 1)) := by
      unfold ap1
      rw [C.1, nv_nI (by omega)]
    have e2 : ap1 1302 1301 ν (nI j) = mSI (mSI ν 1301 0 (nTp S) (nI j)) 1302 0 0 (nI (nTp S + 1)) := by
      unfold ap1
      rw [R.1, nv_nI (by omega)]
    have c1 : C_tp S1 (ap1 1001 1000 μ (nI j)) := by
      unfold C_tp
      rw [kn, e1]
      refine ⟨iS_eq, fun i hi => ?_⟩
      rw [k0, iS_v (by decide)]
      by_cases e : i = nTp S
      · subst e; rw [if_pos rfl]; exact iS_eq
      · rw [if_neg e, iS_c e]; exact C.2 i (by omega)
    have m1 : M_tp S1 (ap1 1302 1301 ν (nI j)) := by
      unfold M_tp
      rw [kn, e2]
      refine ⟨iS_eq, fun i hi => ?_⟩
      rw [k0, iS_v (by decide)]
      by_cases e : i = nTp S
      · subst e; rw [if_pos rfl]; exact iS_eq
      · rw [if_neg e, iS_c e]; exact R.2 i (by omega)
    obtain ⟨r1, r2, r3, r4, r5, r6, r7⟩ := ih S1 _ _ (fun y hy => hx y (List.mem_cons_of_mem _ hy)) (by rw [kn]; omega) w1 c1 m1
    have a1 : Ag [1000, 1001] S S1 := Ag.sn (by simp) (Ag.sn (by simp) Ag.rfl)
    have F1 : Fr [1000, 1001] μ (ap1 1001 1000 μ (nI j)) := by rw [e1]; exact fr_si (by simp) (fr_si (by simp) Fr.refl)
    have F2 : Fr [1301, 1302] ν (ap1 1302 1301 ν (nI j)) := by rw [e2]; exact fr_si (by simp) (fr_si (by simp) Fr.refl)
    exact ⟨r1, r2, r3, fun v hv => ⟨fun r c => ((r4 v hv).1 r c).trans ((a1 v hv).1 r c), fun r c => ((r4 v hv).2 r c).trans ((a1 v hv).2 r c)⟩, F1.trans r5, F2.trans r6, r7⟩
theorem by20_by {a b c d e : Int32} : ∀ x ∈ by20 a b c d e, ∃ j, j < 256 ∧ x = nI j := by
  intro x hx
  rw [by20_eq] at hx
  obtain ⟨k, -, rfl⟩ := List.mem_map.mp (List.mem_filter.mp hx).1
  exact byt_lt _ _
theorem q_feed (u v w x y : Int32) : Mut (B_feed u v w x y) (M_feed u v w x y) := by
  intro S μ ν W C R h9
  rw [feedB C.tp.1 W.tp.1, feedM R.tp.1 W.tp.1]
  by_cases h : nTp S + (by20 u v w x y).length ≤ 120
  · rw [if_pos h, if_pos h]
    obtain ⟨h_tp, c_tp, m_tp, a, FC, FM, hL⟩ := ap_tp (by20 u v w x y) S μ ν by20_by h W.tp C.tp R.tp
    have e9 : sN (apS S (by20 u v w x y)) 908 0 0 = sN S 908 0 0 := a.n (L := [908]) (by decide) 908 (by decide) 0 0
    exact ⟨_, apS S (by20 u v w x y), _, _, rfl, rfl, ⟨h_tp, W.th.ag a (by decide), W.pg.ag a (by decide), W.lw.ag a (by decide) (fun l _ => by rw [hL]), W.tr.ag a (by decide), W.ho.ag a (by decide), W.bk.ag a (by decide), W.dy.ag a (by decide)⟩, ⟨c_tp, C.th.mv a (by decide) FC (by decide), C.pg.mv a (by decide) FC (by decide), C.lw.mv a (by decide) hL FC (by decide), C.tr.mv a (by decide) FC (by decide), C.ho.mv a (by decide) FC (by decide), C.bk.mv a (by decide) FC (by decide), C.dy.mv a (by decide) FC (by decide), C_ca.mv W h9 C.ca a (by decide) (by decide) hL FC (by decide), C.kn.mv a (by decide) FC (by decide)⟩, ⟨m_tp, R.th.mv a (by decide) FM (by decide), R.pg.mv a (by decide) FM (by decide), R.lw.mv a (by decide) hL FM (by decide), R.tr.mv a (by decide) FM (by decide), R.ho.mv a (by decide) FM (by decide), R.bk.mv a (by decide) FM (by decide), R.dy.mv a (by decide) FM (by decide)⟩, by omega⟩
  · rw [if_neg h, if_neg h]; exact same1 W C R
theorem q_most (x : Int32) : Mut (B_most x) (M_most x) := by
  intro S μ ν W C R h9
  have h16 := W.pg.1
  have same : Same0 S μ ν := same0 W C R
  unfold B_most M_most
  rw [within_in]
  rcases in_nat x 1 20 (by decide) (by decide) with h | ⟨k, hk1, hk, rfl, h⟩
  · rw [h, bS, bS, if_pos z00, if_pos z00, rz_0, bS, bS]; exact same
  have c9 : mI (mSI μ 903 0 0 (nI k)) 908 0 0 = nI (sN S 908 0 0) := (iS_v (by decide)).trans C.ca.1
  unfold Pot_tellMost
  simp only [h, bS, if_neg n10, c9, add_n, rz_1]
  let S' := stN (stN S 903 0 0 k) 908 0 0 (sN S 908 0 0 + 1)
  have a : Ag [903, 908] S S' := Ag.sn (by simp) (Ag.sn (by simp) Ag.rfl)
  have FC : Fr [903, 908] μ (mSI (mSI μ 903 0 0 (nI k)) 908 0 0 (nI (sN S 908 0 0 + 1))) := fr_si (by simp) (fr_si (by simp) Fr.refl)
  have FM : Fr [1339] ν (mSI ν 1339 0 0 (nI k)) := fr_si (by simp) Fr.refl
  have k3 : sN S' 903 0 0 = k := (n_v (by decide)).trans n_eq
  have kk := fun v hv r c => a.n (L := [904, 905, 504, 712, 1334, 1335]) (by decide) v hv r c
  have ki := fun v hv r c => a.i (L := [906, 907, 1336, 1337]) (by decide) v hv r c
  have h_ho : W_ho S' := by
    have h := W.ho
    revert h
    unfold W_ho nHo nLw nPg
    rw [k3]
    simp only [kk 904 (by decide), kk 905 (by decide), kk 504 (by decide), kk 712 (by decide), kk 1334 (by decide), kk 1335 (by decide), ki 906 (by decide), ki 907 (by decide), ki 1336 (by decide), ki 1337 (by decide)]
    rintro ⟨-, g⟩
    exact ⟨⟨hk1, hk⟩, g⟩
  have c_ho : C_ho S' (mSI (mSI μ 903 0 0 (nI k)) 908 0 0 (nI (sN S 908 0 0 + 1))) := by
    have h := C.ho
    revert h
    unfold C_ho nHo
    rw [k3]
    simp only [kk 904 (by decide), kk 905 (by decide), ki 906 (by decide), ki 907 (by decide), FC.i 904 (by decide), FC.i 905 (by decide), FC.i 906 (by decide), FC.i 907 (by decide)]
    rintro ⟨-, g⟩
    exact ⟨(iS_v (by decide)).trans iS_eq, g⟩
  have m_ho : M_ho S' (mSI ν 1339 0 0 (nI k)) := by
    have h := R.ho
    revert h
    unfold M_ho nHo
    rw [k3]
    simp only [kk 904 (by decide), kk 1334 (by decide), kk 1335 (by decide), ki 1336 (by decide), ki 1337 (by decide), FM.i 1338 (by decide), FM.i 1334 (by decide), FM.i 1335 (by decide), FM.i 1336 (by decide), FM.i 1337 (by decide)]
    rintro ⟨-, g⟩
    exact ⟨iS_eq, g⟩
  have c0 : C_ca S (mSI μ 903 0 0 (nI k)) := C.ca.fr fun v hv => by
    funext r c
    refine iS_v (fun e => ?_)
    subst e
    exact absurd hv (by decide)
  have c_ca : C_ca S' (mSI (mSI μ 903 0 0 (nI k)) 908 0 0 (nI (sN S 908 0 0 + 1))) := c0.up (by omega) n_eq (n_v (by decide)) h16
  exact ⟨_, S', _, _, rfl, rfl, ⟨W.tp.ag a (by decide), W.th.ag a (by decide), W.pg.ag a (by decide), W.lw.ag a (by decide) (fun _ _ => rfl), W.tr.ag a (by decide), h_ho, W.bk.ag a (by decide), W.dy.ag a (by decide)⟩, ⟨C.tp.mv a (by decide) FC (by decide), C.th.mv a (by decide) FC (by decide), C.pg.mv a (by decide) FC (by decide), C.lw.mv a (by decide) rfl FC (by decide), C.tr.mv a (by decide) FC (by decide), c_ho, C.bk.mv a (by decide) FC (by decide), C.dy.mv a (by decide) FC (by decide), c_ca, C.kn.mv a (by decide) FC (by decide)⟩, ⟨R.tp.mv a (by decide) FM (by decide), R.th.mv a (by decide) FM (by decide), R.pg.mv a (by decide) FM (by decide), R.lw.mv a (by decide) rfl FM (by decide), R.tr.mv a (by decide) FM (by decide), m_ho, R.bk.mv a (by decide) FM (by decide), R.dy.mv a (by decide) FM (by decide)⟩, Nat.le_of_eq n_eq⟩
