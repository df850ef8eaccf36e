/-! PURE: reads, day, bought, wrote, MOST -/
def Same0 (S : St) (μ ν : Mem) : Prop := ∃ r S' μ' ν', some (nI 0, μ) = some (r, μ') ∧ some (nI 0, ν) = some (r, ν') ∧ WF S' ∧ CR S' μ' ∧ MR S' ν' ∧ sN S' 908 0 0 ≤ sN S 908 0 0 + 1
def Same1 (S : St) (μ ν : Mem) : Prop := ∃ r S' μ' ν', some ((-1 : Int32), μ) = some (r, μ') ∧ some ((-1 : Int32), ν) = some (r, ν') ∧ WF S' ∧ CR S' μ' ∧ MR S' ν' ∧ sN S' 908 0 0 ≤ sN S 908 0 0 + 1
theorem same0 {S : St} {μ ν : Mem} (W : WF S) (C : CR S μ) (R : MR S ν) : Same0 S μ ν := ⟨_, S, _, _, rfl, rfl, W, C, R, by omega⟩
theorem same1 {S : St} {μ ν : Mem} (W : WF S) (C : CR S μ) (R : MR S ν) : Same1 S μ ν := ⟨_, S, _, _, rfl, rfl, W, C, R, by omega⟩
theorem bk_M0 {S : St} {x : Int32} (W : WF S) (h : outN x (nBk S)) : M_in x (nI 0) (nI (nBk S) - nI 1) = some (nI 0) := by
  rw [sub1, in_out h (by have := W.bk.1; omega)]
theorem bk_M1 {S : St} {b : Nat} (W : WF S) (h : b < nBk S) : M_in (nI b) (nI 0) (nI (nBk S) - nI 1) = some (nI 1) := by
  rw [sub1, in_lt h (by have := W.bk.1; omega)]
theorem q_reads (x y : Int32) : Mut (B_reads x y) (M_reads x y) := by
  intro S μ ν W C R h9
  have h12 := W.bk.1
  have same : Same0 S μ ν := same0 W C R
  unfold B_reads M_reads kj
  rw [R.bk.1]
  simp only []
  rcases bk_arg W x with hx | ⟨b, hb, rfl⟩
  · rw [bkh_out C.bk.1 hx, bk_M0 W hx, bS, bS, if_pos z00, if_pos z00, rz_0, bS, bS]; exact same
  rw [bkh_in C.bk.1 (by omega) hb, bk_M1 W hb, bS, bS, if_neg n10, if_neg n10]
  have go : (y = -1 ∨ ∃ w, w < 8 ∧ y = nI w) → M_in y (-1) (nI 7) = some (nI 1) → ∃ r S' μ' ν', ((mWr μ 201 0 12 (nI b) y).bind fun μ4 => (mRz (nI 1)).bind fun z => some (z, μ4)) = some (r, μ') ∧ ((M_in y (-1) (nI 7)).bind fun x2 => if x2 = 0 then (mRz (nI 0)).bind fun z => some (z, ν) else (mWr ν 1351 0 12 (nI b) y).bind fun μ3 => (mRz (nI 1)).bind fun z => some (z, μ3)) = some (r, ν') ∧ WF S' ∧ CR S' μ' ∧ MR S' ν' ∧ sN S' 908 0 0 ≤ sN S 908 0 0 + 1 := by
    intro hy hM
    rw [hM, bS, if_neg n10, wr_n (by omega) (by decide), wr_n (by omega) (by decide), bS, bS, rz_1, bS, bS]
    let S' := stI S 201 0 b y
    have a : Ag [201] S S' := Ag.si (by simp) Ag.rfl
    have FC : Fr [201] μ (mSI μ 201 0 b y) := fr_si (by simp) Fr.refl
    have FM : Fr [1351] ν (mSI ν 1351 0 b y) := fr_si (by simp) Fr.refl
    have k0 : ∀ c, sI S' 200 0 c = sI S 200 0 c := fun c => i_v (by decide)
    have h_bk : W_bk S' := ⟨W.bk.1, fun c hc => by
      rw [k0]
      refine ⟨(W.bk.2.1 c hc).1, ?_⟩
      by_cases e : c = b
      · subst e; rw [show sI S' 201 0 c = y from i_eq]; exact hy
      · rw [show sI S' 201 0 c = sI S 201 0 c from i_c e]; exact (W.bk.2.1 c hc).2, W.bk.2.2⟩
    have c_bk : C_bk S' (mSI μ 201 0 b y) := ⟨C.bk.1, fun c hc => by
      rw [k0]
      refine ⟨(C.bk.2.1 c hc).1, ?_⟩
      by_cases e : c = b
      · subst e; rw [show sI S' 201 0 c = y from i_eq]; exact iS_eq
      · rw [show sI S' 201 0 c = sI S 201 0 c from i_c e, iS_c e]; exact (C.bk.2.1 c hc).2, C.bk.2.2⟩
    have m_bk : M_bk S' (mSI ν 1351 0 b y) := ⟨R.bk.1, fun c hc => by
      rw [k0]
      refine ⟨(R.bk.2.1 c hc).1, ?_⟩
      by_cases e : c = b
      · subst e; rw [show sI S' 201 0 c = y from i_eq]; exact iS_eq
      · rw [show sI S' 201 0 c = sI S 201 0 c from i_c e, iS_c e]; exact (R.bk.2.1 c hc).2, R.bk.2.2⟩
    exact ⟨_, S', _, _, rfl, rfl, ⟨W.tp.ag a (by decide), W.th.ag a (by decide), W.pg.ag a (by decide), W.lw.ag a (by decide) (fun _ _ => rfl), W.tr.ag a (by decide), W.ho.ag a (by decide), h_bk, W.dy.ag a (by decide)⟩, ⟨C.tp.mv a (by decide) FC (by decide), C.th.mv a (by decide) FC (by decide), C.pg.mv a (by decide) FC (by decide), C.lw.mv a (by decide) rfl FC (by decide), C.tr.mv a (by decide) FC (by decide), C.ho.mv a (by decide) FC (by decide), c_bk, C.dy.mv a (by decide) FC (by decide), C_ca.mv W h9 C.ca a (by decide) (by decide) rfl FC (by decide), C.kn.mv a (by decide) FC (by decide)⟩, ⟨R.tp.mv a (by decide) FM (by decide), R.th.mv a (by decide) FM (by decide), R.pg.mv a (by decide) FM (by decide), R.lw.mv a (by decide) rfl FM (by decide), R.tr.mv a (by decide) FM (by decide), R.ho.mv a (by decide) FM (by decide), m_bk, R.dy.mv a (by decide) FM (by decide)⟩, Nat.le_succ _⟩
  have h7 : nI 8 - nI 1 = nI 7 := rfl
  rcases m1_in y 8 (by decide) with ⟨h1, h2, h3⟩ | ⟨h1, h3⟩
  · rw [h7] at h3
    have hw : B_isWord y = some (nI 0) := by
      rcases word_arg y with ⟨h, -⟩ | ⟨w, hw, rfl, -⟩
      · exact h
      · exact absurd h2 (by unfold outN; rw [Int32.lt_iff_toInt_lt, Int32.le_iff_toInt_le, nI_toInt (by omega), nI_toInt (by decide), i0]; omega)
    rw [if_neg h1, hw, h3, bS, bS, if_pos z00, if_pos z00, rz_0, bS, bS]; exact same
  · rw [h7] at h3
    rcases h1 with rfl | ⟨k, hk, rfl⟩
    · rw [if_pos rfl]; exact go (Or.inl rfl) h3
    · rcases word_arg (nI k) with ⟨h, h'⟩ | ⟨w, hw, e, h, -⟩
      · have := in_pos (x := nI k) (a := nI 0) (b := nI 7) (fun z => absurd ((lt_n (by omega) (by omega)).mp z) (by omega)) (fun z => absurd ((lt_n (by omega) (by omega)).mp z) (by omega))
        unfold M_isWord at h'
        rw [this, bS, rz_1] at h'
        exact absurd (Option.some.inj h') n10
      · rw [if_neg (fun z => (m1_n (by omega)).mp z), h, bS, if_neg n10]; exact go (Or.inr ⟨k, hk, rfl⟩) h3
/-! days -/
theorem q_bought (x y z : Int32) : Mut (B_bought x y z) (M_bought x y z) := by
  intro S μ ν W C R h9
  have h10 := W.dy.1
  have h12 := W.th.1
  have same : Same0 S μ ν := same0 W C R
  unfold B_bought M_bought
  rw [within_in]
  rcases dy_arg W x with hx | ⟨d, hd, rfl⟩
  · rw [hasD0 C hx, isD0 W R hx, bS, bS, if_pos z00, if_pos z00, rz_0, bS, bS]; exact same
  rw [hasD1 W C hd, isD1 W R hd, bS, bS, if_neg n10, if_neg n10]
  rcases th_arg W y with hy | ⟨t, ht, rfl⟩
  · rw [hasT0 C hy, isT0 W R hy, bS, bS, if_pos z00, if_pos z00, rz_0, bS, bS]; exact same
  rw [hasT1 W C ht, isT1 W R ht, bS, bS, if_neg n10, if_neg n10]
  rcases in_nat z 0 999 (by decide) (by decide) with h | ⟨w, -, hw, rfl, h⟩
  · rw [h, bS, bS, if_pos z00, if_pos z00, rz_0, bS, bS]; exact same
  rw [h, bS, bS, if_neg n10, if_neg n10, ix_n (by omega) (by decide), bS, wr_n (by omega) (by decide), bS, mul_n, add_n, wr_n (by omega) (by decide), bS, rz_1, bS, bS]
  let S' := stN S 105 d t w
  have a : Ag [105] S S' := Ag.sn (by simp) Ag.rfl
  have FC : Fr [105] μ (mSI μ 105 d t (nI w)) := fr_si (by simp) Fr.refl
  have FM : Fr [1357] ν (mSI ν 1357 0 (12 * d + t) (nI w)) := fr_si (by simp) Fr.refl
  have k : ∀ e u, sN S' 105 e u = if e = d ∧ u = t then w else sN S 105 e u := fun e u => by
    by_cases q : e = d ∧ u = t
    · rw [if_pos q, q.1, q.2]; exact n_eq
    · rw [if_neg q, show sN S' 105 e u = _ from sN_N, if_neg (fun z => q z.2)]
  have h_dy : W_dy S' := ⟨W.dy.1, W.dy.2.1, fun e u h1 h2 => by
    rw [k]
    split
    · exact hw
    · exact W.dy.2.2 e u h1 h2⟩
  have c_dy : C_dy S' (mSI μ 105 d t (nI w)) := ⟨C.dy.1, C.dy.2.1, fun e u h1 h2 => by
    rw [k, I_SI]
    by_cases q : e = d ∧ u = t
    · rw [if_pos ⟨rfl, q⟩, if_pos q]
    · rw [if_neg (fun z => q z.2), if_neg q]; exact C.dy.2.2 e u h1 h2⟩
  have m_dy : M_dy S' (mSI ν 1357 0 (12 * d + t) (nI w)) := ⟨R.dy.1, R.dy.2.1, fun e u h1 h2 => by
    rw [k, I_SI]
    by_cases q : e = d ∧ u = t
    · rw [if_pos ⟨rfl, rfl, by omega⟩, if_pos q]
    · rw [if_neg (fun z => q (by omega)), if_neg q]; exact R.dy.2.2 e u h1 h2⟩
  exact ⟨_, S', _, _, rfl, rfl, ⟨W.tp.ag a (by decide), W.th.ag a (by decide), W.pg.ag a (by decide), W.lw.ag a (by decide) (fun _ _ => rfl), W.tr.ag a (by decide), W.ho.ag a (by decide), W.bk.ag a (by decide), h_dy⟩, ⟨C.tp.mv a (by decide) FC (by decide), C.th.mv a (by decide) FC (by decide), C.pg.mv a (by decide) FC (by decide), C.lw.mv a (by decide) rfl FC (by decide), C.tr.mv a (by decide) FC (by decide), C.ho.mv a (by decide) FC (by decide), C.bk.mv a (by decide) FC (by decide), c_dy, C_ca.mv W h9 C.ca a (by decide) (by decide) rfl FC (by decide), C.kn.mv a (by decide) FC (by decide)⟩, ⟨R.tp.mv a (by decide) FM (by decide), R.th.mv a (by decide) FM (by decide), R.pg.mv a (by decide) FM (by decide), R.lw.mv a (by decide) rfl FM (by decide), R.tr.mv a (by decide) FM (by decide), R.ho.mv a (by decide) FM (by decide), R.bk.mv a (by decide) FM (by decide), m_dy⟩, Nat.le_succ _⟩
theorem q_day (x : Int32) (b : Nat) (hb : b ≤ 1) : Mut (B_day x (nI b)) (M_day x (nI b)) := by
  intro S μ ν W C R h9
  have h10 := W.dy.1
  have same : Same1 S μ ν := same1 W C R
  unfold B_day M_day
  rw [within_in]
  rcases in_nat x 1 12 (by decide) (by decide) with h | ⟨w, hw1, hw, rfl, h⟩
  · rw [h, bS, bS, if_pos z00, if_pos z00]; exact same
  rw [h, bS, bS, if_neg n10, if_neg n10, C.dy.1, R.dy.1]
  by_cases h : nDy S = 10
  · rw [h, if_neg (by decide), if_pos rfl]; exact same
  rw [if_pos ((lt_n (by omega) (by decide)).mpr (by omega)), if_neg (fun z => h ((eq_n (by omega) (by decide)).mp z))]
  have hbb : nI b = 0 ∨ nI b = 1 := by
    rcases (show b = 0 ∨ b = 1 by omega) with rfl | rfl
    · exact Or.inl rfl
    · exact Or.inr rfl
  have b1 : mI (mSI μ 103 0 (nDy S) (nI w)) 106 0 0 = nI (nDy S) := (iS_v (by decide)).trans C.dy.1
  have b2 : mI (mSI (mSI μ 103 0 (nDy S) (nI w)) 104 0 (nDy S) (nI b)) 106 0 0 = nI (nDy S) := (iS_v (by decide)).trans b1
  have d1 : mI (mSI ν 1355 0 (nDy S) (nI w)) 1358 0 0 = nI (nDy S) := (iS_v (by decide)).trans R.dy.1
  have d2 : mI (mSI (mSI ν 1355 0 (nDy S) (nI w)) 1356 0 (nDy S) (nI b)) 1358 0 0 = nI (nDy S) := (iS_v (by decide)).trans d1
  unfold Account_put
  rw [C.dy.1, wr_n (by omega) (by decide), bS, b1, wz_n (by omega) (by decide) hbb, bS, bS, b2, add_n, iS_eq, sub_n (by omega), Nat.add_sub_cancel, bS, wr_n (by omega) (by decide), bS, d1, wz_n (by omega) (by decide) hbb, bS, bS, d2, add_n, iS_eq, sub_n (by omega), Nat.add_sub_cancel]
  let S' := stN (stN (stN S 103 0 (nDy S) w) 104 0 (nDy S) b) 106 0 0 (nDy S + 1)
  have a : Ag [103, 104, 106] S S' := Ag.sn (by simp) (Ag.sn (by simp) (Ag.sn (by simp) Ag.rfl))
  have FC : Fr [103, 104, 106] μ (mSI (mSI (mSI μ 103 0 (nDy S) (nI w)) 104 0 (nDy S) (nI b)) 106 0 0 (nI (nDy S + 1))) := fr_si (by simp) (fr_si (by simp) (fr_si (by simp) Fr.refl))
  have FM : Fr [1355, 1356, 1358] ν (mSI (mSI (mSI ν 1355 0 (nDy S) (nI w)) 1356 0 (nDy S) (nI b)) 1358 0 0 (nI (nDy S + 1))) := fr_si (by simp) (fr_si (by simp) (fr_si (by simp) Fr.refl))
  have k0 : ∀ c, sN S' 103 0 c = if c = nDy S then w else sN S 103 0 c := fun c => by
    by_cases e : c = nDy S
    · subst e; rw [if_pos rfl]; exact (n_v (by decide)).trans ((n_v (by decide)).trans n_eq)
    · rw [if_neg e]; exact (n_v (by decide)).trans ((n_v (by decide)).trans (n_c e))
  have k1 : ∀ c, sN S' 104 0 c = if c = nDy S then b else sN S 104 0 c := fun c => by
    by_cases e : c = nDy S
    · subst e; rw [if_pos rfl]; exact (n_v (by decide)).trans n_eq
    · rw [if_neg e]; exact (n_v (by decide)).trans ((n_c e).trans (n_v (by decide)))
  have kn : nDy S' = nDy S + 1 := n_eq
  have k2 : ∀ u v, sN S' 105 u v = sN S 105 u v := fun u v => a.n (L := [105]) (by decide) 105 (by decide) u v
  have h_dy : W_dy S' := by
    unfold W_dy
    rw [kn]
    refine ⟨by omega, fun c hc => ?_, fun u v h1 h2 => by rw [k2]; exact W.dy.2.2 u v h1 h2⟩
    rw [k0, k1]
    by_cases e : c = nDy S
    · rw [if_pos e, if_pos e]; exact ⟨⟨hw1, hw⟩, hb⟩
    · rw [if_neg e, if_neg e]; exact W.dy.2.1 c (by omega)
  have c_dy : C_dy S' (mSI (mSI (mSI μ 103 0 (nDy S) (nI w)) 104 0 (nDy S) (nI b)) 106 0 0 (nI (nDy S + 1))) := by
    unfold C_dy
    rw [kn]
    refine ⟨iS_eq, fun c hc => ?_, fun u v h1 h2 => by rw [k2, FC.i 105 (by decide)]; exact C.dy.2.2 u v h1 h2⟩
    rw [k0, k1]
    by_cases e : c = nDy S
    · subst e; rw [if_pos rfl, if_pos rfl]; exact ⟨(iS_v (by decide)).trans ((iS_v (by decide)).trans iS_eq), (iS_v (by decide)).trans iS_eq⟩
    · rw [if_neg e, if_neg e]
      obtain ⟨g1, g2⟩ := C.dy.2.1 c (by omega)
      exact ⟨(iS_v (by decide)).trans ((iS_v (by decide)).trans ((iS_c e).trans g1)), (iS_v (by decide)).trans ((iS_c e).trans ((iS_v (by decide)).trans g2))⟩
  have m_dy : M_dy S' (mSI (mSI (mSI ν 1355 0 (nDy S) (nI w)) 1356 0 (nDy S) (nI b)) 1358 0 0 (nI (nDy S + 1))) := by
    unfold M_dy
    rw [kn]
    refine ⟨iS_eq, fun c hc => ?_, fun u v h1 h2 => by rw [k2, FM.i 1357 (by decide)]; exact R.dy.2.2 u v h1 h2⟩
    rw [k0, k1]
    by_cases e : c = nDy S
    · subst e; rw [if_pos rfl, if_pos rfl]; exact ⟨(iS_v (by decide)).trans ((iS_v (by decide)).trans iS_eq), (iS_v (by decide)).trans iS_eq⟩
    · rw [if_neg e, if_neg e]
      obtain ⟨g1, g2⟩ := R.dy.2.1 c (by omega)
      exact ⟨(iS_v (by decide)).trans ((iS_v (by decide)).trans ((iS_c e).trans g1)), (iS_v (by decide)).trans ((iS_c e).trans ((iS_v (by decide)).trans g2))⟩
  exact ⟨_, S', _, _, rfl, rfl, ⟨W.tp.ag a (by decide), W.th.ag a (by decide), W.pg.ag a (by decide), W.lw.ag a (by decide) (fun _ _ => rfl), W.tr.ag a (by decide), W.ho.ag a (by decide), W.bk.ag a (by decide), h_dy⟩, ⟨C.tp.mv a (by decide) FC (by decide), C.th.mv a (by decide) FC (by decide), C.pg.mv a (by decide) FC (by decide), C.lw.mv a (by decide) rfl FC (by decide), C.tr.mv a (by decide) FC (by decide), C.ho.mv a (by decide) FC (by decide), C.bk.mv a (by decide) FC (by decide), c_dy, C_ca.mv W h9 C.ca a (by decide) (by decide) rfl FC (by decide), C.kn.mv a (by decide) FC (by decide)⟩, ⟨R.tp.mv a (by decide) FM (by decide), R.th.mv a (by decide) FM (by decide), R.pg.mv a (by decide) FM (by decide), R.lw.mv a (by decide) rfl FM (by decide), R.tr.mv a (by decide) FM (by decide), R.ho.mv a (by decide) FM (by decide), R.bk.mv a (by decide) FM (by decide), m_dy⟩, Nat.le_succ _⟩
/-! wrote -/
theorem q_wrote (x y : Int32) : Mut (B_wrote x y) (M_wrote x y) := by
  intro S μ ν W C R h9
  have h16 := W.pg.1
  have same : Same0 S μ ν := same0 W C R
  unfold B_wrote M_wrote
  rcases pg_arg W x with hx | ⟨p, hp, rfl⟩
  · rw [hasP0 C hx, isP0 W R hx, bS, bS, if_pos z00, if_pos z00, rz_0, bS, bS]; exact same
  rw [hasP1 W C hp, isP1 W R hp, bS, bS, if_neg n10, if_neg n10]
  rcases writer_arg y with ⟨h1, h2⟩ | ⟨w, hw, rfl, h1, h2⟩
  · rw [h1, h2, bS, bS, if_pos z00, if_pos z00, rz_0, bS, bS]; exact same
  rw [h1, h2, bS, bS, if_neg n10, if_neg n10, wr_n (by omega) (by decide), wr_n (by omega) (by decide), bS, bS, rz_1, bS, bS]
  let S' := stN S 711 0 p w
  have a : Ag [711] S S' := Ag.sn (by simp) Ag.rfl
  have FC : Fr [711] μ (mSI μ 711 0 p (nI w)) := fr_si (by simp) Fr.refl
  have FM : Fr [1321] ν (mSI ν 1321 0 p (nI w)) := fr_si (by simp) Fr.refl
  have k : ∀ q, sN S' 711 0 q = if q = p then w else sN S 711 0 q := fun q => by
    by_cases e : q = p
    · subst e; rw [if_pos rfl]; exact n_eq
    · rw [if_neg e]; exact n_c e
  have kn : nPg S' = nPg S := n_v (by decide)
  have h_pg : W_pg S' := by
    have hc : ∀ q b n, cntA S' q b n = cntA S q b n := fun q b n => cntA_ag (fun i => n_v (by decide)) n
    have kk := fun v hv r c => a.n (L := [702, 703, 704, 705, 706, 707, 708, 709, 710, 808]) (by decide) v hv r c
    unfold W_pg
    rw [kn]
    refine ⟨W.pg.1, fun q hq => ?_, fun q hq => ?_⟩
    · have h := W.pg.2.1 q hq
      revert h
      unfold W_p1 mT nTh
      simp only [kk 702 (by decide), kk 703 (by decide), kk 704 (by decide), kk 705 (by decide), kk 706 (by decide), kk 707 (by decide), kk 708 (by decide), kk 709 (by decide), kk 710 (by decide), kk 808 (by decide), hc]
      rintro ⟨g1, g2, g3, g4, g5, g6, g7, g8, g9⟩
      refine ⟨g1, g2, g3, g4, g5, g6, g7, g8, ?_⟩
      rw [k]
      split
      · exact hw
      · exact g9
    · rw [k, if_neg (by omega)]; exact W.pg.2.2 q hq
  have c_pg : C_pg S' (mSI μ 711 0 p (nI w)) := by
    have kk := fun v hv r c => a.n (L := [702, 703, 704, 705, 706, 707, 708, 709, 710, 712]) (by decide) v hv r c
    have h := C.pg
    revert h
    unfold C_pg nPg mT
    simp only [kk 702 (by decide), kk 703 (by decide), kk 704 (by decide), kk 705 (by decide), kk 706 (by decide), kk 707 (by decide), kk 708 (by decide), kk 709 (by decide), kk 710 (by decide), kk 712 (by decide), FC.i 702 (by decide), FC.i 703 (by decide), FC.i 704 (by decide), FC.i 705 (by decide), FC.i 706 (by decide), FC.i 707 (by decide), FC.i 708 (by decide), FC.i 709 (by decide), FC.i 710 (by decide), FC.i 712 (by decide)]
    rintro ⟨g1, g2, g3⟩
    refine ⟨g1, g2, fun q hq => ?_⟩
    rw [k]
    by_cases e : q = p
    · subst e; rw [if_pos rfl]; exact iS_eq
    · rw [if_neg e, iS_c e]; exact g3 q hq
  have m_pg : M_pg S' (mSI ν 1321 0 p (nI w)) := by
    have kk := fun v hv r c => a.n (L := [702, 703, 704, 705, 708, 709, 712]) (by decide) v hv r c
    have h := R.pg
    revert h
    unfold M_pg nPg mT
    simp only [kk 702 (by decide), kk 703 (by decide), kk 704 (by decide), kk 705 (by decide), kk 708 (by decide), kk 709 (by decide), kk 712 (by decide), FM.i 1322 (by decide), FM.i 1315 (by decide), FM.i 1316 (by decide), FM.i 1317 (by decide), FM.i 1318 (by decide), FM.i 1319 (by decide), FM.i 1320 (by decide)]
    rintro ⟨g1, g2⟩
    refine ⟨g1, fun q hq => ?_⟩
    obtain ⟨g3, g4, g5, g6, g7⟩ := g2 q hq
    refine ⟨g3, g4, g5, g6, ?_⟩
    rw [k]
    by_cases e : q = p
    · subst e; rw [if_pos rfl]; exact iS_eq
    · rw [if_neg e, iS_c e]; exact g7
  exact ⟨_, S', _, _, rfl, rfl, ⟨W.tp.ag a (by decide), W.th.ag a (by decide), h_pg, W.lw.ag a (by decide) (fun _ _ => rfl), W.tr.ag a (by decide), W.ho.ag a (by decide), W.bk.ag a (by decide), W.dy.ag a (by decide)⟩, ⟨C.tp.mv a (by decide) FC (by decide), C.th.mv a (by decide) FC (by decide), c_pg, C.lw.mv a (by decide) rfl FC (by decide), C.tr.mv a (by decide) FC (by decide), C.ho.mv a (by decide) FC (by decide), C.bk.mv a (by decide) FC (by decide), C.dy.mv a (by decide) FC (by decide), C_ca.mv W h9 C.ca a (by decide) (by decide) rfl FC (by decide), C.kn.mv a (by decide) FC (by decide)⟩, ⟨R.tp.mv a (by decide) FM (by decide), R.th.mv a (by decide) FM (by decide), m_pg, R.lw.mv a (by decide) rfl FM (by decide), R.tr.mv a (by decide) FM (by decide), R.ho.mv a (by decide) FM (by decide), R.bk.mv a (by decide) FM (by decide), R.dy.mv a (by decide) FM (by decide)⟩, Nat.le_succ _⟩
