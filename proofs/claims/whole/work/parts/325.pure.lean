/-! PURE: trials and holds -/
theorem ex_succ {P : Nat → Prop} {n : Nat} : (∃ k, k < n + 1 ∧ P k) ↔ (∃ k, k < n ∧ P k) ∨ P n := by
  constructor
  · rintro ⟨k, hk, h⟩
    by_cases e : k = n
    · subst e; exact Or.inr h
    · exact Or.inl ⟨k, by omega, h⟩
  · rintro (⟨k, hk, h⟩ | h)
    · exact ⟨k, by omega, h⟩
    · exact ⟨n, by omega, h⟩
theorem all_succ {P : Nat → Prop} {n : Nat} : (∀ k, k < n + 1 → P k) ↔ (∀ k, k < n → P k) ∧ P n := by
  constructor
  · intro h; exact ⟨fun k hk => h k (by omega), h n (by omega)⟩
  · rintro ⟨h1, h2⟩ k hk
    by_cases e : k = n
    · subst e; exact h2
    · exact h1 k (by omega)
theorem min_le {x y v : Int32} : jMin x y ≤ v ↔ x ≤ v ∨ y ≤ v := by
  unfold jMin
  simp only [Int32.le_iff_toInt_le, Int32.lt_iff_toInt_lt]
  split <;> omega
theorem le_max {x y v : Int32} : v ≤ jMax x y ↔ v ≤ x ∨ v ≤ y := by
  unfold jMax
  simp only [Int32.le_iff_toInt_le, Int32.lt_iff_toInt_lt]
  split <;> omega
theorem le_min {x y v : Int32} : v ≤ jMin x y ↔ v ≤ x ∧ v ≤ y := by
  unfold jMin
  simp only [Int32.le_iff_toInt_le, Int32.lt_iff_toInt_lt]
  split <;> omega
theorem max_le {x y v : Int32} : jMax x y ≤ v ↔ x ≤ v ∧ y ≤ v := by
  unfold jMax
  simp only [Int32.le_iff_toInt_le, Int32.lt_iff_toInt_lt]
  split <;> omega
theorem in_if (x a b : Int32) : M_in x a b = some (if a ≤ x ∧ x ≤ b then nI 1 else nI 0) := by
  by_cases h : a ≤ x ∧ x ≤ b
  · rw [if_pos h]
    simp only [Int32.le_iff_toInt_le] at h
    exact in_pos (by rw [Int32.lt_iff_toInt_lt]; omega) (by rw [Int32.lt_iff_toInt_lt]; omega)
  · rw [if_neg h]
    simp only [Int32.le_iff_toInt_le] at h
    exact in_neg (by simp only [Int32.lt_iff_toInt_lt]; omega)
theorem in_two (x a b : Int32) : M_in x a b = some (nI 0) ∨ M_in x a b = some (nI 1) := by
  rw [in_if]
  split
  · exact Or.inr rfl
  · exact Or.inl rfl
theorem q_trial (x y : Int32) (b : Nat) (hb : b ≤ 1) : Mut (B_trial x y (nI b)) (M_trial x y (nI b)) := by
  intro S μ ν W C R h9
  have h6 := W.lw.1
  have h20 := W.tr.1
  have same : Same1 S μ ν := same1 W C R
  unfold B_trial M_trial
  rw [within_in]
  rcases law_arg W x with hx | ⟨l, hl, rfl⟩
  · rw [hasL0 C hx, isL0 W R hx, bS, bS, if_pos z00, if_pos z00]; exact same
  rw [hasL1 W C hl, isL1 W R hl, bS, bS, if_neg n10, if_neg n10]
  rcases in_two y (-9999) (nI 9999) with h | h
  · rw [h, bS, bS, if_pos z00, if_pos z00]; exact same
  rw [h, bS, bS, if_neg n10, if_neg n10, C.tr.1, R.tr.1]
  by_cases h : nTr S = 20
  · rw [h, if_neg (by decide), if_pos rfl]; exact same
  rw [if_pos ((lt_n (by omega) (by decide)).mpr (by omega)), if_neg (fun z => h ((eq_n (by omega) (by decide)).mp z))]
  have hbb : nI b = 0 ∨ nI b = 1 := by
    rcases (show b = 0 ∨ b = 1 by omega) with rfl | rfl
    · exact Or.inl rfl
    · exact Or.inr rfl
  have d1 : mI (mSI ν 1345 0 (nTr S) (nI l)) 1348 0 0 = nI (nTr S) := (iS_v (by decide)).trans R.tr.1
  have d2 : mI (mSI (mSI ν 1345 0 (nTr S) (nI l)) 1346 0 (nTr S) y) 1348 0 0 = nI (nTr S) := (iS_v (by decide)).trans d1
  have d3 : mI (mSI (mSI (mSI ν 1345 0 (nTr S) (nI l)) 1346 0 (nTr S) y) 1347 0 (nTr S) (nI b)) 1348 0 0 = nI (nTr S) := (iS_v (by decide)).trans d2
  rw [wr_n (by omega) (by decide), bS, d1, wr_n (by omega) (by decide), bS, d2, wz_n (by omega) (by decide) hbb, bS, bS, d3, add_n, iS_eq]
  let T := stN (stN (stI (stN S 1345 0 (nTr S) l) 1346 0 (nTr S) y) 1347 0 (nTr S) b) 507 0 0 (nTr S + 1)
  let S' := if b = 0 then stI T 506 0 l (jMax (sI S 506 0 l) y) else stI T 505 0 l (jMin (sI S 505 0 l) y)
  let μ' := mSI (if b = 0 then mSI μ 506 0 l (jMax (sI S 506 0 l) y) else mSI μ 505 0 l (jMin (sI S 505 0 l) y)) 507 0 0 (nI (nTr S + 1))
  have eC : Laws_tellTrial (nI l) y (nI b) μ = some μ' := by
    unfold Laws_tellTrial
    obtain ⟨g1, g2⟩ := C.tr.2 l (by omega)
    rcases (show b = 0 ∨ b = 1 by omega) with rfl | rfl
    · rw [if_pos z00, rd_n (by omega) (by decide), g2, bS, wr_n (by omega) (by decide), bS, bS, bS, show mI (mSI μ 506 0 l (jMax (sI S 506 0 l) y)) 507 0 0 = nI (nTr S) from (iS_v (by decide)).trans C.tr.1, add_n]
      rfl
    · rw [if_neg n10, rd_n (by omega) (by decide), g1, bS, wr_n (by omega) (by decide), bS, bS, bS, show mI (mSI μ 505 0 l (jMin (sI S 505 0 l) y)) 507 0 0 = nI (nTr S) from (iS_v (by decide)).trans C.tr.1, add_n]
      rfl
  have e507 : mI μ' 507 0 0 = nI (nTr S + 1) := iS_eq
  rw [eC, bS, e507]
  have aT : Ag [505, 506, 507, 1345, 1346, 1347] S T := Ag.sn (by simp) (Ag.sn (by simp) (Ag.si (by simp) (Ag.sn (by simp) Ag.rfl)))
  have a : Ag [505, 506, 507, 1345, 1346, 1347] S S' := by
    show Ag _ S (if b = 0 then _ else _)
    split
    · exact Ag.si (by simp) aT
    · exact Ag.si (by simp) aT
  have FC : Fr [505, 506, 507] μ μ' := by
    show Fr _ μ (mSI (if b = 0 then _ else _) _ _ _ _)
    split
    · exact fr_si (by simp) (fr_si (by simp) Fr.refl)
    · exact fr_si (by simp) (fr_si (by simp) Fr.refl)
  have FM : Fr [1345, 1346, 1347, 1348] ν (mSI (mSI (mSI (mSI ν 1345 0 (nTr S) (nI l)) 1346 0 (nTr S) y) 1347 0 (nTr S) (nI b)) 1348 0 0 (nI (nTr S + 1))) := fr_si (by simp) (fr_si (by simp) (fr_si (by simp) (fr_si (by simp) Fr.refl)))
  have hL : sL S' = sL S := by
    show sL (if b = 0 then _ else _) = _
    split <;> rfl
  have hN : ∀ v r c, sN S' v r c = sN T v r c := fun v r c => by
    show sN (if b = 0 then _ else _) v r c = _
    split <;> rfl
  have kn : nTr S' = nTr S + 1 := (hN 507 0 0).trans n_eq
  have k5 : ∀ k, sN S' 1345 0 k = if k = nTr S then l else sN S 1345 0 k := fun k => by
    rw [hN]
    by_cases e : k = nTr S
    · subst e; rw [if_pos rfl]; exact (n_v (by decide)).trans ((n_v (by decide)).trans n_eq)
    · rw [if_neg e]; exact (n_v (by decide)).trans ((n_v (by decide)).trans (n_c e))
  have k7 : ∀ k, sN S' 1347 0 k = if k = nTr S then b else sN S 1347 0 k := fun k => by
    rw [hN]
    by_cases e : k = nTr S
    · subst e; rw [if_pos rfl]; exact (n_v (by decide)).trans n_eq
    · rw [if_neg e]; exact (n_v (by decide)).trans ((n_c e).trans (sN_I.trans (n_v (by decide))))
  have kT : ∀ k, sI T 1346 0 k = if k = nTr S then y else sI S 1346 0 k := fun k => by
    by_cases e : k = nTr S
    · subst e; rw [if_pos rfl]; exact i_eq
    · rw [if_neg e]; exact i_c e
  have k6 : ∀ k, sI S' 1346 0 k = if k = nTr S then y else sI S 1346 0 k := fun k => by
    rw [← kT]
    show sI (if b = 0 then _ else _) 1346 0 k = _
    split
    · exact i_v (by decide)
    · exact i_v (by decide)
  have q5 : ∀ m, sI S' 505 0 m = if b = 1 ∧ m = l then jMin (sI S 505 0 l) y else sI S 505 0 m := fun m => by
    show sI (if b = 0 then _ else _) 505 0 m = _
    rcases (show b = 0 ∨ b = 1 by omega) with rfl | rfl
    · rw [if_pos rfl, if_neg (by omega)]; exact i_v (by decide)
    · rw [if_neg (by decide)]
      by_cases e : m = l
      · subst e; rw [if_pos ⟨rfl, rfl⟩]; exact i_eq
      · rw [if_neg (fun z => e z.2)]; exact i_c e
  have q6 : ∀ m, sI S' 506 0 m = if b = 0 ∧ m = l then jMax (sI S 506 0 l) y else sI S 506 0 m := fun m => by
    show sI (if b = 0 then _ else _) 506 0 m = _
    rcases (show b = 0 ∨ b = 1 by omega) with rfl | rfl
    · rw [if_pos rfl]
      by_cases e : m = l
      · subst e; rw [if_pos ⟨rfl, rfl⟩]; exact i_eq
      · rw [if_neg (fun z => e z.2)]; exact i_c e
    · rw [if_neg (by decide), if_neg (by omega)]; exact i_v (by decide)
  have h_tr : W_tr S' := by
    obtain ⟨w1, w2, w3⟩ := W.tr
    unfold W_tr
    rw [kn]
    refine ⟨by omega, fun k hk => ?_, fun m v hm hv => ?_⟩
    · rw [k5, k7]
      by_cases e : k = nTr S
      · rw [if_pos e, if_pos e]; exact ⟨hb, by omega⟩
      · rw [if_neg e, if_neg e]; exact w2 k (by omega)
    · obtain ⟨w4, w5⟩ := w3 m v hm hv
      have old : ∀ k, k < nTr S → ¬ k = nTr S := fun k hk => by omega
      have x1 : (∃ k, k < nTr S ∧ sN S' 1345 0 k = m ∧ sN S' 1347 0 k = 1 ∧ sI S' 1346 0 k ≤ v) ↔ ∃ k, k < nTr S ∧ sN S 1345 0 k = m ∧ sN S 1347 0 k = 1 ∧ sI S 1346 0 k ≤ v := by
        constructor
        · rintro ⟨k, hk, h⟩
          rw [k5, k6, k7, if_neg (old k hk), if_neg (old k hk), if_neg (old k hk)] at h
          exact ⟨k, hk, h⟩
        · rintro ⟨k, hk, h⟩
          refine ⟨k, hk, ?_⟩
          rw [k5, k6, k7, if_neg (old k hk), if_neg (old k hk), if_neg (old k hk)]
          exact h
      have x2 : (∃ k, k < nTr S ∧ sN S' 1345 0 k = m ∧ sN S' 1347 0 k = 0 ∧ v ≤ sI S' 1346 0 k) ↔ ∃ k, k < nTr S ∧ sN S 1345 0 k = m ∧ sN S 1347 0 k = 0 ∧ v ≤ sI S 1346 0 k := by
        constructor
        · rintro ⟨k, hk, h⟩
          rw [k5, k6, k7, if_neg (old k hk), if_neg (old k hk), if_neg (old k hk)] at h
          exact ⟨k, hk, h⟩
        · rintro ⟨k, hk, h⟩
          refine ⟨k, hk, ?_⟩
          rw [k5, k6, k7, if_neg (old k hk), if_neg (old k hk), if_neg (old k hk)]
          exact h
      rw [ex_succ, ex_succ, x1, x2, ← w4, ← w5, k5, k6, k7, if_pos rfl, if_pos rfl, if_pos rfl, q5, q6]
      constructor
      · by_cases e : b = 1 ∧ m = l
        · rw [if_pos e, min_le, e.2]
          exact ⟨fun h => h.imp id fun h => ⟨rfl, e.1, h⟩, fun h => h.imp id fun h => h.2.2⟩
        · rw [if_neg e]
          exact ⟨Or.inl, fun h => h.elim id fun h => absurd ⟨h.2.1, h.1.symm⟩ e⟩
      · by_cases e : b = 0 ∧ m = l
        · rw [if_pos e, le_max, e.2]
          exact ⟨fun h => h.imp id fun h => ⟨rfl, e.1, h⟩, fun h => h.imp id fun h => h.2.2⟩
        · rw [if_neg e]
          exact ⟨Or.inl, fun h => h.elim id fun h => absurd ⟨h.2.1, h.1.symm⟩ e⟩
  have c_tr : C_tr S' μ' := by
    unfold C_tr
    rw [kn]
    refine ⟨iS_eq, fun m hm => ?_⟩
    obtain ⟨g1, g2⟩ := C.tr.2 m hm
    rw [q5, q6]
    have z5 : mI μ' 505 0 m = mI (if b = 0 then mSI μ 506 0 l (jMax (sI S 506 0 l) y) else mSI μ 505 0 l (jMin (sI S 505 0 l) y)) 505 0 m := iS_v (by decide)
    have z6 : mI μ' 506 0 m = mI (if b = 0 then mSI μ 506 0 l (jMax (sI S 506 0 l) y) else mSI μ 505 0 l (jMin (sI S 505 0 l) y)) 506 0 m := iS_v (by decide)
    rw [z5, z6]
    rcases (show b = 0 ∨ b = 1 by omega) with h0 | h0
    · rw [if_pos h0, if_neg (c := b = 1 ∧ m = l) (by omega), iS_v (by decide)]
      refine ⟨g1, ?_⟩
      by_cases e : m = l
      · rw [if_pos ⟨h0, e⟩, e]; exact iS_eq
      · rw [if_neg (fun z => e z.2), iS_c e]; exact g2
    · rw [if_neg (c := b = 0) (by omega), if_neg (c := b = 0 ∧ m = l) (by omega), iS_v (v := 505) (a := 506) (by decide)]
      refine ⟨?_, g2⟩
      by_cases e : m = l
      · rw [if_pos ⟨h0, e⟩, e]; exact iS_eq
      · rw [if_neg (fun z => e z.2), iS_c e]; exact g1
  have m_tr : M_tr S' (mSI (mSI (mSI (mSI ν 1345 0 (nTr S) (nI l)) 1346 0 (nTr S) y) 1347 0 (nTr S) (nI b)) 1348 0 0 (nI (nTr S + 1))) := by
    unfold M_tr
    rw [kn]
    refine ⟨iS_eq, fun k hk => ?_⟩
    rw [k5, k6, k7]
    by_cases e : k = nTr S
    · subst e
      rw [if_pos rfl, if_pos rfl, if_pos rfl]
      exact ⟨(iS_v (by decide)).trans ((iS_v (by decide)).trans ((iS_v (by decide)).trans iS_eq)), (iS_v (by decide)).trans ((iS_v (by decide)).trans iS_eq), (iS_v (by decide)).trans iS_eq⟩
    · rw [if_neg e, if_neg e, if_neg e]
      obtain ⟨g1, g2, g3⟩ := R.tr.2 k (by omega)
      exact ⟨(iS_v (by decide)).trans ((iS_v (by decide)).trans ((iS_v (by decide)).trans ((iS_c e).trans g1))), (iS_v (by decide)).trans ((iS_v (by decide)).trans ((iS_c e).trans ((iS_v (by decide)).trans g2))), (iS_v (by decide)).trans ((iS_c e).trans ((iS_v (by decide)).trans ((iS_v (by decide)).trans g3)))⟩
  have e9 : sN S' 908 0 0 = sN S 908 0 0 := a.n (L := [908]) (by decide) 908 (by decide) 0 0
  exact ⟨_, S', _, _, rfl, rfl, ⟨W.tp.ag a (by decide), W.th.ag a (by decide), W.pg.ag a (by decide), W.lw.ag a (by decide) (fun l _ => by rw [hL]), h_tr, W.ho.ag a (by decide), W.bk.ag a (by decide), W.dy.ag a (by decide)⟩, ⟨C.tp.mv a (by decide) FC (by decide), C.th.mv a (by decide) FC (by decide), C.pg.mv a (by decide) FC (by decide), C.lw.mv a (by decide) hL FC (by decide), c_tr, C.ho.mv a (by decide) FC (by decide), C.bk.mv a (by decide) FC (by decide), C.dy.mv a (by decide) FC (by decide), C_ca.mv W h9 C.ca a (by decide) (by decide) hL FC (by decide), C.kn.mv a (by decide) FC (by decide)⟩, ⟨R.tp.mv a (by decide) FM (by decide), R.th.mv a (by decide) FM (by decide), R.pg.mv a (by decide) FM (by decide), R.lw.mv a (by decide) hL FM (by decide), m_tr, R.ho.mv a (by decide) FM (by decide), R.bk.mv a (by decide) FM (by decide), R.dy.mv a (by decide) FM (by decide)⟩, by omega⟩
