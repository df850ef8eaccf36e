/-! PURE: sized -/
theorem q_sized (x y z : Int32) : Mut (B_sized x y z) (M_sized x y z) := by
  intro S μ ν W C R h9
  have h12 := W.th.1
  have same : Same1 S μ ν := same1 W C R
  unfold B_sized M_sized
  rw [within_in]
  rcases th_arg W x with hx | ⟨t, ht, rfl⟩
  · rw [hasT0 C hx, isT0 W R hx, bS, bS, if_pos z00, if_pos z00]; exact same
  rw [hasT1 W C ht, isT1 W R ht, bS, bS, if_neg n10, if_neg n10]
  rcases year_arg y with ⟨h1, h2⟩ | ⟨y, y1, y2, rfl, h1, h2⟩
  · rw [h1, h2, bS, bS, if_pos z00, if_pos z00]; exact same
  rw [h1, h2, bS, bS, if_neg n10, if_neg n10]
  rcases in_nat z 1 999 (by decide) (by decide) with h | ⟨w, w1, w2, rfl, h⟩
  · rw [h, bS, bS, if_pos z00, if_pos z00]; exact same
  rw [h, bS, bS, if_neg n10, if_neg n10]
  obtain ⟨g1, g2⟩ := C.th.2.2.2 t (by omega)
  obtain ⟨r1, r2⟩ := R.th.2.2 t (by omega)
  obtain ⟨v1, v2, v3⟩ := W.th.2.2.2.1 t (by omega)
  generalize hc : sN S 804 0 t = c at g1 g2 r1 r2 v1 v2 v3
  unfold Pantry_tellSize kj
  rw [rd_n (by omega) (by decide), g1, rd_n (by omega) (by decide), r1]
  simp only [bS]
  by_cases h6 : c = 6
  · subst h6
    rw [if_neg (by decide), if_pos rfl, bS]; exact same
  rw [if_pos ((lt_n (by omega) (by decide)).mpr (by omega)), if_neg (fun z => h6 ((eq_n (by omega) (by decide)).mp z))]
  let S' := stN (stN (stN S 805 t c y) 806 t c w) 804 0 t (c + 1)
  let μ' := mSI (mSI (mSI μ 805 t c (nI y)) 806 t c (nI w)) 804 0 t (nI (c + 1))
  let ν' := mSI (mSI (mSI ν 1312 0 (6 * t + c) (nI y)) 1313 0 (6 * t + c) (nI w)) 1311 0 t (nI (c + 1))
  have eC : ((mIx (nI t) 12).bind fun r5 => (mWr μ 805 r5 6 (nI c) (nI y)).bind fun μ6 => (mIx (nI t) 12).bind fun r7 => (mWr μ6 806 r7 6 (nI c) (nI w)).bind fun μ8 => (mWr μ8 804 0 12 (nI t) ((nI c) + (nI 1))).bind fun μ9 => some (((nI c) + (nI 1)), μ9)) = some (nI (c + 1), μ') := by
    rw [ix_n (by omega) (by decide), bS, wr_n (by omega) (by decide), bS, bS, wr_n (by omega) (by decide), bS, add_n, wr_n (by omega) (by decide), bS]
  have eM : ((mWr ν 1312 0 72 (((nI 6) * (nI t)) + (nI c)) (nI y)).bind fun μ10 => (mRd μ10 1311 0 12 (nI t)).bind fun x11 => (mWr μ10 1313 0 72 (((nI 6) * (nI t)) + x11) (nI w)).bind fun μ12 => (mRd μ12 1311 0 12 (nI t)).bind fun x13 => (mWr μ12 1311 0 12 (nI t) (x13 + (nI 1))).bind fun μ14 => (mRd μ14 1311 0 12 (nI t)).bind fun x15 => some (x15, μ14)) = some (nI (c + 1), ν') := by
    have d1 : mI (mSI ν 1312 0 (6 * t + c) (nI y)) 1311 0 t = nI c := (iS_v (by decide)).trans r1
    have d2 : mI (mSI (mSI ν 1312 0 (6 * t + c) (nI y)) 1313 0 (6 * t + c) (nI w)) 1311 0 t = nI c := (iS_v (by decide)).trans d1
    rw [mul_n, add_n, wr_n (by omega) (by decide), bS, rd_n (by omega) (by decide), d1, bS, add_n, wr_n (by omega) (by decide), bS, rd_n (by omega) (by decide), d2, bS, add_n, wr_n (by omega) (by decide), bS, rd_n (by omega) (by decide), iS_eq, bS]
  have go : (∀ k, k + 1 = c → sN S 805 t k < y) → ∃ r S' μ'' ν'', some (nI (c + 1), μ') = some (r, μ'') ∧ some (nI (c + 1), ν') = some (r, ν'') ∧ WF S' ∧ CR S' μ'' ∧ MR S' ν'' ∧ sN S' 908 0 0 ≤ sN S 908 0 0 + 1 := by
    intro hlt
    have a : Ag [804, 805, 806] S S' := Ag.sn (by simp) (Ag.sn (by simp) (Ag.sn (by simp) Ag.rfl))
    have FC : Fr [804, 805, 806] μ μ' := fr_si (by simp) (fr_si (by simp) (fr_si (by simp) Fr.refl))
    have FM : Fr [1311, 1312, 1313] ν ν' := fr_si (by simp) (fr_si (by simp) (fr_si (by simp) Fr.refl))
    have k4 : ∀ u, sN S' 804 0 u = if u = t then c + 1 else sN S 804 0 u := fun u => by
      by_cases e : u = t
      · subst e; rw [if_pos rfl]; exact n_eq
      · rw [if_neg e]; exact (n_c e).trans ((n_v (by decide)).trans (n_v (by decide)))
    have k5 : ∀ u k, sN S' 805 u k = if u = t ∧ k = c then y else sN S 805 u k := fun u k => by
      refine (n_v (by decide)).trans ((n_v (by decide)).trans ?_)
      rw [sN_N]
      by_cases e : u = t ∧ k = c
      · rw [if_pos ⟨rfl, e⟩, if_pos e]
      · rw [if_neg (fun z => e z.2), if_neg e]
    have k6 : ∀ u k, sN S' 806 u k = if u = t ∧ k = c then w else sN S 806 u k := fun u k => by
      refine (n_v (by decide)).trans ?_
      rw [sN_N]
      by_cases e : u = t ∧ k = c
      · rw [if_pos ⟨rfl, e⟩, if_pos e]
      · rw [if_neg (fun z => e z.2), if_neg e]; exact n_v (by decide)
    have kk := fun v hv r c => a.n (L := [800, 801, 802, 803, 807, 808, 809]) (by decide) v hv r c
    have h_th : W_th S' := by
      have hw := W.th
      revert hw
      unfold W_th nTh
      simp only [kk 800 (by decide), kk 801 (by decide), kk 802 (by decide), kk 803 (by decide), kk 807 (by decide), kk 808 (by decide), kk 809 (by decide)]
      rintro ⟨a1, a2, a3, a4, a5⟩
      refine ⟨a1, a2, a3, fun u hu => ?_, fun u hu => ?_⟩
      · obtain ⟨b1, b2, b3⟩ := a4 u hu
        rw [k4]
        by_cases e : u = t
        · subst e
          rw [if_pos rfl]
          refine ⟨by omega, fun k hk => ?_, fun k hk => ?_⟩
          · rw [k5, k6]
            by_cases e2 : k = c
            · rw [if_pos ⟨rfl, e2⟩, if_pos ⟨rfl, e2⟩]; exact ⟨y1, y2, w1, w2⟩
            · rw [if_neg (fun z => e2 z.2), if_neg (fun z => e2 z.2)]; exact v2 k (by omega)
          · rw [k5, k5, if_neg (c := u = u ∧ k = c) (by omega)]
            by_cases e2 : k + 1 = c
            · rw [if_pos ⟨rfl, e2⟩]; exact hlt k e2
            · rw [if_neg (fun z => e2 z.2)]; exact v3 k (by omega)
        · rw [if_neg e]
          refine ⟨b1, fun k hk => ?_, fun k hk => ?_⟩
          · rw [k5, k6, if_neg (fun z => e z.1), if_neg (fun z => e z.1)]; exact b2 k hk
          · rw [k5, k5, if_neg (fun z => e z.1), if_neg (fun z => e z.1)]; exact b3 k hk
      · rw [k4, if_neg (by unfold nTh at ht; omega)]; exact a5 u hu
    have c_th : C_th S' μ' := by
      have hw := C.th
      revert hw
      unfold C_th nTh
      simp only [kk 800 (by decide), kk 801 (by decide), kk 802 (by decide), kk 803 (by decide), kk 807 (by decide), kk 808 (by decide), FC.i 800 (by decide), FC.i 801 (by decide), FC.i 802 (by decide), FC.i 803 (by decide), FC.i 807 (by decide), FC.i 808 (by decide)]
      rintro ⟨a1, a2, a3, a4⟩
      refine ⟨a1, a2, a3, fun u hu => ?_⟩
      obtain ⟨b1, b2⟩ := a4 u hu
      rw [k4]
      have m5 : ∀ k, mI μ' 805 u k = if u = t ∧ k = c then nI y else mI μ 805 u k := fun k => by
        refine (iS_v (by decide)).trans ((iS_v (by decide)).trans ?_)
        rw [I_SI]
        by_cases e : u = t ∧ k = c
        · rw [if_pos ⟨rfl, e⟩, if_pos e]
        · rw [if_neg (fun z => e z.2), if_neg e]
      have m6 : ∀ k, mI μ' 806 u k = if u = t ∧ k = c then nI w else mI μ 806 u k := fun k => by
        refine (iS_v (by decide)).trans ?_
        rw [I_SI]
        by_cases e : u = t ∧ k = c
        · rw [if_pos ⟨rfl, e⟩, if_pos e]
        · rw [if_neg (fun z => e z.2), if_neg e]; exact iS_v (by decide)
      by_cases e : u = t
      · subst e
        rw [if_pos rfl]
        refine ⟨iS_eq, fun k hk => ?_⟩
        rw [k5, k6, m5, m6]
        by_cases e2 : k = c
        · rw [if_pos ⟨rfl, e2⟩, if_pos ⟨rfl, e2⟩, if_pos ⟨rfl, e2⟩, if_pos ⟨rfl, e2⟩]; exact ⟨rfl, rfl⟩
        · rw [if_neg (fun z => e2 z.2), if_neg (fun z => e2 z.2), if_neg (fun z => e2 z.2), if_neg (fun z => e2 z.2)]; exact g2 k (by omega)
      · rw [if_neg e]
        refine ⟨(iS_c e).trans ((iS_v (by decide)).trans ((iS_v (by decide)).trans b1)), fun k hk => ?_⟩
        rw [k5, k6, m5, m6, if_neg (fun z => e z.1), if_neg (fun z => e z.1), if_neg (fun z => e z.1), if_neg (fun z => e z.1)]
        exact b2 k hk
    have m_th : M_th S' ν' := by
      have hw := R.th
      revert hw
      unfold M_th nTh
      simp only [kk 800 (by decide), kk 801 (by decide), kk 802 (by decide), kk 803 (by decide), kk 808 (by decide), kk 809 (by decide), FM.i 1306 (by decide), FM.i 1307 (by decide), FM.i 1308 (by decide), FM.i 1309 (by decide), FM.i 1310 (by decide), FM.i 1314 (by decide)]
      rintro ⟨a1, a3, a4⟩
      refine ⟨a1, a3, fun u hu => ?_⟩
      obtain ⟨b1, b2⟩ := a4 u hu
      have hu6 := (W.th.2.2.2.1 u hu).1
      rw [k4]
      have m5 : ∀ k, k < 6 → mI ν' 1312 0 (6 * u + k) = if u = t ∧ k = c then nI y else mI ν 1312 0 (6 * u + k) := fun k hk => by
        refine (iS_v (by decide)).trans ((iS_v (by decide)).trans ?_)
        rw [I_SI]
        by_cases e : u = t ∧ k = c
        · rw [if_pos ⟨rfl, rfl, by omega⟩, if_pos e]
        · rw [if_neg (fun z => e (by omega)), if_neg e]
      have m6 : ∀ k, k < 6 → mI ν' 1313 0 (6 * u + k) = if u = t ∧ k = c then nI w else mI ν 1313 0 (6 * u + k) := fun k hk => by
        refine (iS_v (by decide)).trans ?_
        rw [I_SI]
        by_cases e : u = t ∧ k = c
        · rw [if_pos ⟨rfl, rfl, by omega⟩, if_pos e]
        · rw [if_neg (fun z => e (by omega)), if_neg e]; exact iS_v (by decide)
      by_cases e : u = t
      · subst e
        rw [if_pos rfl]
        refine ⟨iS_eq, fun k hk => ?_⟩
        rw [k5, k6, m5 k (by omega), m6 k (by omega)]
        by_cases e2 : k = c
        · rw [if_pos ⟨rfl, e2⟩, if_pos ⟨rfl, e2⟩, if_pos ⟨rfl, e2⟩, if_pos ⟨rfl, e2⟩]; exact ⟨rfl, rfl⟩
        · rw [if_neg (fun z => e2 z.2), if_neg (fun z => e2 z.2), if_neg (fun z => e2 z.2), if_neg (fun z => e2 z.2)]; exact r2 k (by omega)
      · rw [if_neg e]
        refine ⟨(iS_c e).trans ((iS_v (by decide)).trans ((iS_v (by decide)).trans b1)), fun k hk => ?_⟩
        rw [k5, k6, m5 k (by omega), m6 k (by omega), if_neg (fun z => e z.1), if_neg (fun z => e z.1), if_neg (fun z => e z.1), if_neg (fun z => e z.1)]
        exact b2 k hk
    exact ⟨_, S', _, _, rfl, rfl, ⟨W.tp.ag a (by decide), h_th, W.pg.ag a (by decide), W.lw.ag a (by decide) (fun _ _ => rfl), W.tr.ag a (by decide), W.ho.ag a (by decide), W.bk.ag a (by decide), W.dy.ag a (by decide)⟩, ⟨C.tp.mv a (by decide) FC (by decide), c_th, C.pg.mv a (by decide) FC (by decide), C.lw.mv a (by decide) rfl FC (by decide), C.tr.mv a (by decide) FC (by decide), C.ho.mv a (by decide) FC (by decide), C.bk.mv a (by decide) FC (by decide), C.dy.mv a (by decide) FC (by decide), C_ca.mv W h9 C.ca a (by decide) (by decide) rfl FC (by decide), C.kn.mv a (by decide) FC (by decide)⟩, ⟨R.tp.mv a (by decide) FM (by decide), m_th, R.pg.mv a (by decide) FM (by decide), R.lw.mv a (by decide) rfl FM (by decide), R.tr.mv a (by decide) FM (by decide), R.ho.mv a (by decide) FM (by decide), R.bk.mv a (by decide) FM (by decide), R.dy.mv a (by decide) FM (by decide)⟩, Nat.le_succ _⟩
  by_cases h0 : c = 0
  · subst h0
    rw [if_neg (show ¬ 0 < nI 0 by decide), if_neg (show ¬ 0 < nI 0 by decide), eC, eM, bS]
    exact go fun k hk => absurd hk (by omega)
  · obtain ⟨k, rfl⟩ : ∃ k, c = k + 1 := ⟨c - 1, by omega⟩
    have hk := g2 k (by omega)
    have hk' := r2 k (by omega)
    have hy := v2 k (by omega)
    rw [if_pos ((gt0_n (by omega)).mpr (by omega)), if_pos ((gt0_n (by omega)).mpr (by omega)), ix_n (by omega) (by decide), bS, sub_n (by omega), Nat.add_sub_cancel, rd_n (by omega) (by decide), hk.1, bS]
    have e1 : nI 6 * nI t + nI (k + 1) - nI 1 = nI (6 * t + k) := by rw [mul_n, add_n, sub_n (by omega)]; rfl
    rw [e1, rd_n (by omega) (by decide), hk'.1, bS, bS]
    by_cases hl : sN S 805 t k < y
    · rw [if_pos ((lt_n (by omega) (by omega)).mpr hl), if_pos ((lt_n (by omega) (by omega)).mpr hl)]
      rw [ix_n (by omega) (by decide), bS] at eC
      rw [eC, eM, bS]
      exact go fun j hj => by rw [show j = k by omega]; exact hl
    · rw [if_neg (fun z => hl ((lt_n (by omega) (by omega)).mp z)), if_neg (fun z => hl ((lt_n (by omega) (by omega)).mp z)), bS]
      exact same
