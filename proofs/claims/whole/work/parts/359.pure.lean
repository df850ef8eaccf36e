/-! PURE: what a page that is read leaves alone; kin of a new page -/
theorem ft_v {X : Nat → Nat → Nat → Prop} {μ μ' : Mem} (F : Ft X μ μ') {v : Nat} (h : ∀ r c, ¬ X v r c) : mI μ' v = mI μ v := by
  funext r c
  exact F v r c (h r c)
def pgV : List Nat := [1002, 1003, 702, 703, 704, 705, 706, 707, 708, 709, 710]
theorem xpg_no {q v r c : Nat} (h : v ∉ pgV) : ¬ XPg q v r c := by
  unfold pgV at h
  simp at h
  unfold XPg XC XA
  omega
theorem CR.pgf {S : St} {μ μ' : Mem} (C : CR S μ) (F : Ft (XPg (nPg S)) μ μ') : CR S μ' := by
  have e : ∀ v, v ∉ pgV → mI μ' v = mI μ v := fun v hv => ft_v F fun r c => xpg_no hv
  have g : ∀ L, nIn pgV L = true → ∀ v, v ∈ L → mI μ' v = mI μ v := fun L hL v hv => e v (nIn_of hL hv)
  have c_pg : C_pg S μ' := by
    obtain ⟨h1, h2, h3⟩ := C.pg
    refine ⟨by rw [e 712 (by decide)]; exact h1, fun p hp => ?_, by rw [e 711 (by decide)]; exact h3⟩
    obtain ⟨g1, g2, g3, g4, g5, g6, g7⟩ := h2 p hp
    have n0 : ∀ v, v = 702 ∨ v = 706 ∨ v = 707 ∨ v = 709 → mI μ' v 0 p = mI μ v 0 p := fun v hv => F v 0 p (by unfold XPg XC XA; omega)
    have n1 : ∀ v c, v = 703 ∨ v = 704 ∨ v = 705 ∨ v = 708 ∨ v = 710 → mI μ' v p c = mI μ v p c := fun v c hv => F v p c (by unfold XPg XC XA; omega)
    refine ⟨by rw [n0 702 (by decide)]; exact g1, fun k hk => ?_, by rw [n0 706 (by decide)]; exact g3, by rw [n0 707 (by decide)]; exact g4, by rw [n0 709 (by decide)]; exact g5, fun i hi => by rw [n1 708 i (by decide)]; exact g6 i hi, fun a ha => by rw [n1 710 a (by decide)]; exact g7 a ha⟩
    rw [n1 703 k (by decide), n1 704 k (by decide), n1 705 k (by decide)]
    exact g2 k hk
  exact ⟨C.tp.fr (g _ (by decide)), C.th.fr (g _ (by decide)), c_pg, C.lw.fr (g _ (by decide)), C.tr.fr (g _ (by decide)), C.ho.fr (g _ (by decide)), C.bk.fr (g _ (by decide)), C.dy.fr (g _ (by decide)), C.ca.fr (g _ (by decide)), C.kn.fr (g _ (by decide))⟩
def pgVM : List Nat := [1303, 1304, 1315, 1316, 1317, 1318, 1319, 1320]
theorem xpgM_no {p v r c : Nat} (h : v ∉ pgVM) : ¬ XPgM p v r c := by
  unfold pgVM at h
  simp at h
  unfold XPgM XM XAM
  omega
theorem MR.pgf {S : St} {p : Nat} {ν ν' : Mem} (W : WF S) (R : MR S ν) (hp : nPg S ≤ p) (F : Ft (XPgM p) ν ν') : MR S ν' := by
  have e : ∀ v, v ∉ pgVM → mI ν' v = mI ν v := fun v hv => ft_v F fun r c => xpgM_no hv
  have g : ∀ L, nIn pgVM L = true → ∀ v, v ∈ L → mI ν' v = mI ν v := fun L hL v hv => e v (nIn_of hL hv)
  have m_pg : M_pg S ν' := by
    obtain ⟨h1, h2⟩ := R.pg
    refine ⟨by rw [e 1322 (by decide)]; exact h1, fun j hj => ?_⟩
    obtain ⟨g1, g2, g3, g4, g5⟩ := h2 j hj
    have w := W.pg.2.1 j hj
    have hm8 := w.1.2
    have h72 := w.2.2.2.2.2.1
    refine ⟨?_, fun k hk => ?_, ?_, fun i hi => ?_, by rw [e 1321 (by decide)]; exact g5⟩
    · rw [F 1315 0 j (by unfold XPgM XM XAM; omega)]; exact g1
    · rw [F 1316 0 (8 * j + k) (by unfold XPgM XM XAM; omega), F 1317 0 (8 * j + k) (by unfold XPgM XM XAM; omega), F 1318 0 (8 * j + k) (by unfold XPgM XM XAM; omega)]
      exact g2 k hk
    · rw [F 1319 0 j (by unfold XPgM XM XAM; omega)]; exact g3
    · rw [F 1320 0 (72 * j + i) (by unfold XPgM XM XAM; omega)]; exact g4 i hi
  exact ⟨R.tp.fr (g _ (by decide)), R.th.fr (g _ (by decide)), m_pg, R.lw.fr (g _ (by decide)), R.tr.fr (g _ (by decide)), R.ho.fr (g _ (by decide)), R.bk.fr (g _ (by decide)), R.dy.fr (g _ (by decide))⟩
theorem kin_C {S : St} {q : Nat} {μ : Mem} (W : WF S) (hq : nPg S = q + 1) (P : C_pg S μ) (h1 : ∀ p p', p < q → p' < q → mI μ 301 p p' = nI (farP S p p')) (h2 : ∀ p p', p' < p → p < q → mI μ 302 p p' = nI (edP S p p')) (h3 : ∀ p, p < q → mI μ 303 0 p = camI S p) (dg : mI μ 301 q q = nI 0) :
    ∃ μ', Kin_join (nI q) μ = some μ' ∧ Fr [301, 302, 303, 304] μ μ' ∧ C_kn S μ' ∧ ∀ p, q < p → mI μ' 301 p p = mI μ 301 p p := by
  have h16 := W.pg.1
  have wq := W.pg.2.1 q (by omega)
  obtain ⟨s0, hs0⟩ : ∃ z, z = mSI μ 303 0 q (-1) := ⟨_, rfl⟩
  have F0 : Fr [301, 302, 303, 304] μ s0 := by rw [hs0]; exact fr_si (by simp) Fr.refl
  have hl : ∃ s', Kin_join_l1 (nI q) FU (nI 0) s0 = some s' ∧ Fr [301, 302, 303, 304] μ s' ∧ (∀ j, j < q → mI s' 301 q j = nI (farP S q j) ∧ mI s' 301 j q = nI (farP S j q) ∧ mI s' 302 q j = nI (edP S q j)) ∧ (∀ p p', p < q → p' < q → mI s' 301 p p' = mI μ 301 p p') ∧ (∀ p, q ≤ p → mI s' 301 p p = mI μ 301 p p) ∧ (∀ p p', p < q → mI s' 302 p p' = mI μ 302 p p') ∧ mI s' 303 0 q = camI S q ∧ ∀ p, p < q → mI s' 303 0 p = mI μ 303 0 p := by
    refine loopE (fun f v s => Kin_join_l1 (nI q) f v s) q (fun k s => Fr [301, 302, 303, 304] μ s ∧ (∀ j, j < k → mI s 301 q j = nI (farP S q j) ∧ mI s 301 j q = nI (farP S j q) ∧ mI s 302 q j = nI (edP S q j)) ∧ (∀ p p', p < q → p' < q → mI s 301 p p' = mI μ 301 p p') ∧ (∀ p, q ≤ p → mI s 301 p p = mI μ 301 p p) ∧ (∀ p p', p < q → mI s 302 p p' = mI μ 302 p p') ∧ mI s 303 0 q = (if k = 0 then -1 else nI (camP S q k)) ∧ ∀ p, p < q → mI s 303 0 p = mI μ 303 0 p) _ ?_ ?_ q 0 s0 FU (by omega) (FU_lt (by omega)) ⟨F0, fun j h => absurd h (Nat.not_lt_zero j), fun p p' _ _ => by rw [hs0]; exact iS_v (by decide), fun p _ => by rw [hs0]; exact iS_v (by decide), fun p p' _ => by rw [hs0]; exact iS_v (by decide), by rw [hs0, if_pos rfl]; exact iS_eq, fun p hp => by rw [hs0]; exact iS_c (by omega)⟩
    · rintro f k s hk ⟨F, i1, i2, i3, i4, i5, i6⟩
      left
      have wk := W.pg.2.1 k (by omega)
      have Ps : C_pg S s := P.fr fun v hv => F.i v (nIn_of (by decide) hv)
      obtain ⟨s1, a1, a2⟩ := acts_C (p := q) (q := k) (μ0 := s) W (fun r i hr hi => (Ps.2.1 r (by rcases hr with rfl | rfl <;> omega)).2.2.2.2.2.1 i hi) (fun r hr => (Ps.2.1 r (by rcases hr with rfl | rfl <;> omega)).2.2.2.2.1) (fun r hr => by
        have w := W.pg.2.1 r (by rcases hr with rfl | rfl <;> omega)
        exact ⟨w.2.2.2.2.2.1, w.2.2.2.2.2.2.1⟩) (by omega) (by omega)
      have F1 : Fr [301, 302, 303, 304] μ s1 := F.trans (a2.mono (by simp))
      have Ps1 : C_pg S s1 := P.fr fun v hv => F1.i v (nIn_of (by decide) hv)
      have e6q := (Ps1.2.1 q (by omega)).2.2.1
      have e6k := (Ps1.2.1 k (by omega)).2.2.1
      have hpc := pc_eq (sN S 706 0 q ^^^ sN S 706 0 k)
      have hfar := far_bd W (p := q) (q := k) (by omega) (by omega)
      have j3 : mI s1 303 0 q = (if k = 0 then -1 else nI (camP S q k)) := by rw [a2.i 303 (by decide)]; exact i5
      obtain ⟨s4, hs4⟩ : ∃ z, z = mSI (mSI (mSI s1 302 q k (nI (edP S q k))) 301 q k (nI (farP S q k))) 301 k q (nI (farP S q k)) := ⟨_, rfl⟩
      have F4 : Fr [301, 302, 303, 304] μ s4 := by rw [hs4]; exact fr_si (by simp) (fr_si (by simp) (fr_si (by simp) F1))
      have v303 : ∀ p, mI s4 303 0 p = mI s 303 0 p := fun p => by rw [hs4, iS_v (show (303 : Nat) ≠ 301 by decide), iS_v (show (303 : Nat) ≠ 301 by decide), iS_v (show (303 : Nat) ≠ 302 by decide), a2.i 303 (by decide)]
      have v302 : ∀ p p', mI s4 302 p p' = if p = q ∧ p' = k then nI (edP S q k) else mI s 302 p p' := fun p p' => by
        rw [hs4, iS_v (show (302 : Nat) ≠ 301 by decide), iS_v (show (302 : Nat) ≠ 301 by decide), iS, a2.i 302 (by decide)]
        by_cases e : p = q ∧ p' = k
        · rw [if_pos e, if_pos ⟨rfl, e⟩]
        · rw [if_neg e, if_neg (fun z => e z.2)]
      have v301 : ∀ p p', mI s4 301 p p' = if (p = q ∧ p' = k) ∨ (p = k ∧ p' = q) then nI (farP S q k) else mI s 301 p p' := fun p p' => by
        rw [hs4, iS, iS, iS_v (show (301 : Nat) ≠ 302 by decide), a2.i 301 (by decide)]
        by_cases e : p = k ∧ p' = q
        · rw [if_pos ⟨rfl, e⟩, if_pos (Or.inr e)]
        · rw [if_neg (fun z => e z.2)]
          by_cases e2 : p = q ∧ p' = k
          · rw [if_pos ⟨rfl, e2⟩, if_pos (Or.inl e2)]
          · rw [if_neg (fun z => e2 z.2), if_neg (fun z => z.elim e2 e)]
      have fq : mI s4 303 0 q = (if k = 0 then -1 else nI (camP S q k)) := (v303 q).trans i5
      -- the nearest so far
      have near : ∃ s5, (if mI s4 303 0 q = (-1) then ((mWr s4 303 0 16 (nI q) (nI k)).bind fun μ14 => some μ14) else (mIx (nI q) 16).bind fun r15 => (mRd s4 303 0 16 (nI q)).bind fun x16 => (mRd s4 301 r15 16 x16).bind fun x17 => if nI (farP S q k) < x17 then ((mWr s4 303 0 16 (nI q) (nI k)).bind fun μ18 => some μ18) else some s4) = some s5 ∧ Fr [303] s4 s5 ∧ mI s5 303 0 q = nI (camP S q (k + 1)) ∧ ∀ p, p < q → mI s5 303 0 p = mI s4 303 0 p := by
        have wr : ∃ s5, ((mWr s4 303 0 16 (nI q) (nI k)).bind fun μ14 => some μ14) = some s5 ∧ Fr [303] s4 s5 ∧ mI s5 303 0 q = nI k ∧ ∀ p, p < q → mI s5 303 0 p = mI s4 303 0 p := ⟨mSI s4 303 0 q (nI k), by rw [wr_n (by omega) (by decide), bS], fr_si (by simp) Fr.refl, iS_eq, fun p hp => iS_c (by omega)⟩
        have ec : camP S q (k + 1) = if k = 0 then 0 else if farP S q k < farP S q (camP S q k) then k else camP S q k := rfl
        rw [fq, ec]
        by_cases h0 : k = 0
        · subst h0
          rw [if_pos rfl, if_pos rfl, if_pos rfl]; exact wr
        · have hc := cam_lt (S := S) (p := q) (q := k) (by omega)
          have hfc := far_bd W (p := q) (q := camP S q k) (by omega) (by omega)
          rw [if_neg h0, if_neg h0, if_neg (fun z => neg_n (by omega) z.symm), ix_n (by omega) (by decide), bS, rd_n (by omega) (by decide), fq, if_neg h0, bS, rd_n (by omega) (by decide), v301, if_neg (by omega), (i1 _ hc).1, bS]
          by_cases hlt : farP S q k < farP S q (camP S q k)
          · rw [if_pos ((lt_n (by omega) (by omega)).mpr hlt), if_pos hlt]; exact wr
          · rw [if_neg (fun z => hlt ((lt_n (by omega) (by omega)).mp z)), if_neg hlt]
            exact ⟨s4, rfl, Fr.refl, by rw [fq, if_neg h0], fun _ _ => rfl⟩
      obtain ⟨s5, n1, n2, n3, n4⟩ := near
      rw [rd_n (v := 303) (i := q) (by omega) (by decide), ix_n (by omega) (by decide)] at n1
      refine ⟨s5, ?_, F4.trans (n2.mono (by simp)), fun j hj => ?_, fun p p' hp hp' => ?_, fun p hp => ?_, fun p p' hp => ?_, ?_, fun p hp => ?_⟩
      · show Kin_join_l1b (nI q) (Kin_join_l1 (nI q) f) (nI k) s = _
        unfold Kin_join_l1b
        rw [if_pos ((lt_n (by omega) (by omega)).mpr hk), a1, bS]
        simp only []
        rw [rd_n (by omega) (by decide), e6q, bS, rd_n (by omega) (by decide), e6k, bS, xor_n, hpc.1, bS, add_n, bS, ix_n (by omega) (by decide), bS, wr_n (by omega) (by decide), bS, bS, show pcN (sN S 706 0 q ^^^ sN S 706 0 k) + edP S q k = farP S q k from rfl, wr_n (by omega) (by decide), bS, ix_n (by omega) (by decide), bS, wr_n (by omega) (by decide), bS, ← hs4, rd_n (by omega) (by decide), bS, n1, bS, bS, add_n]
      · rw [n2.i 301 (by decide), n2.i 302 (by decide), v301, v301, v302]
        by_cases e : j = k
        · subst e
          rw [if_pos (Or.inl ⟨rfl, rfl⟩), if_pos (Or.inr ⟨rfl, rfl⟩), if_pos ⟨rfl, rfl⟩, far_sym j q]
          exact ⟨rfl, rfl, rfl⟩
        · rw [if_neg (by omega), if_neg (by omega), if_neg (by omega)]
          exact i1 j (by omega)
      · rw [n2.i 301 (by decide), v301, if_neg (by omega)]; exact i2 p p' hp hp'
      · rw [n2.i 301 (by decide), v301, if_neg (by omega)]; exact i3 p hp
      · rw [n2.i 302 (by decide), v302, if_neg (by omega)]; exact i4 p p' hp
      · rw [n3, if_neg (Nat.succ_ne_zero k)]
      · rw [n4 p hp, v303]; exact i6 p hp
    · rintro f s ⟨F, i1, i2, i3, i4, i5, i6⟩
      refine ⟨s, ?_, F, i1, i2, i3, i4, ?_, i6⟩
      · show Kin_join_l1b (nI q) (Kin_join_l1 (nI q) f) (nI q) s = _
        unfold Kin_join_l1b
        rw [if_neg (fun z => absurd ((lt_n (by omega) (by omega)).mp z) (by omega))]
      · rw [i5]; rfl
  obtain ⟨s', e1, F, i1, i2, i3, i4, i5, i6⟩ := hl
  refine ⟨s', ?_, F, ⟨fun p p' hp hp' => ?_, fun p p' hp' hp => ?_, fun p hp => ?_⟩, fun p hp => i3 p (by omega)⟩
  · unfold Kin_join
    rw [wr_n (by omega) (by decide), bS, ← hs0, e1, bS]
  · rw [hq] at hp hp'
    by_cases e : p = q
    · by_cases e2 : p' = q
      · rw [e, e2, far_same, i3 q (Nat.le_refl q), dg]
      · rw [e]; exact (i1 p' (by omega)).1
    · by_cases e2 : p' = q
      · rw [e2]; exact (i1 p (by omega)).2.1
      · rw [i2 p p' (by omega) (by omega)]; exact h1 p p' (by omega) (by omega)
  · rw [hq] at hp
    by_cases e : p = q
    · subst e; exact (i1 p' hp').2.2
    · rw [i4 p p' (by omega)]; exact h2 p p' hp' (by omega)
  · rw [hq] at hp
    by_cases e : p = q
    · subst e; exact i5
    · rw [i6 p (by omega)]; exact h3 p (by omega)
