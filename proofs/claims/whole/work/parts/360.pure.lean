/-! PURE: a page is told as a text -/
def pgS (S : St) (m : Nat) (L lo hi : Nat → Nat) (b6 b7 na : Nat) (A : Nat → Nat) : St := (fun v r c => if v = 1001 ∧ r = 0 ∧ c = 0 then 0 else if v = 712 ∧ r = 0 ∧ c = 0 then nPg S + 1 else if v = 702 ∧ r = 0 ∧ c = nPg S then m else if v = 706 ∧ r = 0 ∧ c = nPg S then b6 else if v = 707 ∧ r = 0 ∧ c = nPg S then b7 else if v = 709 ∧ r = 0 ∧ c = nPg S then na else if v = 703 ∧ r = nPg S then L c else if v = 704 ∧ r = nPg S then lo c else if v = 705 ∧ r = nPg S then hi c else if v = 708 ∧ r = nPg S then A c else if v = 710 ∧ r = nPg S then cntF A c na else S.1 v r c, S.2)
def tpV : List Nat := [1001, 712, 702, 703, 704, 705, 706, 707, 708, 709, 710]
theorem pgS_ag {S : St} {m b6 b7 na : Nat} {L lo hi A : Nat → Nat} : Ag tpV S (pgS S m L lo hi b6 b7 na A) := fun v hv => ⟨fun r c => by
  unfold tpV at hv
  simp at hv
  unfold pgS sN
  simp only []
  rw [if_neg (by omega), if_neg (by omega), if_neg (by omega), if_neg (by omega), if_neg (by omega), if_neg (by omega), if_neg (by omega), if_neg (by omega), if_neg (by omega), if_neg (by omega), if_neg (by omega)], fun _ _ => rfl⟩
theorem text0 {S : St} {μ ν : Mem} (W : WF S) (C : CR S μ) (R : MR S ν) (h9 : sN S 908 0 0 < 2147480000) (dg : ∀ p, nPg S ≤ p → p < 16 → mI μ 301 p p = nI 0) :
    ∃ r S' μ' ν', B_text (nI 0) μ = some (r, μ') ∧ M_text (nI 0) ν = some (r, ν') ∧ WF S' ∧ CR S' μ' ∧ MR S' ν' ∧ sN S' 908 0 0 ≤ sN S 908 0 0 + 1 ∧ ∀ p, nPg S' ≤ p → p < 16 → mI μ' 301 p p = nI 0 := by
  have h16 := W.pg.1
  have h12 := W.th.1
  unfold B_text M_text kj
  simp only []
  rw [if_pos z00, if_pos z00, C.pg.1, R.pg.1]
  by_cases hq : nPg S < 16
  · rw [if_pos ((lt_n (by omega) (by omega)).mpr hq), if_neg (fun z => absurd ((eq_n (by omega) (by omega)).mp z) (by omega))]
    rcases page_L (q := nPg S) (p := nPg S) W.tp h12 (by omega) (by omega) C.tp R.tp C.pg.1 C.th.1 R.th.1 with ⟨j, μ2, ν2, a1, a2, a3, a4, a5, a6⟩ | ⟨m, L, lo, hi, na, A, μ2, ν2, a1, a2, a3, a4, a5, a6, a7, a8, a9, b1, b2, b3, b4⟩
    · have hj : j < 1000000 := by have := W.tp.1; omega
      have C2 := C.pgf a4
      have R2 := R.pgf W (Nat.le_refl _) a6
      refine ⟨-1, S, μ2, ν2, ?_, ?_, W, C2, R2, by omega, fun p h1 h2 => ?_⟩
      · rw [a2, bS]
        simp only []
        rw [if_pos z00, if_neg (by decide)]
      · rw [a5, bS]
        simp only []
        rw [if_neg (fun z => neg_n hj z.symm)]
      · rw [ft_v a4 (v := 301) fun r c => xpg_no (by decide)]; exact dg p h1 h2
    · have C2 := C.pgf a7
      have R2 := R.pgf W (Nat.le_refl _) b2
      obtain ⟨c02, cL, ⟨b6, c06, c06b, c06t⟩, ⟨b7, c07, c07b, c07t⟩⟩ := a8
      obtain ⟨c09, c08, c10⟩ := a9
      obtain ⟨S', hS⟩ : ∃ z, z = pgS S m L lo hi b6 b7 na A := ⟨_, rfl⟩
      have a : Ag tpV S S' := hS ▸ pgS_ag
      obtain ⟨q, hqq⟩ : ∃ q, q = nPg S := ⟨_, rfl⟩
      have kn : nPg S' = q + 1 := by rw [hS, hqq]; rfl
      have kt : nTp S' = 0 := by rw [hS]; rfl
      have k02 : ∀ p, mT S' p = if p = q then m else mT S p := fun p => by rw [hS, hqq]; simp [mT, sN, pgS]
      have k06 : ∀ p, sN S' 706 0 p = if p = q then b6 else sN S 706 0 p := fun p => by rw [hS, hqq]; simp [sN, pgS]
      have k07 : ∀ p, sN S' 707 0 p = if p = q then b7 else sN S 707 0 p := fun p => by rw [hS, hqq]; simp [sN, pgS]
      have k09 : ∀ p, sN S' 709 0 p = if p = q then na else sN S 709 0 p := fun p => by rw [hS, hqq]; simp [sN, pgS]
      have k03 : ∀ p k, sN S' 703 p k = if p = q then L k else sN S 703 p k := fun p k => by rw [hS, hqq]; simp [sN, pgS]
      have k04 : ∀ p k, sN S' 704 p k = if p = q then lo k else sN S 704 p k := fun p k => by rw [hS, hqq]; simp [sN, pgS]
      have k05 : ∀ p k, sN S' 705 p k = if p = q then hi k else sN S 705 p k := fun p k => by rw [hS, hqq]; simp [sN, pgS]
      have k08 : ∀ p k, sN S' 708 p k = if p = q then A k else sN S 708 p k := fun p k => by rw [hS, hqq]; simp [sN, pgS]
      have k10 : ∀ p k, sN S' 710 p k = if p = q then cntF A k na else sN S 710 p k := fun p k => by rw [hS, hqq]; simp [sN, pgS]
      have k11 : ∀ p, sN S' 711 0 p = sN S 711 0 p := fun p => a.n (L := [711]) (by decide) 711 (by decide) 0 p
      have kth : nTh S' = nTh S := a.n (L := [808]) (by decide) 808 (by decide) 0 0
      have h_pg : W_pg S' := by
        obtain ⟨w1, w2, w3⟩ := W.pg
        refine ⟨by omega, fun p hp => ?_, fun p hp => by rw [k11]; exact w3 p (by omega)⟩
        unfold W_p1
        by_cases e : p = q
        · have hc : ∀ b, cntA S' p b na = cntF A b na := fun b => by
            rw [cntF_A]
            exact cntF_congr fun i _ => by rw [k08, if_pos e]
          simp only [k02, k03, k04, k05, k06, k07, k08, k09, k10, k11, kth, if_pos e, hc]
          refine ⟨⟨a1, a2⟩, a5.1, a5.2, ⟨c06b, c06t⟩, ⟨c07b, c07t⟩, a3, a4, fun _ _ => trivial, ?_⟩
          rw [w3 p (by omega)]; omega
        · have hc : ∀ b n, cntA S' p b n = cntA S p b n := fun b n => cntA_ag (fun i => by rw [k08, if_neg e]) n
          simp only [k02, k03, k04, k05, k06, k07, k08, k09, k10, k11, kth, if_neg e, hc]
          exact w2 p (by omega)
      have h_ho : W_ho S' := by
        have ka := fun v hv r c => a.n (L := [903, 904, 905, 504, 1334, 1335]) (by decide) v hv r c
        have ki := fun v hv r c => a.i (L := [906, 907, 1336, 1337]) (by decide) v hv r c
        obtain ⟨w1, w2, w3, w4, w5⟩ := W.ho
        unfold W_ho nHo nLw
        simp only [ka 903 (by decide), ka 904 (by decide), ka 905 (by decide), ka 504 (by decide), ka 1334 (by decide), ka 1335 (by decide), ki 906 (by decide), ki 907 (by decide), ki 1336 (by decide), ki 1337 (by decide)]
        exact ⟨w1, w2, w3, fun k hk => ⟨by have := (w4 k hk).1; omega, (w4 k hk).2⟩, w5⟩
      have W' : WF S' := ⟨⟨by rw [kt]; omega, fun i hi => absurd hi (by omega)⟩, W.th.ag a (by decide), h_pg, W.lw.ag a (by decide) (fun _ _ => by rw [hS]; rfl), W.tr.ag a (by decide), h_ho, W.bk.ag a (by decide), W.dy.ag a (by decide)⟩
      have hL : sL S' = sL S := by rw [hS]; rfl
      -- the class
      obtain ⟨μ4, h4⟩ : ∃ z, z = mSI (mSI μ2 1001 0 0 (nI 0)) 712 0 0 (nI (q + 1)) := ⟨_, rfl⟩
      have F4 : Fr [1001, 712] μ2 μ4 := by rw [h4]; exact fr_si (by simp) (fr_si (by simp) Fr.refl)
      have e712 : mI μ4 712 0 0 = nI (q + 1) := by rw [h4]; exact iS_eq
      have c_pg : C_pg S' μ4 := by
        refine ⟨by rw [kn]; exact e712, fun p hp => ?_, fun p hp => by rw [F4.i 711 (by decide), k11]; exact C2.pg.2.2 p hp⟩
        rw [F4.i 702 (by decide), F4.i 703 (by decide), F4.i 704 (by decide), F4.i 705 (by decide), F4.i 706 (by decide), F4.i 707 (by decide), F4.i 708 (by decide), F4.i 709 (by decide), F4.i 710 (by decide)]
        by_cases e : p = q
        · simp only [k02, k03, k04, k05, k06, k07, k08, k09, k10, if_pos e]
          rw [e, hqq]
          exact ⟨c02, cL, c06, c07, c09, c08, c10⟩
        · simp only [k02, k03, k04, k05, k06, k07, k08, k09, k10, if_neg e]
          exact C2.pg.2.1 p (by omega)
      have agk : ∀ p, p ≠ q → AgK S S' p := fun p hp => ⟨by rw [k06, if_neg hp], by rw [k09, if_neg hp], fun i => by rw [k08, if_neg hp]⟩
      obtain ⟨μ5, j1, j2, j3, j4⟩ := kin_C (q := q) W' kn c_pg (fun p p' hp hp' => by rw [F4.i 301 (by decide), far_ag (agk p (by omega)) (agk p' (by omega))]; exact C2.kn.1 p p' (by omega) (by omega)) (fun p p' hp' hp => by rw [F4.i 302 (by decide), ed_ag (agk p (by omega)) (agk p' (by omega))]; exact C2.kn.2.1 p p' hp' (by omega)) (fun p hp => by rw [F4.i 303 (by decide), camI_ag fun x hx => agk x (by omega)]; exact C2.kn.2.2 p (by omega)) (by rw [F4.i 301 (by decide), ft_v a7 (v := 301) fun r c => xpg_no (by decide)]; exact dg q (by omega) (by omega))
      have FC : Fr [1001, 712, 301, 302, 303, 304] μ2 μ5 := (F4.mono (by simp)).trans (j2.mono (by simp))
      have c_ca : C_ca S' μ5 := by
        refine (C_ca.ag W C2.ca (by omega) (a.n (L := [908]) (by decide) 908 (by decide) 0 0) (by omega) (by omega) fun p hp => ?_).fr fun v hv => FC.i v (nIn_of (L := [908, 909, 910, 911, 912, 913, 914, 915, 916, 918]) (by decide) hv)
        have hne : p ≠ q := by omega
        have ka := fun v hv r c => a.n (L := [903, 905, 800, 801, 802, 807]) (by decide) v hv r c
        have ki := fun v hv r c => a.i (L := [906, 907]) (by decide) v hv r c
        exact ⟨(k02 p).trans (if_neg hne), fun k => ⟨by rw [k03, if_neg hne], by rw [k04, if_neg hne], by rw [k05, if_neg hne]⟩, by rw [k06, if_neg hne], fun i => by rw [k10, if_neg hne], ka 903 (by decide) 0 0, ka 905 (by decide) 0 p, fun l => ⟨ki 906 (by decide) p l, ki 907 (by decide) p l⟩, fun k _ => ⟨ka 800 (by decide) 0 _, ka 801 (by decide) 0 _, ka 802 (by decide) 0 _⟩, by rw [ka 807 (by decide) 0 0], fun l _ => by rw [hL]⟩
      have c_tp : C_tp S' μ5 := ⟨by rw [kt, j2.i 1001 (by decide), h4]; exact (iS_v (by decide)).trans iS_eq, fun i hi => absurd hi (by omega)⟩
      have C' : CR S' μ5 := ⟨c_tp, C2.th.mv a (by decide) FC (by decide), c_pg.fr fun v hv => j2.i v (nIn_of (L := [702, 703, 704, 705, 706, 707, 708, 709, 710, 711, 712]) (by decide) hv), C2.lw.mv a (by decide) hL FC (by decide), C2.tr.mv a (by decide) FC (by decide), C2.ho.mv a (by decide) FC (by decide), C2.bk.mv a (by decide) FC (by decide), C2.dy.mv a (by decide) FC (by decide), c_ca, j3⟩
      -- the reference
      obtain ⟨ν5, g5⟩ : ∃ z, z = mSI (mSI (mSI ν2 1321 0 q (nI 0)) 1302 0 0 (nI 0)) 1322 0 0 (nI (q + 1)) := ⟨_, rfl⟩
      have FM : Fr [1321, 1302, 1322] ν2 ν5 := by rw [g5]; exact fr_si (by simp) (fr_si (by simp) (fr_si (by simp) Fr.refl))
      have m_pg : M_pg S' ν5 := by
        refine ⟨by rw [kn, g5]; exact iS_eq, fun p hp => ?_⟩
        have e21 : mI ν5 1321 0 p = nI (sN S' 711 0 p) := by
          rw [k11, g5, iS_v (show (1321 : Nat) ≠ 1322 by decide), iS_v (show (1321 : Nat) ≠ 1302 by decide)]
          by_cases e : p = q
          · rw [e, W.pg.2.2 q (by omega)]; exact iS_eq
          · rw [iS_c e]; exact (R2.pg.2 p (by omega)).2.2.2.2
        rw [FM.i 1315 (by decide), FM.i 1316 (by decide), FM.i 1317 (by decide), FM.i 1318 (by decide), FM.i 1319 (by decide), FM.i 1320 (by decide)]
        by_cases e : p = q
        · simp only [k02, k03, k04, k05, k08, k09, if_pos e]
          refine ⟨?_, ?_, ?_, ?_, e21⟩
          · rw [e, hqq]; exact b3.1
          · rw [e, hqq]; exact b3.2
          · rw [e, hqq]; exact b4.1
          · rw [e, hqq]; exact b4.2
        · simp only [k02, k03, k04, k05, k08, k09, if_neg e]
          obtain ⟨r1, r2, r3, r4, -⟩ := R2.pg.2 p (by omega)
          exact ⟨r1, r2, r3, r4, e21⟩
      have m_tp : M_tp S' ν5 := ⟨by rw [kt, g5]; exact (iS_v (by decide)).trans iS_eq, fun i hi => absurd hi (by omega)⟩
      have R' : MR S' ν5 := ⟨m_tp, R2.th.mv a (by decide) FM (by decide), m_pg, R2.lw.mv a (by decide) hL FM (by decide), R2.tr.mv a (by decide) FM (by decide), R2.ho.mv a (by decide) FM (by decide), R2.bk.mv a (by decide) FM (by decide), R2.dy.mv a (by decide) FM (by decide)⟩
      have p712 : mI μ2 712 0 0 = nI q := by rw [hqq]; exact C2.pg.1
      have p1322 : mI ν2 1322 0 0 = nI q := by rw [hqq]; exact R2.pg.1
      refine ⟨nI q, S', μ5, ν5, ?_, ?_, W', C', R', by rw [a.n (L := [908]) (by decide) 908 (by decide) 0 0]; omega, fun p h1 h2 => ?_⟩
      · rw [a6, bS]
        simp only []
        rw [if_neg n10, bS, iS_v (show (712 : Nat) ≠ 1001 by decide), p712, add_n, ← h4, bS, e712, sub_n (by omega), Nat.add_sub_cancel, j1, bS, j2.i 712 (by decide), e712, sub_n (by omega), Nat.add_sub_cancel]
      · rw [b1, bS]
        simp only []
        rw [if_pos trivial, p1322, wr_n (by omega) (by decide), bS, bS, iS_v (show (1322 : Nat) ≠ 1302 by decide), iS_v (show (1322 : Nat) ≠ 1321 by decide), p1322, add_n, ← g5, bS, show mI ν5 1322 0 0 = nI (q + 1) by rw [g5]; exact iS_eq, sub_n (by omega), Nat.add_sub_cancel]
      · rw [j4 p (by omega), F4.i 301 (by decide), ft_v a7 (v := 301) fun r c => xpg_no (by decide)]
        exact dg p (by omega) h2
  · have e : nPg S = 16 := by omega
    rw [if_neg (fun z => hq ((lt_n (by omega) (by omega)).mp z)), if_neg (by decide), e, if_pos rfl]
    exact ⟨-1, S, μ, ν, rfl, rfl, W, C, R, by omega, dg⟩
