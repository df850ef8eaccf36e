/-! PURE: the reference lays a menu out -/
theorem pos_arg (x : Int32) : ¬ 0 < x ∨ ∃ a, 0 < a ∧ a < 2147483648 ∧ x = nI a := by
  by_cases h : 0 < x
  · right
    have h1 := Int32.lt_iff_toInt_lt.mp h
    have e4 : (0 : Int32).toInt = 0 := by decide
    rw [e4] at h1
    have h2 := Int32.toInt_lt x
    refine ⟨x.toInt.toNat, by omega, by omega, ?_⟩
    apply Int32.toInt_inj.mp
    rw [nI_toInt (by omega)]
    omega
  · exact Or.inl h
def Asked (S : St) (x y : Int32) (d a : Nat) : Prop := d < nDy S ∧ x = nI d ∧ y = nI a ∧ 0 < a ∧ a < 2 ^ nPg S ∧ pcN a ≤ 5
def R_mp (S : St) (d a k g : Nat) (ν : Mem) : Prop := mI ν 1364 0 0 = nI k ∧ mI ν 1365 0 0 = nI g ∧ ∀ i, i < k → mI ν 1359 0 i = nI (mq S a i) ∧ mI ν 1360 0 i = nI (srvB S d (mq S a i)).toNat ∧ ∀ t, t < 12 → mI ν 1361 0 (12 * i + t) = nI (mN S d a i t)
def lmW : List Nat := [1359, 1360, 1361, 1364, 1365, 1332, 1333, 1340, 1341, 1342, 1343]
theorem layStep_M {S : St} {d a p g : Nat} {s : Mem} (W : WF S) (R : MR S s) (hd : d < nDy S) (hp : p < nPg S) (hb : a.testBit p = true) (h5 : mm S a ≤ 5) (hg : g < 4096) (L : R_mp S d a (fl a p).length g s) (x2' : Int32) :
    ∃ s', ((some (mI s 1364 0 0)).bind fun x2 => (mWr s 1359 0 5 x2 (nI p)).bind fun μ3 => (M_mayBe (nI d) (nI p) μ3).bind fun (x4, μ5) => (mWz μ5 1360 0 5 x2 x4).bind fun μ6 => (M_thingsOf (nI p) μ6).bind fun x7 => (some (mSI μ6 1365 0 0 ((mI μ6 1365 0 0) ||| x7))).bind fun μ8 => (M_layMenu_l2 (nI d) x2' (nI p) x2 FU (nI 0) μ8).bind fun μ9 => (mRd μ9 1360 0 5 x2).bind fun x10 => (if x10 = 0 then some μ9 else (mRd μ9 1341 0 5000 (nI 0)).bind fun x11 => (M_lay (nI p) x11 μ9).bind fun μ12 => (M_layMenu_l3 (nI d) x2' (nI p) x2 FU (nI 0) μ12).bind fun μ13 => some μ13).bind fun μ14 => (some (mSI μ14 1364 0 0 ((mI μ14 1364 0 0) + (nI 1)))).bind fun μ15 => some μ15) = some s' ∧ MR S s' ∧ Fr lmW s s' ∧ R_mp S d a ((fl a p).length + 1) (g ||| sN S 706 0 p) s' := by
  have h16 := W.pg.1
  obtain ⟨hk, hmq⟩ := fl_at hp hb
  obtain ⟨k, hkk⟩ : ∃ k, k = (fl a p).length := ⟨_, rfl⟩
  rw [← hkk] at hk hmq L ⊢
  have w706 := (W.pg.2.1 p hp).2.2.2.1.1
  obtain ⟨L1, L2, L3⟩ := L
  rw [L1, bS, wr_n (by omega) (by decide), bS]
  obtain ⟨s1, hs1⟩ : ∃ s1, s1 = mSI s 1359 0 k (nI p) := ⟨_, rfl⟩
  rw [← hs1]
  have F1 : Fr lmW s s1 := by rw [hs1]; exact fr_si (by simp [lmW]) Fr.refl
  have R1 := R.fr F1 (by decide)
  obtain ⟨s2, a1, a2, a3, a4⟩ := served_M2 (ν := s1) W R1 hd hp
  have F2 : Fr lmW s s2 := F1.trans (a3.mono (by simp [lmW, fndW]))
  have hz : nI (srvB S d p).toNat = 0 ∨ nI (srvB S d p).toNat = 1 := by cases srvB S d p <;> simp [z00] <;> decide
  rw [a1, bS]
  simp only []
  rw [wz_n (by omega) (by decide) hz, bS]
  obtain ⟨s3, hs3⟩ : ∃ s3, s3 = mSI s2 1360 0 k (nI (srvB S d p).toNat) := ⟨_, rfl⟩
  rw [← hs3]
  have F23 : Fr [1360] s2 s3 := by rw [hs3]; exact fr_si (by simp) Fr.refl
  have R3 := a2.fr F23 (by decide)
  have F3 : Fr lmW s s3 := F2.trans (F23.mono (by simp [lmW]))
  have e65 : mI s3 1365 0 0 = nI g := by rw [F23.i 1365 (by decide), a3.i 1365 (by decide), hs1]; exact (iS_v (by decide)).trans L2
  rw [things_M W R3.pg hp, bS, e65, or_n, bS]
  obtain ⟨s4, hs4⟩ : ∃ s4, s4 = mSI s3 1365 0 0 (nI (g ||| sN S 706 0 p)) := ⟨_, rfl⟩
  rw [← hs4]
  have F34 : Fr [1365] s3 s4 := by rw [hs4]; exact fr_si (by simp) Fr.refl
  have R4 := R3.fr F34 (by decide)
  obtain ⟨s5, b1, b2, b3, b4⟩ := lm2_M (x1 := nI d) (x2 := x2') (x3 := nI p) (k := k) (ν := s4) (by omega)
  have R5 := R4.fr b2 (by decide)
  have F25 : Fr [1360, 1361, 1365] s2 s5 := (F23.mono (by simp)).trans ((F34.mono (by simp)).trans (b2.mono (by simp)))
  have e60 : mI s5 1360 0 k = nI (srvB S d p).toNat := by rw [b2.i 1360 (by decide), F34.i 1360 (by decide), hs3]; exact iS_eq
  rw [b1, bS, rd_n (by omega) (by decide), e60, bS]
  have mid : ∃ s6, (if nI (srvB S d p).toNat = 0 then some s5 else (mRd s5 1341 0 5000 (nI 0)).bind fun x11 => (M_lay (nI p) x11 s5).bind fun μ12 => (M_layMenu_l3 (nI d) x2' (nI p) (nI k) FU (nI 0) μ12).bind fun μ13 => some μ13) = some s6 ∧ MR S s6 ∧ Fr [1340, 1361] s5 s6 ∧ (∀ t, t < 12 → mI s6 1361 0 (12 * k + t) = nI (mN S d a k t)) ∧ ∀ c, c < 12 * k → mI s6 1361 0 c = mI s5 1361 0 c := by
    unfold mN
    rw [hmq]
    cases hs : srvB S d p with
    | false =>
      rw [if_pos (show nI false.toNat = 0 from rfl)]
      exact ⟨s5, rfl, R5, Fr.refl, fun t ht => by rw [if_neg (fun z => nomatch z)]; exact b3 t ht, fun _ _ => rfl⟩
    | true =>
      obtain ⟨ct1, ct2⟩ := ct_dl (srv_ct hs)
      have hF := a4 hs
      have hF5 : Fnd S p s5 := ⟨by rw [F25.i 1342 (by decide)]; exact hF.1, by rw [F25.i 1341 (by decide)]; exact hF.2⟩
      obtain ⟨c0, s6, c1, c2, c3, c4, c5⟩ := layi_M W R5 hp ct1 hF5 ct2
      obtain ⟨s7, d1, d2, d3, d4⟩ := lm3_M (x1 := nI d) (x2 := x2') (k := k) W c2 hp (by omega) c4 (fun t ht => by rw [c5.i 1361 (by decide)]; exact b3 t ht)
      rw [if_neg (show ¬ nI true.toNat = 0 from n10), c0, bS, c1, bS, d1, bS]
      exact ⟨s7, rfl, c2.fr d2 (by decide), (c5.mono (by simp)).trans (d2.mono (by simp)), fun t ht => by rw [if_pos rfl]; exact d3 t ht, fun c hc => by rw [d4 c hc, c5.i 1361 (by decide)]⟩
  obtain ⟨s6, m1, m2, m3, m4, m5⟩ := mid
  have e64 : mI s6 1364 0 0 = nI k := by rw [m3.i 1364 (by decide), F25.i 1364 (by decide), a3.i 1364 (by decide), hs1]; exact (iS_v (by decide)).trans L1
  rw [m1, bS, e64, add_n, bS]
  have F26 : Fr [1340, 1360, 1361, 1365] s2 s6 := (F25.mono (by simp)).trans (m3.mono (by simp))
  have F7 : Fr [1364] s6 (mSI s6 1364 0 0 (nI (k + 1))) := fr_si (by simp) Fr.refl
  refine ⟨_, rfl, m2.fr F7 (by decide), F2.trans ((F26.mono (by simp [lmW])).trans (F7.mono (by simp [lmW]))), iS_eq, ?_, fun i hi => ⟨?_, ?_, fun t ht => ?_⟩⟩
  · rw [F7.i 1365 (by decide), m3.i 1365 (by decide), b2.i 1365 (by decide), hs4]; exact iS_eq
  · rw [F7.i 1359 (by decide), F26.i 1359 (by decide), a3.i 1359 (by decide), hs1]
    by_cases e : i = k
    · subst e; rw [hmq]; exact iS_eq
    · exact (iS_c e).trans (L3 i (by omega)).1
  · rw [F7.i 1360 (by decide), m3.i 1360 (by decide), b2.i 1360 (by decide), F34.i 1360 (by decide), hs3]
    by_cases e : i = k
    · subst e; rw [hmq]; exact iS_eq
    · refine (iS_c e).trans ?_
      rw [a3.i 1360 (by decide), hs1]
      exact (iS_v (by decide)).trans (L3 i (by omega)).2.1
  · rw [F7.i 1361 (by decide)]
    by_cases e : i = k
    · subst e; exact m4 t ht
    · rw [m5 _ (by omega), b4 _ (by omega), F34.i 1361 (by decide), F23.i 1361 (by decide), a3.i 1361 (by decide), hs1]
      exact (iS_v (by decide)).trans ((L3 i (by omega)).2.2 t ht)
theorem layMenu_l1M {S : St} {d a : Nat} {ν : Mem} (W : WF S) (R : MR S ν) (hd : d < nDy S) (h5 : mm S a ≤ 5) (ha : a < 65536) (e1 : mI ν 1364 0 0 = nI 0) (e2 : mI ν 1365 0 0 = nI 0) :
    ∃ ν', M_layMenu_l1 (nI d) (nI a) FU (nI 0) ν = some ν' ∧ MR S ν' ∧ Fr lmW ν ν' ∧ R_mn S d a ν' := by
  have h16 := W.pg.1
  refine loopE (fun f v s => M_layMenu_l1 (nI d) (nI a) f v s) (nPg S) (fun p s => MR S s ∧ Fr lmW ν s ∧ R_mp S d a (fl a p).length (flG S (fl a p)) s) _ ?_ ?_ (nPg S) 0 ν FU (by omega) (FU_lt (by omega)) ⟨R, Fr.refl, e1, e2, fun i h => absurd h (Nat.not_lt_zero i)⟩
  · rintro f p s hp ⟨Rs, F, L⟩
    left
    cases hb : a.testBit p with
    | false =>
      refine ⟨s, ?_, Rs, F, ?_⟩
      · show M_layMenu_l1b (nI d) (nI a) (M_layMenu_l1 (nI d) (nI a) f) (nI p) s = _
        unfold M_layMenu_l1b
        rw [Rs.pg.1, if_pos ((lt_n (by omega) (by omega)).mpr hp), mhas (by omega) (by omega), hb, bS, if_pos (show nI false.toNat = 0 from rfl), bS, bS, add_n]
      · rw [fl_n hb]; exact L
    | true =>
      obtain ⟨s', g1, g2, g3, g4⟩ := layStep_M W Rs hd hp hb h5 (flG_lt W (by omega)) L (nI a)
      refine ⟨s', ?_, g2, F.trans g3, ?_⟩
      · show M_layMenu_l1b (nI d) (nI a) (M_layMenu_l1 (nI d) (nI a) f) (nI p) s = _
        unfold M_layMenu_l1b
        rw [Rs.pg.1, if_pos ((lt_n (by omega) (by omega)).mpr hp), mhas (by omega) (by omega), hb, bS, if_neg (show ¬ nI true.toNat = 0 from n10), g1, bS, bS, add_n]
      · rw [flG_s hb, fl_s, if_pos hb, List.length_append]; exact g4
  · rintro f s ⟨Rs, F, L⟩
    refine ⟨s, ?_, Rs, F, L⟩
    show M_layMenu_l1b (nI d) (nI a) (M_layMenu_l1 (nI d) (nI a) f) (nI (nPg S)) s = _
    unfold M_layMenu_l1b
    rw [Rs.pg.1, if_neg (fun z => absurd ((lt_n (by omega) (by omega)).mp z) (by omega))]
theorem ask_lt {S : St} {a : Nat} (W : WF S) (h : a < 2 ^ nPg S) : a < 65536 :=
  Nat.lt_of_lt_of_le h (Nat.pow_le_pow_right (n := 2) (by decide) W.pg.1)
theorem layMenu_yes {S : St} {x y : Int32} {d a : Nat} {ν : Mem} (W : WF S) (R : MR S ν) (h : Asked S x y d a) :
    ∃ ν', M_layMenu x y ν = some (nI 1, ν') ∧ MR S ν' ∧ Fr lmW ν ν' ∧ R_mn S d a ν' := by
  obtain ⟨hd, rfl, rfl, h0, h1, hp⟩ := h
  have h16 := W.pg.1
  have ha := ask_lt W h1
  have hmm : mm S a ≤ 5 := by rw [mm_pc W h1]; exact hp
  have hpc := (pc_eq a).2
  have F : Fr lmW ν (mSI (mSI ν 1364 0 0 (nI 0)) 1365 0 0 (nI 0)) := fr_si (by simp [lmW]) (fr_si (by simp [lmW]) Fr.refl)
  obtain ⟨ν1, a1, a2, a3, a4⟩ := layMenu_l1M (ν := mSI (mSI ν 1364 0 0 (nI 0)) 1365 0 0 (nI 0)) W (R.fr F (by decide)) hd hmm ha ((iS_v (by decide)).trans iS_eq) iS_eq
  refine ⟨ν1, ?_, a2, F.trans a3, a4⟩
  unfold M_layMenu
  rw [isD1 W R hd, bS, if_neg n10, if_pos ((gt0_n (by omega)).mpr h0), R.pg.1, shr_n (by omega) (by omega), Nat.div_eq_of_lt h1, if_pos z00, bits_M, bS, if_neg (fun z => absurd ((lt_n (by omega) (by omega)).mp z) (by omega)), bS, bS, a1, bS, rz_1, bS]
theorem layMenu_no {S : St} {x y : Int32} {ν : Mem} (W : WF S) (R : MR S ν) (h : ¬ ∃ d a, Asked S x y d a) : M_layMenu x y ν = some (nI 0, ν) := by
  have h16 := W.pg.1
  unfold M_layMenu
  rcases dy_arg W x with hx | ⟨d, hd, rfl⟩
  · rw [isD0 W R hx, bS, if_pos z00, rz_0, bS]
  rw [isD1 W R hd, bS, if_neg n10]
  rcases pos_arg y with hy | ⟨a, a0, a1, rfl⟩
  · rw [if_neg hy, rz_0, bS]
  rw [if_pos ((gt0_n (by omega)).mpr a0), R.pg.1, shr_n (by omega) (by omega)]
  have hdl : a / 2 ^ nPg S < 2147483648 := Nat.lt_of_le_of_lt (Nat.div_le_self _ _) a1
  by_cases h1 : a < 2 ^ nPg S
  · have hpc := (pc_eq a).2
    have hp : ¬ pcN a ≤ 5 := fun hp => h ⟨d, a, hd, rfl, rfl, a0, h1, hp⟩
    rw [Nat.div_eq_of_lt h1, if_pos z00, bits_M, bS, if_pos ((lt_n (by omega) (by omega)).mpr (by omega)), rz_0, bS]
  · rw [if_neg (fun z => ?_), rz_0, bS]
    have := (eq0_n hdl).mp z
    rcases Nat.div_eq_zero_iff.mp this with h2 | h2
    · have := Nat.two_pow_pos (nPg S); omega
    · exact h1 h2
