/-! PURE: the class lays a menu out, the whole -/
def C_mp (S : St) (d a k g : Nat) (μ : Mem) : Prop := mI μ 610 0 0 = nI k ∧ mI μ 611 0 0 = nI g ∧ ∀ i, i < k → mI μ 603 0 i = nI (mq S a i) ∧ mI μ 604 0 i = nI (mcap S d a i) ∧ ∀ t, t < 12 → mI μ 605 i t = nI (mN S d a i t)
def lcW : List Nat := [603, 604, 605, 607, 610, 611, 502, 503, 909, 910, 911, 912, 913, 914, 915, 916, 917, 918]
theorem layOut_l1C {S : St} {d a : Nat} {μ : Mem} (W : WF S) (C : CR S μ) (hd : d < nDy S) (h5 : mm S a ≤ 5) (ha : a < 65536) (e1 : mI μ 610 0 0 = nI 0) (e2 : mI μ 611 0 0 = nI 0) :
    ∃ μ', Menus_layOut_l1 (nI d) (nI a) FU (nI 0) μ = some μ' ∧ CR S μ' ∧ Fr lcW μ μ' ∧ C_mp S d a (mm S a) (mG S a) μ' := by
  have h16 := W.pg.1
  refine loopE (fun f v s => Menus_layOut_l1 (nI d) (nI a) f v s) (nPg S) (fun p s => CR S s ∧ Fr lcW μ s ∧ C_mp S d a (fl a p).length (flG S (fl a p)) s) _ ?_ ?_ (nPg S) 0 μ FU (by omega) (FU_lt (by omega)) ⟨C, Fr.refl, e1, e2, fun i h => absurd h (Nat.not_lt_zero i)⟩
  · rintro f p s hp ⟨Cs, F, L⟩
    left
    cases hb : a.testBit p with
    | false =>
      refine ⟨s, ?_, Cs, F, ?_⟩
      · show Menus_layOut_l1b (nI d) (nI a) (Menus_layOut_l1 (nI d) (nI a) f) (nI p) s = _
        unfold Menus_layOut_l1b
        rw [Cs.pg.1, if_pos ((lt_n (by omega) (by omega)).mpr hp), hbit (by omega) (by omega), hb, bS, if_pos (show nI false.toNat = 0 from rfl), bS, bS, add_n]
      · rw [fl_n hb]; exact L
    | true =>
      obtain ⟨hk, hmq⟩ := fl_at hp hb
      rw [flG_s hb, fl_s, if_pos hb, List.length_append]
      show ∃ s', _ ∧ CR S s' ∧ Fr lcW μ s' ∧ C_mp S d a ((fl a p).length + 1) _ s'
      obtain ⟨k, hkk⟩ : ∃ k, k = (fl a p).length := ⟨_, rfl⟩
      rw [← hkk] at hk hmq L ⊢
      obtain ⟨L1, L2, L3⟩ := L
      obtain ⟨s1, a1, a2, a3, a4⟩ := served_C2 W Cs hd hp
      obtain ⟨s2, b1, b2, b3, b4, b5, b6, b7, b8⟩ := setPlace_C (b := srvB S d p) (k := k) (g := flG S (fl a p)) W a2 hp (by omega) (by rw [a3.i 610 (by decide)]; exact L1) (by rw [a3.i 611 (by decide)]; exact L2) (fun z => ⟨(ct_dl (srv_ct z)).1, (ct_dl (srv_ct z)).2, a4 z⟩)
      refine ⟨s2, ?_, a2.fr b2 (by decide), F.trans ((a3.mono (by simp [lcW, layW])).trans (b2.mono (by simp [lcW, spW]))), b3, b4, fun i hi => ?_⟩
      · show Menus_layOut_l1b (nI d) (nI a) (Menus_layOut_l1 (nI d) (nI a) f) (nI p) s = _
        unfold Menus_layOut_l1b
        rw [Cs.pg.1, if_pos ((lt_n (by omega) (by omega)).mpr hp), hbit (by omega) (by omega), hb, bS, if_neg (show ¬ nI true.toNat = 0 from n10), L1, if_pos ((lt_n (by omega) (by omega)).mpr (show k < 5 by omega)), a1, bS]
        simp only []
        rw [b1, bS, bS, bS, add_n]
      · by_cases e : i = k
        · subst e
          rw [hmq]
          refine ⟨b5, ?_, fun t ht => ?_⟩
          · rw [b6]; unfold mcap; rw [hmq]
          · rw [b7 t ht]; unfold mN fptB; rw [hmq]
        · obtain ⟨c1, c2, c3⟩ := b8 i (by omega)
          obtain ⟨d1, d2, d3⟩ := L3 i (by omega)
          exact ⟨by rw [c1, a3.i 603 (by decide)]; exact d1, by rw [c2, a3.i 604 (by decide)]; exact d2, fun t ht => by rw [c3, a3.i 605 (by decide)]; exact d3 t ht⟩
  · rintro f s ⟨Cs, F, L⟩
    refine ⟨s, ?_, Cs, F, L⟩
    show Menus_layOut_l1b (nI d) (nI a) (Menus_layOut_l1 (nI d) (nI a) f) (nI (nPg S)) s = _
    unfold Menus_layOut_l1b
    rw [Cs.pg.1, if_neg (fun z => absurd ((lt_n (by omega) (by omega)).mp z) (by omega))]
theorem layOut_l2C {S : St} {d : Nat} {μ : Mem} (W : WF S) (C : CR S μ) (hd : d < nDy S) :
    ∃ μ', Menus_layOut_l2 (nI d) FU (nI 0) μ = some μ' ∧ Fr [606] μ μ' ∧ C_sp S d (fun _ => 0) μ' := by
  have h10 := W.dy.1
  refine loopE (fun f v s => Menus_layOut_l2 (nI d) f v s) 12 (fun c s => Fr [606] μ s ∧ ∀ t, t < c → mI s 606 0 t = nI (sN S 105 d t) - nI 0) _ ?_ ?_ 12 0 μ FU (by omega) (FU_lt (by omega)) ⟨Fr.refl, fun t h => absurd h (Nat.not_lt_zero t)⟩
  · rintro f t s ht ⟨F, h1⟩
    left
    have e105 : mI s 105 d t = nI (sN S 105 d t) := by rw [F.i 105 (by decide)]; exact C.dy.2.2 d t (by omega) ht
    refine ⟨mSI s 606 0 t (nI (sN S 105 d t)), ?_, fr_si (by simp) F, fun u hu => ?_⟩
    · show Menus_layOut_l2b (nI d) (Menus_layOut_l2 (nI d) f) (nI t) s = _
      unfold Menus_layOut_l2b
      rw [if_pos ((lt_n (by omega) (by omega)).mpr ht), ix_n (by omega) (by decide), bS, rd_n (by omega) (by decide), e105, bS, wr_n (by omega) (by decide), bS, bS, add_n]
    · by_cases e : u = t
      · subst e; rw [iS_eq, sub_n (Nat.zero_le _)]; rfl
      · rw [iS_c e]; exact h1 u (by omega)
  · rintro f s ⟨F, h1⟩
    refine ⟨s, ?_, F, h1⟩
    show Menus_layOut_l2b (nI d) (Menus_layOut_l2 (nI d) f) (nI 12) s = _
    unfold Menus_layOut_l2b
    rw [if_neg (by decide)]
theorem clear_C {S : St} {a : Nat} {tg : Int32} {μ : Mem} : ∃ μ', Menus_clearFound μ = some μ' ∧ Fr [609] μ μ' ∧ C_ac S a tg acc0 μ' := by
  unfold Menus_clearFound
  rw [wr_n (by decide) (by decide), bS, wr_n (by decide) (by decide), bS, wr_n (by decide) (by decide), bS, wr_n (by decide) (by decide), bS, wr_n (by decide) (by decide), bS, wr_n (by decide) (by decide), bS, wr_n (by decide) (by decide), bS, wr_n (by decide) (by decide), bS]
  refine ⟨_, rfl, fr_si (by simp) (fr_si (by simp) (fr_si (by simp) (fr_si (by simp) (fr_si (by simp) (fr_si (by simp) (fr_si (by simp) (fr_si (by simp) Fr.refl))))))), ?_, ?_, ?_, ?_, ?_, fun h => absurd h (Nat.lt_irrefl 0), fun j hj => absurd hj (Nat.not_lt_zero j), fun _ => rfl, fun _ => ?_⟩
  · exact (iS_c (by decide)).trans ((iS_c (by decide)).trans ((iS_c (by decide)).trans ((iS_c (by decide)).trans ((iS_c (by decide)).trans ((iS_c (by decide)).trans ((iS_c (by decide)).trans iS_eq))))))
  · exact (iS_c (by decide)).trans ((iS_c (by decide)).trans ((iS_c (by decide)).trans ((iS_c (by decide)).trans ((iS_c (by decide)).trans ((iS_c (by decide)).trans iS_eq)))))
  · exact (iS_c (by decide)).trans ((iS_c (by decide)).trans ((iS_c (by decide)).trans ((iS_c (by decide)).trans ((iS_c (by decide)).trans iS_eq))))
  · exact (iS_c (by decide)).trans ((iS_c (by decide)).trans ((iS_c (by decide)).trans ((iS_c (by decide)).trans iS_eq)))
  · exact (iS_c (by decide)).trans ((iS_c (by decide)).trans ((iS_c (by decide)).trans iS_eq))
  · exact (iS_c (by decide)).trans ((iS_c (by decide)).trans iS_eq)
theorem mm_pos {S : St} {a : Nat} (h0 : 0 < a) (h : a < 2 ^ nPg S) : 0 < mm S a := by
  obtain ⟨i, hi⟩ := Nat.exists_testBit_of_ne_zero (x := a) (by omega)
  have : i < nPg S := by
    refine Classical.byContradiction fun z => ?_
    rw [Nat.testBit_lt_two_pow (Nat.lt_of_lt_of_le h (Nat.pow_le_pow_right (by decide) (by omega)))] at hi
    exact nomatch hi
  have := (fl_at (S := S) this hi).1
  omega
theorem layOut_C {S : St} {x y : Int32} {d a K : Nat} {tg : Int32} {μ : Mem} (W : WF S) (C : CR S μ) (h : Asked S x y d a) (hK : K ≤ 99) :
    ∃ μ', Menus_layOut x y (nI K) tg μ = some μ' ∧ CR S μ' ∧ C_mn S d a K tg μ' ∧ C_ac S a tg (findS S d a K tg) μ' ∧ AcOk (findS S d a K tg) := by
  obtain ⟨hd, rfl, rfl, h0, h1, hpc⟩ := h
  have h5 : mm S a ≤ 5 := by rw [mm_pc W h1]; exact hpc
  have hmp := mm_pos h0 h1
  have ha := ask_lt W h1
  obtain ⟨s1, hs1⟩ : ∃ s, s = mSI μ 610 0 0 (nI 0) := ⟨_, rfl⟩
  obtain ⟨q1, p1⟩ := st_rd hs1
  obtain ⟨s2, hs2⟩ : ∃ s, s = mSI s1 611 0 0 (nI 0) := ⟨_, rfl⟩
  obtain ⟨q2, p2⟩ := st_rd hs2
  obtain ⟨s3, hs3⟩ : ∃ s, s = mSI s2 612 0 0 (nI K) := ⟨_, rfl⟩
  obtain ⟨q3, p3⟩ := st_rd hs3
  obtain ⟨s4, hs4⟩ : ∃ s, s = mSI s3 613 0 0 tg := ⟨_, rfl⟩
  obtain ⟨q4, p4⟩ := st_rd hs4
  have F4 : Fr [610, 611, 612, 613] μ s4 := by rw [hs4, hs3, hs2, hs1]; exact fr_si (by simp) (fr_si (by simp) (fr_si (by simp) (fr_si (by simp) Fr.refl)))
  obtain ⟨s5, a1, a2, a3, a4⟩ := layOut_l1C (a := a) (μ := s4) W (C.fr F4 (by decide)) hd h5 ha (by rw [q4 610 0 0 (by decide), q3 610 0 0 (by decide), q2 610 0 0 (by decide), p1]) (by rw [q4 611 0 0 (by decide), q3 611 0 0 (by decide), p2])
  obtain ⟨s6, b1, b2, b3⟩ := layOut_l2C W a2 hd
  obtain ⟨s7, c1, c2, c3⟩ := clear_C (S := S) (a := a) (tg := tg) (μ := s6)
  have F57 : Fr [606, 609] s5 s7 := (b2.mono (by simp)).trans (c2.mono (by simp))
  have C7 : CR S s7 := a2.fr F57 (by decide)
  have L7 : C_mn S d a K tg s7 := by
    refine ⟨?_, ?_, ?_, ?_, fun i hi => ⟨?_, ?_, fun t ht => ?_⟩⟩
    · rw [F57.i 610 (by decide)]; exact a4.1
    · rw [F57.i 611 (by decide)]; exact a4.2.1
    · rw [F57.i 612 (by decide), a3.i 612 (by decide), q4 612 0 0 (by decide), p3]
    · rw [F57.i 613 (by decide), a3.i 613 (by decide), p4]
    · rw [F57.i 603 (by decide)]; exact (a4.2.2 i hi).1
    · rw [F57.i 604 (by decide)]; exact (a4.2.2 i hi).2.1
    · rw [F57.i 605 (by decide)]; exact (a4.2.2 i hi).2.2 t ht
  have hp : 10 ^ mm S a ≤ 10 ^ 5 := Nat.pow_le_pow_right (by decide) h5
  have h5' : (10 : Nat) ^ 5 = 100000 := by decide
  obtain ⟨m, hm⟩ : ∃ m, mm S a = m + 1 := ⟨mm S a - 1, by omega⟩
  obtain ⟨s8, d1, d2, d3, d4, d5, d6, d7⟩ := choose_C (K := K) (tg := tg) W hd h5 hK m 0 RF (fun _ => 0) acc0 s7 (by omega) (show m < 60 by omega) L7 (fun t ht => by rw [c2.i 606 (by decide)]; exact b3 t ht) (fun t _ => Nat.zero_le _) (fun i h => absurd h (Nat.not_lt_zero i)) c3 (by unfold AcOk acc0; decide) (by rw [← hm]; show 0 + _ ≤ _; omega)
  rw [← hm] at d5 d6
  refine ⟨s8, ?_, C7.fr d2 (by decide), L7.W d2 (by decide), d5, d6⟩
  unfold Menus_layOut
  rw [← hs1, bS, ← hs2, bS, ← hs3, bS, ← hs4, bS, a1, bS, b1, bS, c1, bS]
  show (G_Menus_choose RF (nI 0) s7).bind _ = _
  rw [d1, bS]
