/-! PURE: the parts of a thing on a page that is read -/
def XP (q m v r c : Nat) : Prop := v = 1002 ∨ v = 1003 ∨ ((v = 704 ∨ v = 705) ∧ r = q ∧ c = m)
def XPM (x v r c : Nat) : Prop := v = 1303 ∨ v = 1304 ∨ ((v = 1317 ∨ v = 1318) ∧ r = 0 ∧ c = x)
def prtsM (x11 : Int32) (μ16 : Mem) : Option Mem :=
  (M_number (nI 1) μ16).bind fun (x18, μ19) => (mWr μ19 1317 0 136 x11 x18).bind fun μ20 => (mRd μ20 1317 0 136 x11).bind fun x21 => (mWr μ20 1318 0 136 x11 x21).bind fun μ22 => if (mI μ22 1304 0 0) = (-1) then ((M_look μ22).bind fun (x23, μ24) => if x23 = (nI 45) then ((some (mSI μ24 1303 0 0 ((mI μ24 1303 0 0) + (nI 1)))).bind fun μ25 => (mRd μ25 1317 0 136 x11).bind fun x26 => (M_number x26 μ25).bind fun (x27, μ28) => (mWr μ28 1318 0 136 x11 x27).bind fun μ29 => some μ29) else some μ24) else some μ22
theorem xp_C {q m : Nat} {W : List Nat} {a b : Mem} (h : Fr W a b) (hW : (W.all fun v => v == 1002 || v == 1003) = true) : Ft (XP q m) a b := Ft.of h fun v hv r c => by
  have := List.all_eq_true.mp hW v hv
  simp at this
  rcases this with e | e
  · exact Or.inl e
  · exact Or.inr (Or.inl e)
theorem xp_M {x : Nat} {W : List Nat} {a b : Mem} (h : Fr W a b) (hW : (W.all fun v => v == 1303 || v == 1304) = true) : Ft (XPM x) a b := Ft.of h fun v hv r c => by
  have := List.all_eq_true.mp hW v hv
  simp at this
  rcases this with e | e
  · exact Or.inl e
  · exact Or.inr (Or.inl e)
theorem K_M.wr {S : St} {i v c : Nat} {x : Int32} {ν : Mem} (K : K_M S i ν) (h : v ≠ 1301 ∧ v ≠ 1302 ∧ v ≠ 1303 ∧ v ≠ 1304) : K_M S i (mSI ν v 0 c x) :=
  ⟨⟨(iS_v (fun z => h.2.1 z.symm)).trans K.1.1, fun k hk => (iS_v (fun z => h.1 z.symm)).trans (K.1.2 k hk)⟩, (iS_v (fun z => h.2.2.1 z.symm)).trans K.2.1, (iS_v (fun z => h.2.2.2 z.symm)).trans K.2.2⟩
theorem parts_L {S : St} {i d m q x : Nat} {μ ν : Mem} (W : W_tp S) (KC : K_C S i μ) (KM : K_M S i ν) (hi : i ≤ nTp S) (hs : skp S i = i) (hd : dgN S i = some d) (hq : q ≤ 16) (hm : m < 8) (hx : x < 136) (e12 : mI μ 712 0 0 = nI q) :
    (∃ j μ' ν', j ≤ nTp S ∧ Pages_readsParts (nI m) μ = some (nI 0, μ') ∧ mI μ' 1003 0 0 = nI j ∧ Ft (XP q m) μ μ' ∧ prtsM (nI x) ν = some ν' ∧ mI ν' 1304 0 0 = nI j ∧ Ft (XPM x) ν ν') ∨
    ∃ l h i' μ' ν', 1 ≤ l ∧ l ≤ h ∧ h ≤ 99 ∧ i' ≤ nTp S ∧ Pages_readsParts (nI m) μ = some (nI 1, μ') ∧ K_C S i' μ' ∧ mI μ' 704 q m = nI l ∧ mI μ' 705 q m = nI h ∧ Ft (XP q m) μ μ' ∧ prtsM (nI x) ν = some ν' ∧ K_M S i' ν' ∧ mI ν' 1317 0 x = nI l ∧ mI ν' 1318 0 x = nI h ∧ Ft (XPM x) ν ν' := by
  have hn := W.1
  obtain ⟨c1, c2⟩ := (num_C W KC hi (k := 2) (by omega) (by omega)).2 d (by rw [hs]; exact hd)
  obtain ⟨m1, m2⟩ := (num_M W KM hi (a := 1) (by omega)).2 d (by rw [hs]; exact hd)
  rw [hs] at c1 c2 m1 m2
  have hr := rdv_le (S := S) (k := 2) (s := i) (v := 0) hi
  have hr1 := rdv_s (k := 2) (v := 0) hi hd (by omega)
  obtain ⟨r, hr'⟩ : ∃ r, r = rdv S 2 i 0 := ⟨_, rfl⟩
  rw [← hr'] at c1 c2 m1 m2 hr hr1
  obtain ⟨l, i1⟩ := r
  simp only at c1 c2 m1 m2 hr hr1
  have h100 : (10 : Nat) ^ 2 = 100 := by decide
  have hl : l ≤ 99 := by omega
  -- what the reference does once the first number is read
  have refA : ∀ y ν1 j, M_number (nI 1) ν = some (y, ν1) → mI ν1 1304 0 0 = nI j → j ≤ nTp S → Fr [1303, 1304] ν ν1 → ∃ ν', prtsM (nI x) ν = some ν' ∧ mI ν' 1304 0 0 = nI j ∧ Ft (XPM x) ν ν' := by
    intro y ν1 j h1 h2 hj F
    have e4 : mI (mSI (mSI ν1 1317 0 x y) 1318 0 x y) 1304 0 0 = nI j := (iS_v (by decide)).trans ((iS_v (by decide)).trans h2)
    refine ⟨_, ?_, e4, ((xp_M F (by decide)).si (Or.inr (Or.inr ⟨Or.inl rfl, rfl, rfl⟩))).si (Or.inr (Or.inr ⟨Or.inr rfl, rfl, rfl⟩))⟩
    unfold prtsM
    rw [h1, bS]
    simp only []
    rw [wr_n hx (by decide), bS, rd_n hx (by decide), bS, iS_eq, wr_n hx (by decide), bS, e4, if_neg (fun z => neg_n (by omega) z.symm)]
  cases he : dgN S i1 with
  | some e =>
    left
    obtain ⟨μ1, a1, a2, a3⟩ := c1 e he
    obtain ⟨y, ν1, b1, b2, b3⟩ := m1 e he
    obtain ⟨ν2, d1, d2, d3⟩ := refA y ν1 i1 b1 b2 hr.2.1 b3
    refine ⟨i1, μ1, ν2, hr.2.1, ?_, a2, xp_C a3 (by decide), d1, d2, d3⟩
    unfold Pages_readsParts
    rw [a1, bS]
    simp only []
    rw [if_pos trivial, rz_0, bS]
  | none =>
    obtain ⟨μ1, a1, a2, a3⟩ := c2 he
    obtain ⟨m3, m4⟩ := m2 he
    by_cases h0 : l = 0
    · left
      subst h0
      obtain ⟨y, ν1, b1, b2, b3⟩ := m3 (by omega)
      obtain ⟨ν2, d1, d2, d3⟩ := refA y ν1 (i1 - 1) b1 b2 (by omega) b3
      obtain ⟨μ2, g1, g2, g3⟩ := wrongB_C (i := i1 - 1) (by rw [show i1 - 1 + 1 = i1 by omega]; exact a2)
      refine ⟨i1 - 1, μ2, ν2, by omega, ?_, g2, (xp_C a3 (by decide)).trans (xp_C g3 (by decide)), d1, d2, d3⟩
      unfold Pages_readsParts
      rw [a1, bS]
      simp only []
      rw [if_neg (fun z => neg_n (by omega) z.symm), if_pos z00, g1, bS]
      simp only []
      rw [rz_0, bS]
    · obtain ⟨ν1, b1, b2, b3⟩ := m4 (by omega)
      obtain ⟨μ2, t1, t2, t3⟩ := takes_C (c := 45) W a2 hr.2.1 (by decide)
      -- class: both ends known
      have fin : ∀ h i' μ3, h ≤ 99 → K_C S i' μ3 → Ft (XP q m) μ μ3 → ∃ μ', ((mIx (mI μ3 712 0 0) 17).bind fun r12 => (mWr μ3 704 r12 8 (nI m) (nI l)).bind fun μ13 => (mIx (mI μ13 712 0 0) 17).bind fun r14 => (mWr μ13 705 r14 8 (nI m) (nI h)).bind fun μ15 => (mRz (nI 1)).bind fun z => some (z, μ15)) = some (nI 1, μ') ∧ K_C S i' μ' ∧ mI μ' 704 q m = nI l ∧ mI μ' 705 q m = nI h ∧ Ft (XP q m) μ μ' := by
        intro h i' μ3 hh K3 F3
        have e712 : mI μ3 712 0 0 = nI q := (F3 712 0 0 (by simp [XP])).trans e12
        have F4 : Ft (fun v r c => (v = 704 ∨ v = 705) ∧ r = q ∧ c = m) μ3 (mSI (mSI μ3 704 q m (nI l)) 705 q m (nI h)) := (Ft.refl.si ⟨Or.inl rfl, rfl, rfl⟩).si ⟨Or.inr rfl, rfl, rfl⟩
        refine ⟨_, ?_, K3.ft F4 (fun r c => by simp), (iS_v (by decide)).trans iS_eq, iS_eq, F3.trans (F4.mono fun v r c z => Or.inr (Or.inr z))⟩
        rw [e712, ix_n (by omega) (by decide), bS, wr_n (by omega) (by decide), bS, iS_v (show (712 : Nat) ≠ 704 by decide), e712, ix_n (by omega) (by decide), bS, wr_n (by omega) (by decide), bS, rz_1, bS]
      -- reference: one number written twice, then a look
      have KM3 : K_M S i1 (mSI (mSI ν1 1317 0 x (nI l)) 1318 0 x (nI l)) := (b2.wr (by decide)).wr (by decide)
      have F3 : Ft (XPM x) ν (mSI (mSI ν1 1317 0 x (nI l)) 1318 0 x (nI l)) := ((xp_M b3 (by decide)).si (Or.inr (Or.inr ⟨Or.inl rfl, rfl, rfl⟩))).si (Or.inr (Or.inr ⟨Or.inr rfl, rfl, rfl⟩))
      obtain ⟨ν4, g1, g2, g3⟩ := look_M W KM3 hr.2.1
      have w17 : mI ν4 1317 0 x = nI l := by rw [g3.i 1317 (by decide)]; exact (iS_v (by decide)).trans iS_eq
      have w18 : mI ν4 1318 0 x = nI l := by rw [g3.i 1318 (by decide)]; exact iS_eq
      have F4 : Ft (XPM x) ν ν4 := F3.trans (xp_M g3 (by decide))
      have ref : prtsM (nI x) ν = if lkI S i1 = nI 45 then ((some (mSI ν4 1303 0 0 ((mI ν4 1303 0 0) + (nI 1)))).bind fun μ25 => (mRd μ25 1317 0 136 (nI x)).bind fun x26 => (M_number x26 μ25).bind fun (x27, μ28) => (mWr μ28 1318 0 136 (nI x) x27).bind fun μ29 => some μ29) else some ν4 := by
        unfold prtsM
        rw [b1, bS]
        simp only []
        rw [wr_n hx (by decide), bS, rd_n hx (by decide), bS, iS_eq, wr_n hx (by decide), bS, KM3.2.2, if_pos rfl, g1, bS]
      have cls : Pages_readsParts (nI m) μ = kj (fun (x9 : Int32) (μ10 : Mem) => (mIx (mI μ10 712 0 0) 17).bind fun r12 => (mWr μ10 704 r12 8 (nI m) (nI l)).bind fun μ13 => (mIx (mI μ13 712 0 0) 17).bind fun r14 => (mWr μ13 705 r14 8 (nI m) x9).bind fun μ15 => (mRz (nI 1)).bind fun z => some (z, μ15)) (fun k11 => if (if lkI S i1 = nI 45 then nI 1 else nI 0) = 0 then k11 (nI l) μ2 else (Tape_readNumber (nI 2) μ2).bind fun (x5, μ6) => if x5 = (-1) then (mRz (nI 0)).bind fun z => some (z, μ6) else if x5 < (nI l) then ((Tape_wrongBefore μ6).bind fun (x7, μ8) => (mRz x7).bind fun z => some (z, μ8)) else k11 x5 μ6) := by
        unfold Pages_readsParts
        rw [a1, bS]
        simp only []
        rw [if_neg (fun z => neg_n (by omega) z.symm), if_neg (fun z => h0 ((eq0_n (by omega)).mp z)), t1, bS]
      have FC2 : Ft (XP q m) μ μ2 := (xp_C a3 (by decide)).trans (xp_C t3 (by decide))
      by_cases h45 : lkI S i1 = nI 45
      · have hsk := lk_in (by decide) h45
        rw [if_pos h45] at t2
        rw [if_pos h45] at ref
        rw [if_pos h45] at cls
        have KM5 : K_M S (skp S i1 + 1) (mSI ν4 1303 0 0 (nI (skp S i1 + 1))) := g2.at
        have F5 : Ft (XPM x) ν (mSI ν4 1303 0 0 (nI (skp S i1 + 1))) := F4.si (Or.inl rfl)
        have hi2 : skp S i1 + 1 ≤ nTp S := by omega
        rw [g2.2.1, add_n, bS, rd_n hx (by decide), iS_v (show (1317 : Nat) ≠ 1303 by decide), w17, bS] at ref
        have NC := num_C W t2 hi2 (k := 2) (by omega) (by omega)
        have NM := num_M W KM5 hi2 (a := l) hl
        obtain ⟨ν5, hν5⟩ : ∃ z, z = mSI ν4 1303 0 0 (nI (skp S i1 + 1)) := ⟨_, rfl⟩
        rw [← hν5] at KM5 F5 NM ref
        have w17' : mI ν5 1317 0 x = nI l := by rw [hν5]; exact (iS_v (by decide)).trans w17
        -- reference: the second number is wrong
        have refB : ∀ y ν6 j, M_number (nI l) ν5 = some (y, ν6) → mI ν6 1304 0 0 = nI j → Fr [1303, 1304] ν5 ν6 → ∃ ν', prtsM (nI x) ν = some ν' ∧ mI ν' 1304 0 0 = nI j ∧ Ft (XPM x) ν ν' := by
          intro y ν6 j u1 u2 u3
          rw [u1, bS] at ref
          simp only [] at ref
          rw [wr_n hx (by decide), bS] at ref
          exact ⟨_, ref, (iS_v (by decide)).trans u2, (F5.trans (xp_M u3 (by decide))).si (Or.inr (Or.inr ⟨Or.inr rfl, rfl, rfl⟩))⟩
        obtain ⟨s2, hs2⟩ : ∃ z, z = skp S (skp S i1 + 1) := ⟨_, rfl⟩
        have hs2n : s2 ≤ nTp S := by rw [hs2]; exact (skp_le hi2).2
        rw [← hs2] at NC NM
        have clsB : ∀ μ6, Tape_readNumber (nI 2) μ2 = some (-1, μ6) → Pages_readsParts (nI m) μ = some (nI 0, μ6) := by
          intro μ6 u
          rw [cls, kj]
          rw [if_neg n10, u, bS]
          simp only []
          rw [if_pos trivial, rz_0, bS]
        cases hd2 : dgN S s2 with
        | none =>
          left
          obtain ⟨μ6, u1, u2, u3⟩ := NC.1 hd2
          obtain ⟨y, ν6, v1, v2, v3⟩ := NM.1 hd2
          obtain ⟨ν7, w1, w2, w3⟩ := refB y ν6 s2 v1 v2 v3
          exact ⟨s2, μ6, ν7, hs2n, clsB μ6 u1, u2, FC2.trans (xp_C u3 (by decide)), w1, w2, w3⟩
        | some d2 =>
          obtain ⟨NC1, NC2⟩ := NC.2 d2 hd2
          obtain ⟨NM1, NM2⟩ := NM.2 d2 hd2
          have hr2 := rdv_le (S := S) (k := 2) (s := s2) (v := 0) hs2n
          have hr3 := rdv_s (k := 2) (v := 0) hs2n hd2 (by omega)
          obtain ⟨r2, hr2'⟩ : ∃ r, r = rdv S 2 s2 0 := ⟨_, rfl⟩
          rw [← hr2'] at NC1 NC2 NM1 NM2 hr2 hr3
          obtain ⟨h, i3⟩ := r2
          simp only at NC1 NC2 NM1 NM2 hr2 hr3
          have hh : h ≤ 99 := by omega
          cases he3 : dgN S i3 with
          | some e3 =>
            left
            obtain ⟨μ6, u1, u2, u3⟩ := NC1 e3 he3
            obtain ⟨y, ν6, v1, v2, v3⟩ := NM1 e3 he3
            obtain ⟨ν7, w1, w2, w3⟩ := refB y ν6 i3 v1 v2 v3
            exact ⟨i3, μ6, ν7, hr2.2.1, clsB μ6 u1, u2, FC2.trans (xp_C u3 (by decide)), w1, w2, w3⟩
          | none =>
            obtain ⟨μ6, u1, u2, u3⟩ := NC2 he3
            obtain ⟨NM3, NM4⟩ := NM2 he3
            have cls2 : Pages_readsParts (nI m) μ = if nI h < nI l then ((Tape_wrongBefore μ6).bind fun (x7, μ8) => (mRz x7).bind fun z => some (z, μ8)) else (mIx (mI μ6 712 0 0) 17).bind fun r12 => (mWr μ6 704 r12 8 (nI m) (nI l)).bind fun μ13 => (mIx (mI μ13 712 0 0) 17).bind fun r14 => (mWr μ13 705 r14 8 (nI m) (nI h)).bind fun μ15 => (mRz (nI 1)).bind fun z => some (z, μ15) := by
              rw [cls, kj]
              rw [if_neg n10, u1, bS]
              simp only []
              rw [if_neg (fun z => neg_n (by omega) z.symm)]
            by_cases hlt : h < l
            · left
              obtain ⟨y, ν6, v1, v2, v3⟩ := NM3 hlt
              obtain ⟨ν7, w1, w2, w3⟩ := refB y ν6 (i3 - 1) v1 v2 v3
              obtain ⟨μ7, x1, x2, x3⟩ := wrongB_C (i := i3 - 1) (by rw [show i3 - 1 + 1 = i3 by omega]; exact u2)
              refine ⟨i3 - 1, μ7, ν7, by omega, ?_, x2, (FC2.trans (xp_C u3 (by decide))).trans (xp_C x3 (by decide)), w1, w2, w3⟩
              rw [cls2, if_pos ((lt_n (by omega) (by omega)).mpr hlt), x1, bS]
              simp only []
              rw [rz_0, bS]
            · right
              obtain ⟨ν6, v1, v2, v3⟩ := NM4 (by omega)
              obtain ⟨μ7, x1, x2, x3, x4, x5⟩ := fin h i3 μ6 hh u2 (FC2.trans (xp_C u3 (by decide)))
              rw [v1, bS] at ref
              simp only [] at ref
              rw [wr_n hx (by decide), bS] at ref
              refine ⟨l, h, i3, μ7, _, by omega, by omega, hh, hr2.2.1, ?_, x2, x3, x4, x5, ref, v2.wr (by decide), ?_, iS_eq, (F5.trans (xp_M v3 (by decide))).si (Or.inr (Or.inr ⟨Or.inr rfl, rfl, rfl⟩))⟩
              · rw [cls2, if_neg (fun z => hlt ((lt_n (by omega) (by omega)).mp z)), x1]
              · refine (iS_v (by decide)).trans ?_
                rw [v3.i 1317 (by decide)]; exact w17'
      · right
        rw [if_neg h45] at t2
        rw [if_neg h45] at ref
        rw [if_neg h45] at cls
        obtain ⟨μ7, x1, x2, x3, x4, x5⟩ := fin l _ μ2 hl t2 FC2
        refine ⟨l, l, skp S i1, μ7, ν4, by omega, Nat.le_refl _, hl, (skp_le hr.2.1).2, ?_, x2, x3, x4, x5, ref, g2, w17, w18, F4⟩
        rw [cls, kj]
        rw [if_pos z00]
        exact x1
