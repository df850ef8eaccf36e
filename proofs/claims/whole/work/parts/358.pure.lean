/-! PURE: a page that is read, in both -/
def XPg (q v r c : Nat) : Prop := XC q v r c ∨ XA q v r c
def XPgM (p v r c : Nat) : Prop := XM p v r c ∨ XAM p v r c
theorem PgC.ft {q m : Nat} {L lo hi : Nat → Nat} {X : Nat → Nat → Nat → Prop} {μ μ' : Mem} (P : PgC q m L lo hi μ) (F : Ft X μ μ') (h : ∀ v r c, v = 702 ∨ v = 703 ∨ v = 704 ∨ v = 705 ∨ v = 706 ∨ v = 707 → ¬ X v r c) : PgC q m L lo hi μ' := by
  have e : ∀ v r c, v = 702 ∨ v = 703 ∨ v = 704 ∨ v = 705 ∨ v = 706 ∨ v = 707 → mI μ' v r c = mI μ v r c := fun v r c hv => F v r c (h v r c hv)
  unfold PgC at *
  simp only [fun r c => e 702 r c (by decide), fun r c => e 703 r c (by decide), fun r c => e 704 r c (by decide), fun r c => e 705 r c (by decide), fun r c => e 706 r c (by decide), fun r c => e 707 r c (by decide)]
  exact P
theorem PgM.ft {p m : Nat} {L lo hi : Nat → Nat} {X : Nat → Nat → Nat → Prop} {ν ν' : Mem} (P : PgM p m L lo hi ν) (F : Ft X ν ν') (h : ∀ v r c, v = 1315 ∨ v = 1316 ∨ v = 1317 ∨ v = 1318 → ¬ X v r c) : PgM p m L lo hi ν' := by
  have e : ∀ v r c, v = 1315 ∨ v = 1316 ∨ v = 1317 ∨ v = 1318 → mI ν' v r c = mI ν v r c := fun v r c hv => F v r c (h v r c hv)
  unfold PgM at *
  simp only [fun r c => e 1315 r c (by decide), fun r c => e 1316 r c (by decide), fun r c => e 1317 r c (by decide), fun r c => e 1318 r c (by decide)]
  exact P
theorem clearRow_C {q : Nat} {L lo hi A : Nat → Nat} {μ : Mem} (hq : q ≤ 16) (e12 : mI μ 712 0 0 = nI q) : ∃ μ', Pages_clearRow μ = some μ' ∧ Ft (XPg q) μ μ' ∧ mI μ' 712 0 0 = nI q ∧ (∀ v r c, v < 702 ∨ 710 < v → mI μ' v r c = mI μ v r c) ∧ PgC q 0 L lo hi μ' ∧ AcC q 0 A μ' := by
  obtain ⟨s4, h4⟩ : ∃ z, z = mSI (mSI (mSI (mSI μ 702 0 q (nI 0)) 706 0 q (nI 0)) 707 0 q (nI 0)) 709 0 q (nI 0) := ⟨_, rfl⟩
  have F4 : Ft (fun v r c => (v = 702 ∨ v = 706 ∨ v = 707 ∨ v = 709) ∧ r = 0 ∧ c = q) μ s4 := by
    rw [h4]
    exact (((Ft.refl.si ⟨Or.inl rfl, rfl, rfl⟩).si ⟨Or.inr (Or.inl rfl), rfl, rfl⟩).si ⟨Or.inr (Or.inr (Or.inl rfl)), rfl, rfl⟩).si ⟨Or.inr (Or.inr (Or.inr rfl)), rfl, rfl⟩
  have f12 : mI s4 712 0 0 = nI q := (F4 712 0 0 (by simp)).trans e12
  have hl : ∃ s5, Pages_clearRow_l1 FU (nI 0) s4 = some s5 ∧ Ft (fun v r c => v = 710 ∧ r = q) s4 s5 ∧ ∀ a, a < 4 → mI s5 710 q a = nI 0 := by
    refine loopE (fun f v s => Pages_clearRow_l1 f v s) 4 (fun k s => Ft (fun v r c => v = 710 ∧ r = q) s4 s ∧ ∀ a, a < k → mI s 710 q a = nI 0) _ ?_ ?_ 4 0 s4 FU (by omega) (FU_lt (by omega)) ⟨Ft.refl, fun a h => absurd h (Nat.not_lt_zero a)⟩
    · rintro f k s hk ⟨F, h1⟩
      left
      refine ⟨mSI s 710 q k (nI 0), ?_, F.si ⟨rfl, rfl⟩, fun a ha => ?_⟩
      · show Pages_clearRow_l1b (Pages_clearRow_l1 f) (nI k) s = _
        unfold Pages_clearRow_l1b
        rw [if_pos ((lt_n (by omega) (by omega)).mpr hk), F 712 0 0 (by simp), f12, ix_n (by omega) (by decide), bS, wr_n (by omega) (by decide), bS, bS, add_n]
      · by_cases e : a = k
        · subst e; exact iS_eq
        · exact (iS_c e).trans (h1 a (by omega))
    · rintro f s ⟨F, h1⟩
      refine ⟨s, ?_, F, h1⟩
      show Pages_clearRow_l1b (Pages_clearRow_l1 f) (nI 4) s = _
      unfold Pages_clearRow_l1b
      rw [if_neg (by decide)]
  obtain ⟨s5, l1, F5, z5⟩ := hl
  have r02 : mI s4 702 0 q = nI 0 := by rw [h4]; exact (iS_v (by decide)).trans ((iS_v (by decide)).trans ((iS_v (by decide)).trans iS_eq))
  have r06 : mI s4 706 0 q = nI 0 := by rw [h4]; exact (iS_v (by decide)).trans ((iS_v (by decide)).trans iS_eq)
  have r07 : mI s4 707 0 q = nI 0 := by rw [h4]; exact (iS_v (by decide)).trans iS_eq
  have r09 : mI s4 709 0 q = nI 0 := by rw [h4]; exact iS_eq
  refine ⟨s5, ?_, (F4.mono fun v r c z => ?_).trans (F5.mono fun v r c z => Or.inr (Or.inr (Or.inr (Or.inr (Or.inr z))))), (F5 712 0 0 (by simp)).trans f12, fun v r c hv => ?_, ⟨(F5 702 0 q (by simp)).trans r02, fun k h => absurd h (Nat.not_lt_zero k), ⟨0, (F5 706 0 q (by simp)).trans r06, by decide, fun t => ⟨fun z => by simp at z, fun ⟨k, hk, _⟩ => absurd hk (Nat.not_lt_zero k)⟩⟩, ⟨0, (F5 707 0 q (by simp)).trans r07, by decide, fun t => ⟨fun z => by simp at z, fun ⟨k, hk, _⟩ => absurd hk (Nat.not_lt_zero k)⟩⟩⟩, ⟨(F5 709 0 q (by simp)).trans r09, fun i h => absurd h (Nat.not_lt_zero i), fun a ha => z5 a ha⟩⟩
  · unfold Pages_clearRow
    rw [e12, wr_n (by omega) (by decide), bS, iS_v (show (712 : Nat) ≠ 702 by decide), e12, wr_n (by omega) (by decide), bS, iS_v (show (712 : Nat) ≠ 706 by decide), iS_v (show (712 : Nat) ≠ 702 by decide), e12, wr_n (by omega) (by decide), bS, iS_v (show (712 : Nat) ≠ 707 by decide), iS_v (show (712 : Nat) ≠ 706 by decide), iS_v (show (712 : Nat) ≠ 702 by decide), e12, wr_n (by omega) (by decide), bS, ← h4, l1, bS]
  · rcases z with ⟨z | z | z | z, z1, z2⟩
    · exact Or.inl (Or.inr (Or.inr (Or.inl ⟨Or.inl z, z1, z2⟩)))
    · exact Or.inl (Or.inr (Or.inr (Or.inl ⟨Or.inr (Or.inl z), z1, z2⟩)))
    · exact Or.inl (Or.inr (Or.inr (Or.inl ⟨Or.inr (Or.inr (Or.inl z)), z1, z2⟩)))
    · exact Or.inr (Or.inr (Or.inr (Or.inr (Or.inl ⟨z, z1, z2⟩))))
  · rw [F5 v r c (by omega), F4 v r c (by omega)]
theorem page_L {S : St} {q p : Nat} {μ ν : Mem} (W : W_tp S) (h12 : nTh S ≤ 12) (hq : q ≤ 16) (hp : p ≤ 16) (T : C_tp S μ) (TM : M_tp S ν) (e12 : mI μ 712 0 0 = nI q) (e808 : mI μ 808 0 0 = nI (nTh S)) (e14 : mI ν 1314 0 0 = nI (nTh S)) :
    (∃ j μ' ν', j ≤ nTp S ∧ Pages_readsTape μ = some (nI 0, μ') ∧ mI μ' 1003 0 0 = nI j ∧ Ft (XPg q) μ μ' ∧ M_readPage (nI p) ν = some (nI j, ν') ∧ Ft (XPgM p) ν ν') ∨
    ∃ m L lo hi na A μ' ν', 1 ≤ m ∧ m ≤ 8 ∧ na ≤ 72 ∧ (∀ i, i < na → A i < 4) ∧ PgW S m L lo hi ∧ Pages_readsTape μ = some (nI 1, μ') ∧ Ft (XPg q) μ μ' ∧ PgC q m L lo hi μ' ∧ AcC q na A μ' ∧ M_readPage (nI p) ν = some (-1, ν') ∧ Ft (XPgM p) ν ν' ∧ PgM p m L lo hi ν' ∧ AcM p na A ν' := by
  have hn := W.1
  have z0 : Nat → Nat := fun _ => 0
  obtain ⟨μ1, c1, c2, c3, c4, c5, c6⟩ := clearRow_C (L := z0) (lo := z0) (hi := z0) (A := z0) hq e12
  obtain ⟨μ2, h2⟩ : ∃ z, z = mSI (mSI μ1 1002 0 0 (nI 0)) 1003 0 0 (-1) := ⟨_, rfl⟩
  have F12 : Ft (fun v r c => v = 1002 ∨ v = 1003) μ1 μ2 := by rw [h2]; exact (Ft.refl.si (Or.inl rfl)).si (Or.inr rfl)
  have KC : K_C S 0 μ2 := by
    refine ⟨⟨?_, fun k hk => ?_⟩, ?_, ?_⟩
    · rw [F12 1001 0 0 (by simp), c4 1001 0 0 (by omega)]; exact T.1
    · rw [F12 1000 0 k (by simp), c4 1000 0 k (by omega)]; exact T.2 k hk
    · rw [h2]; exact (iS_v (by decide)).trans iS_eq
    · rw [h2]; exact iS_eq
  have FC : Ft (XPg q) μ μ2 := c2.trans (F12.mono fun v r c z => Or.inl (z.elim Or.inl fun z => Or.inr (Or.inl z)))
  have P2 : PgC q 0 z0 z0 z0 μ2 := c5.ft F12 (fun v r c hv => by omega)
  have A2 : AcC q 0 z0 μ2 := ⟨(F12 709 0 q (by simp)).trans c6.1, fun i h => absurd h (Nat.not_lt_zero i), fun a ha => (F12 710 q a (by simp)).trans (c6.2.2 a ha)⟩
  have g12 : mI μ2 712 0 0 = nI q := (F12 712 0 0 (by simp)).trans c3
  have g808 : mI μ2 808 0 0 = nI (nTh S) := by rw [F12 808 0 0 (by simp), c4 808 0 0 (by omega)]; exact e808
  -- the reference's start
  obtain ⟨ν1, k1⟩ : ∃ z, z = mSI (mSI (mSI (mSI ν 1303 0 0 (nI 0)) 1304 0 0 (-1)) 1315 0 p (nI 0)) 1319 0 p (nI 0) := ⟨_, rfl⟩
  have KM : K_M S 0 ν1 := by
    rw [k1]
    refine ⟨⟨?_, fun k hk => ?_⟩, ?_, ?_⟩
    · exact (iS_v (by decide)).trans ((iS_v (by decide)).trans ((iS_v (by decide)).trans ((iS_v (by decide)).trans TM.1)))
    · exact (iS_v (by decide)).trans ((iS_v (by decide)).trans ((iS_v (by decide)).trans ((iS_v (by decide)).trans (TM.2 k hk))))
    · exact (iS_v (by decide)).trans ((iS_v (by decide)).trans ((iS_v (by decide)).trans iS_eq))
    · exact (iS_v (by decide)).trans ((iS_v (by decide)).trans iS_eq)
  have FM : Ft (XPgM p) ν ν1 := by
    rw [k1]
    exact (((Ft.refl.si (Or.inl (Or.inl rfl))).si (Or.inl (Or.inr (Or.inl rfl)))).si (Or.inl (Or.inr (Or.inr (Or.inl ⟨Or.inl rfl, rfl, rfl⟩))))).si (Or.inr (Or.inr (Or.inr (Or.inl ⟨rfl, rfl, rfl⟩))))
  have R1 : PgM p 0 z0 z0 z0 ν1 := ⟨by rw [k1]; exact (iS_v (by decide)).trans iS_eq, fun k h => absurd h (Nat.not_lt_zero k)⟩
  have B1 : AcM p 0 z0 ν1 := ⟨by rw [k1]; exact iS_eq, fun k h => absurd h (Nat.not_lt_zero k)⟩
  have g14 : mI ν1 1314 0 0 = nI (nTh S) := by rw [k1]; exact (iS_v (by decide)).trans ((iS_v (by decide)).trans ((iS_v (by decide)).trans ((iS_v (by decide)).trans e14)))
  have cls : Pages_readsTape μ = (Pages_readsThings_l1 FU (nI 0) μ2).bind fun (x3, μ4) => if x3 = 0 then (mRz (nI 0)).bind fun z => some (z, μ4) else (Tape_takes (nI 59) μ4).bind fun (x5, μ6) => if x5 = 0 then ((Tape_look μ6).bind fun (x7, μ8) => if x7 = (-1) then (mRz (nI 1)).bind fun z => some (z, μ8) else (Tape_wrongHere μ8).bind fun (x9, μ10) => if x9 = 0 then (mRz (nI 0)).bind fun z => some (z, μ10) else (mRz (nI 1)).bind fun z => some (z, μ10)) else (Pages_readsActs μ6).bind fun (x11, μ12) => (mRz x11).bind fun z => some (z, μ12) := by
    unfold Pages_readsTape Tape_begin Pages_readsThings
    rw [c1, bS, bS, bS, ← h2, bS]
  have ref : M_readPage (nI p) ν = ((M_item (nI p) ν1).bind (M_readPage_l1 (nI p) FU)).bind fun μ6 => (if (mI μ6 1304 0 0) = (-1) then ((M_look μ6).bind fun (x7, μ8) => if x7 = (nI 59) then ((some (mSI μ8 1303 0 0 ((mI μ8 1303 0 0) + (nI 1)))).bind fun μ9 => (M_acts (nI p) μ9).bind fun μ10 => some μ10) else some μ8) else some μ6).bind tailM := by
    unfold M_readPage
    rw [bS, bS, wr_n (by omega) (by decide), bS, wr_n (by omega) (by decide), bS, ← k1]
    cases M_item (nI p) ν1 with
    | none => rfl
    | some μ5 => rw [bS, bS]; rfl
  have hFU : 8 + 1 < FU := by unfold FU; decide
  rcases things_L W h12 hq hp (r := 8) (m := 0) (f := FU) (g := FU) (by omega) (by omega) (by omega) KC KM (Nat.zero_le _) g12 g808 g14 P2 R1 ⟨fun k h => absurd h (Nat.not_lt_zero k), fun k j h => absurd h (Nat.not_lt_zero k)⟩ with ⟨j, μ', ν', u1, u2, u3, u4, u5, u6, u7⟩ | ⟨m, L, lo, hi, i, μ', ν', u1, u2, u3, u4, u5, u6, u7, u8, u9, u10, u11, u12, u13⟩
  · left
    refine ⟨j, μ', ν', u1, ?_, u3, FC.trans (u4.mono fun _ _ _ => Or.inl), ?_, FM.trans (u7.mono fun _ _ _ => Or.inl)⟩
    · rw [cls, u2, bS]
      simp only []
      rw [if_pos z00, rz_0, bS]
    · rw [ref, u5, bS, u6, if_neg (fun z => neg_n (by omega) z.symm), bS]
      exact tail_bad u6 (by omega)
  · have A3 : AcC q 0 z0 μ' := ⟨(u7 709 0 q (by simp [XC])).trans A2.1, fun i h => absurd h (Nat.not_lt_zero i), fun a ha => (u7 710 q a (by simp [XC])).trans (A2.2.2 a ha)⟩
    have B3 : AcM p 0 z0 ν' := ⟨(u11 1319 0 p (by simp [XM])).trans B1.1, fun i h => absurd h (Nat.not_lt_zero i)⟩
    obtain ⟨μ3, t1, t2, t3⟩ := takes_C (c := 59) W u6 u3 (by decide)
    obtain ⟨ν3, b1, b2, b3⟩ := look_M W u10 u3
    rw [u4] at b2 t2
    have FC3 : Ft (XPg q) μ μ3 := (FC.trans (u7.mono fun _ _ _ => Or.inl)).trans ((xc_fr t3 (by decide)).mono fun _ _ _ => Or.inl)
    have FM3 : Ft (XPgM p) ν ν3 := (FM.trans (u11.mono fun _ _ _ => Or.inl)).trans ((xm_fr b3 (by decide)).mono fun _ _ _ => Or.inl)
    have P3 : PgC q m L lo hi μ3 := u8.ft (Ft.of (X := fun v r c => v = 1002) t3 fun v hv r c => by simpa using hv) (fun v r c hv => by omega)
    have R3 : PgM p m L lo hi ν3 := u12.ft (Ft.of (X := fun v r c => v = 1303) b3 fun v hv r c => by simpa using hv) (fun v r c hv => by omega)
    have A4 := A3.fr t3 (by decide)
    have B4 := B3.fr b3 (by decide)
    rw [u5, bS] at cls
    simp only [] at cls
    rw [if_neg n10, t1, bS] at cls
    simp only [] at cls
    rw [u9, bS, u10.2.2, if_pos rfl, b1, bS] at ref
    simp only [] at ref
    by_cases h59 : lkI S i = nI 59
    · have hin := lk_in (by decide) h59
      rw [u4] at hin
      rw [if_pos h59] at t2 cls
      rw [if_pos h59, b2.2.1, add_n, bS] at ref
      rw [if_neg n10] at cls
      have K4 : K_M S (i + 1) (mSI ν3 1303 0 0 (nI (i + 1))) := b2.at
      have F4 : Fr [1303] ν3 (mSI ν3 1303 0 0 (nI (i + 1))) := fr_si (by simp) Fr.refl
      have e12' : mI μ3 712 0 0 = nI q := by rw [t3.i 712 (by decide), u7 712 0 0 (by simp [XC])]; exact g12
      rcases acts_L W hq hp (r := 8) (v := 0) (f := FU) (g := FU) (by omega) hFU hFU (by omega) (fun i h => absurd h (Nat.not_lt_zero i)) t2 K4 (by omega) e12' A4 (B4.fr F4 (by decide)) with ⟨j, μ5, ν5, v1, v2, v3, v4, v5, v6⟩ | ⟨na, A, μ5, ν5, v1, v2, v3, v4, v5, v6, v7, v8, v9⟩
      · left
        refine ⟨j, μ5, ν5, v1, ?_, v3, FC3.trans (v4.mono fun _ _ _ => Or.inr), ?_, (FM3.trans ((xm_fr F4 (by decide)).mono fun _ _ _ => Or.inl)).trans (v6.mono fun _ _ _ => Or.inr)⟩
        · rw [cls]
          unfold Pages_readsActs
          rw [v2, bS]
          simp only []
          rw [rz_0, bS]
        · rw [ref]
          unfold M_acts
          rw [← v5]
          cases M_acts_l1 (nI p) FU (nI 0) (mSI ν3 1303 0 0 (nI (i + 1))) with
          | none => rfl
          | some s => rw [bS]
      · right
        refine ⟨m, L, lo, hi, na, A, μ5, ν5, u1, u2, v1, v2, u13, ?_, FC3.trans (v5.mono fun _ _ _ => Or.inr), P3.ft v5 (fun v r c hv => by simp only [XA]; omega), v6, ?_, (FM3.trans ((xm_fr F4 (by decide)).mono fun _ _ _ => Or.inl)).trans (v8.mono fun _ _ _ => Or.inr), (R3.ft (Ft.of (X := fun v r c => v = 1303) F4 fun v hv r c => by simpa using hv) (fun v r c hv => by omega)).ft v8 (fun v r c hv => by simp only [XAM]; omega), v9⟩
        · rw [cls]
          unfold Pages_readsActs
          rw [v3, bS]
          simp only []
          rw [rz_1, bS]
        · rw [ref]
          unfold M_acts
          rw [← v7]
          cases M_acts_l1 (nI p) FU (nI 0) (mSI ν3 1303 0 0 (nI (i + 1))) with
          | none => rfl
          | some s => rw [bS]
    · rw [if_neg h59] at t2 cls
      rw [if_neg h59, bS] at ref
      rw [if_pos z00] at cls
      obtain ⟨μ5, l1, l2, l3⟩ := look_C W t2 u3
      rw [l1, bS] at cls
      simp only [] at cls
      rw [u4] at l2
      rcases tail_M W b2 u3 with ⟨x1, ν5, x2, x3⟩ | ⟨x1, ν5, x2, x3⟩
      · right
        rw [if_pos x1, rz_1, bS] at cls
        exact ⟨m, L, lo, hi, 0, z0, μ5, ν5, u1, u2, by omega, fun i h => absurd h (Nat.not_lt_zero i), u13, cls, FC3.trans ((xc_fr l3 (by decide)).mono fun _ _ _ => Or.inl), P3.ft (Ft.of (X := fun v r c => v = 1002) l3 fun v hv r c => by simpa using hv) (fun v r c hv => by omega), A4.fr l3 (by decide), ref.trans x2, FM3.trans ((xm_fr x3 (by decide)).mono fun _ _ _ => Or.inl), R3.ft (Ft.of (X := fun v r c => v = 1303 ∨ v = 1304) x3 fun v hv r c => by simpa using hv) (fun v r c hv => by omega), B4.fr x3 (by decide)⟩
      · left
        obtain ⟨μ6, w1, w2, w3⟩ := wrong_C l2
        rw [if_neg x1, w1, bS] at cls
        simp only [] at cls
        rw [if_pos z00, rz_0, bS] at cls
        rw [u4] at x2
        exact ⟨i, μ6, ν5, u3, cls, w2, FC3.trans (((xc_fr l3 (by decide)).mono fun _ _ _ => Or.inl).trans ((xc_fr w3 (by decide)).mono fun _ _ _ => Or.inl)), ref.trans x2, FM3.trans ((xm_fr x3 (by decide)).mono fun _ _ _ => Or.inl)⟩
