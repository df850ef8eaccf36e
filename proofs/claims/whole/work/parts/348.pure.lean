/-! PURE: the class lays a menu out -/
theorem count_C2 {S : St} {p : Nat} {μ : Mem} (W : WF S) (C : CR S μ) (hp : p < nPg S) : ∃ μ', ((Pot_isCounted (nI p) μ).bind fun x7 => (if x7 = 0 then ((Pot_lay (nI p) μ).bind fun (x8, μ9) => some (x8, μ9)) else (mRd μ 910 0 16 (nI p)).bind fun x10 => some (x10, μ)).bind fun (x11, μ12) => if x11 = (nI 1) then (mRz (nI 1)).bind fun z => some (z, μ12) else (mRz (nI 0)).bind fun z => some (z, μ12)) = some (nI (ctB S p).toNat, μ') ∧ CR S μ' ∧ Fr layW μ μ' ∧ Cnt S p μ' := by
  have h16 := W.pg.1
  have fin : ∀ μ' : Mem, (if cntI S p = nI 1 then (mRz (nI 1)).bind fun z => some (z, μ') else (mRz (nI 0)).bind fun z => some (z, μ')) = some (nI (ctB S p).toNat, μ') := by
    intro μ'
    unfold ctB
    by_cases h : cntI S p = nI 1
    · rw [if_pos h, decide_eq_true h, rz_1, bS]; rfl
    · rw [if_neg h, decide_eq_false h, rz_0, bS]; rfl
  unfold Pot_isCounted
  rw [rd_n (by omega) (by decide), bS, C.ca.1]
  by_cases h : mI μ 909 0 p = nI (sN S 908 0 0)
  · have hc := C.ca.2.2.2.2.1 p hp h
    rw [if_pos h, rz_1, bS, if_neg n10, rd_n (by omega) (by decide), bS, bS, hc.1]
    exact ⟨μ, fin μ, C, Fr.refl, hc⟩
  · obtain ⟨μ1, a1, a2, a3⟩ := lay_eq W C hp
    rw [if_neg h, rz_0, bS, if_pos z00, a1, bS]
    simp only [bS]
    exact ⟨μ1, fin μ1, a2.1, a3, a2.cnt⟩
theorem served_C2 {S : St} {d p : Nat} {μ : Mem} (W : WF S) (C : CR S μ) (hd : d < nDy S) (hp : p < nPg S) : ∃ μ', Account_isServed (nI d) (nI p) μ = some (nI (srvB S d p).toNat, μ') ∧ CR S μ' ∧ Fr layW μ μ' ∧ (srvB S d p = true → Cnt S p μ') := by
  have h16 := W.pg.1
  have h10 := W.dy.1
  obtain ⟨wd, wd4⟩ := W.dy.2.1 d hd
  obtain ⟨c3, c4⟩ := C.dy.2.1 d hd
  have wp := W.pg.2.1 p hp
  have cp := C.pg.2.1 p hp
  have tail : ∃ μ', ((Pages_monthsOf (nI p) μ).bind fun x4 => (mRd μ 103 0 10 (nI d)).bind fun x5 => (B_holdsBit x4 (x5 - (nI 1))).bind fun x6 => if x6 = 0 then (mRz (nI 0)).bind fun z => some (z, μ) else (Pot_isCounted (nI p) μ).bind fun x7 => (if x7 = 0 then ((Pot_lay (nI p) μ).bind fun (x8, μ9) => some (x8, μ9)) else (mRd μ 910 0 16 (nI p)).bind fun x10 => some (x10, μ)).bind fun (x11, μ12) => if x11 = (nI 1) then (mRz (nI 1)).bind fun z => some (z, μ12) else (mRz (nI 0)).bind fun z => some (z, μ12)) = some (nI (onB S d p && ctB S p).toNat, μ') ∧ CR S μ' ∧ Fr layW μ μ' ∧ ((onB S d p && ctB S p) = true → Cnt S p μ') := by
    have hlt := mnS_lt (S := S) (p := p) (k := mT S p)
    rw [months_C W ⟨C.pg, C.th⟩ hp, bS, rd_n (by omega) (by decide), c3, bS, sub_n wd.1, hbit (by omega) (by omega), bS]
    show ∃ μ', (if nI (onB S d p).toNat = 0 then _ else _) = _ ∧ _
    cases h : onB S d p with
    | false => rw [if_pos (show nI false.toNat = 0 from rfl), rz_0, bS, Bool.false_and]; exact ⟨μ, rfl, C, Fr.refl, fun z => nomatch z⟩
    | true =>
      rw [if_neg (show ¬ nI true.toNat = 0 from n10), Bool.true_and]
      obtain ⟨μ', a1, a2, a3, a4⟩ := count_C2 W C hp
      exact ⟨μ', a1, a2, a3, fun _ => a4⟩
  obtain ⟨μ', t1, t2, t3, t4⟩ := tail
  have e807 := C.th.2.1
  have fb := fls_bits W hp
  unfold Account_isServed kj
  simp only []
  rw [rd_n (by omega) (by decide), c4, bS]
  rcases (show sN S 104 0 d = 0 ∨ sN S 104 0 d = 1 by omega) with h4 | h4
  · rw [h4, if_pos z00]
    unfold srvB
    rw [h4, show decide ((0 : Nat) = 1) = false from rfl, Bool.false_and, Bool.not_false, Bool.true_and]
    exact ⟨μ', t1, t2, t3, t4⟩
  · rw [h4, if_neg n10, rd_n (by omega) (by decide), cp.2.2.1, bS, e807, and_n]
    have h2 : sN S 706 0 p &&& sN S 807 0 0 < 4096 := and_lt wp.2.2.2.1.1
    unfold srvB fsB
    rw [h4, show decide ((1 : Nat) = 1) = true from rfl, Bool.true_and]
    by_cases h : sN S 706 0 p &&& sN S 807 0 0 = 0
    · rw [if_pos ((eq0_n (by omega)).mpr h), fb.mp h]
      rw [show decide ((0 : Nat) = 1) = false from rfl, Bool.not_false, Bool.true_and]
      exact ⟨μ', t1, t2, t3, t4⟩
    · have h1 := flsP_le (S := S) (p := p) (mT S p)
      have : flsP S p (mT S p) = 1 := by have := mt fb.mpr h; omega
      rw [if_neg (fun z => h ((eq0_n (by omega)).mp z)), this, rz_0, bS]
      rw [show decide ((1 : Nat) = 1) = true from rfl, Bool.not_true, Bool.false_and, Bool.and_false]
      exact ⟨μ, rfl, C, Fr.refl, fun z => nomatch z⟩
def spW : List Nat := [603, 604, 605, 607, 610, 611]
def fptB (S : St) (b : Bool) (p t : Nat) : Nat := if b then fpt S p t else 0
theorem setPlace_C {S : St} {p k g : Nat} {b : Bool} {μ : Mem} (W : WF S) (C : CR S μ) (hp : p < nPg S) (hk : k < 5) (e11 : mI μ 610 0 0 = nI k) (e12 : mI μ 611 0 0 = nI g) (hb : b = true → told S p ∧ (dl S p)[0]? = some (dx S p 0) ∧ Cnt S p μ) :
    ∃ μ', Menus_setPlace (nI p) (nI b.toNat) μ = some μ' ∧ Fr spW μ μ' ∧ mI μ' 610 0 0 = nI (k + 1) ∧ mI μ' 611 0 0 = nI (g ||| sN S 706 0 p) ∧ mI μ' 603 0 k = nI p ∧ mI μ' 604 0 k = nI (if b then 9 else 0) ∧ (∀ t, t < 12 → mI μ' 605 k t = nI (fptB S b p t)) ∧ ∀ i, i < k → mI μ' 603 0 i = mI μ 603 0 i ∧ mI μ' 604 0 i = mI μ 604 0 i ∧ ∀ t, mI μ' 605 i t = mI μ 605 i t := by
  have h16 := W.pg.1
  have h12 := W.th.1
  have wp := W.pg.2.1 p hp
  have hm8 := wp.1.2
  unfold Menus_setPlace
  rw [e11, wr_n (by omega) (by decide), bS]
  obtain ⟨s1, hs1⟩ : ∃ s, s = mSI μ 603 0 k (nI p) := ⟨_, rfl⟩
  obtain ⟨q1, q1', p1⟩ := st_rc hs1
  have hc : (if nI b.toNat = 0 then some (nI 0) else some (nI 9)) = some (nI (if b then 9 else 0)) := by cases b <;> rfl
  rw [← hs1, hc, bS, q1 610 0 0 (by decide), e11, wr_n (by omega) (by decide), bS]
  obtain ⟨s2, hs2⟩ : ∃ s, s = mSI s1 604 0 k (nI (if b then 9 else 0)) := ⟨_, rfl⟩
  obtain ⟨q2, q2', p2⟩ := st_rc hs2
  rw [← hs2]
  have F2 : Fr [603, 604] μ s2 := by rw [hs2, hs1]; exact fr_si (by simp) (fr_si (by simp) Fr.refl)
  have l1 : ∃ s3, Menus_setPlace_l1 (nI p) (nI b.toNat) FU (nI 0) s2 = some s3 ∧ Fr [605] s2 s3 ∧ (∀ t, t < 12 → mI s3 605 k t = nI 0) ∧ ∀ i t, i ≠ k → mI s3 605 i t = mI s2 605 i t := by
    refine loopE (fun f v s => Menus_setPlace_l1 (nI p) (nI b.toNat) f v s) 12 (fun c s => Fr [605] s2 s ∧ (∀ t, t < c → mI s 605 k t = nI 0) ∧ ∀ i t, i ≠ k → mI s 605 i t = mI s2 605 i t) _ ?_ ?_ 12 0 s2 FU (by omega) (FU_lt (by omega)) ⟨Fr.refl, fun t h => absurd h (Nat.not_lt_zero t), fun _ _ _ => rfl⟩
    · rintro f t s ht ⟨F, h1, h2⟩
      left
      refine ⟨mSI s 605 k t (nI 0), ?_, fr_si (by simp) F, fun u hu => ?_, fun i u hi => (iS_r hi).trans (h2 i u hi)⟩
      · show Menus_setPlace_l1b (nI p) (nI b.toNat) (Menus_setPlace_l1 (nI p) (nI b.toNat) f) (nI t) s = _
        unfold Menus_setPlace_l1b
        rw [if_pos ((lt_n (by omega) (by omega)).mpr ht), F.i 610 (by decide), F2.i 610 (by decide), e11, ix_n (by omega) (by decide), bS, wr_n (by omega) (by decide), bS, bS, add_n]
      · by_cases e : u = t
        · subst e; exact iS_eq
        · exact (iS_c e).trans (h1 u (by omega))
    · rintro f s ⟨F, h1, h2⟩
      refine ⟨s, ?_, F, h1, h2⟩
      show Menus_setPlace_l1b (nI p) (nI b.toNat) (Menus_setPlace_l1 (nI p) (nI b.toNat) f) (nI 12) s = _
      unfold Menus_setPlace_l1b
      rw [if_neg (by decide)]
  obtain ⟨s3, l1, F3, z3, z3'⟩ := l1
  rw [l1, bS]
  have F03 : Fr [603, 604, 605] μ s3 := (F2.mono (by simp)).trans (F3.mono (by simp))
  have C3 := C.fr F03 (by decide)
  have cp := C3.pg.2.1 p hp
  have l2 : ∃ s4, Menus_setPlace_l2 (nI p) (nI b.toNat) FU (nI 0) s3 = some s4 ∧ Fr [605] s3 s4 ∧ (∀ t, t < 12 → mI s4 605 k t = nI (fptB S b p t)) ∧ ∀ i t, i ≠ k → mI s4 605 i t = mI s3 605 i t := by
    cases b with
    | false =>
      refine ⟨s3, ?_, Fr.refl, z3, fun _ _ _ => rfl⟩
      show Menus_setPlace_l2b (nI p) (nI false.toNat) (Menus_setPlace_l2 (nI p) (nI false.toNat) 999999) (nI 0) s3 = _
      unfold Menus_setPlace_l2b
      rw [rd_n (by omega) (by decide), cp.1, bS, if_pos (show nI false.toNat = 0 from rfl)]
      split <;> rfl
    | true =>
      obtain ⟨b1, b2, b3⟩ := hb rfl
      have b4 := b3.2 b1 _ b2
      refine loopE (fun f v s => Menus_setPlace_l2 (nI p) (nI true.toNat) f v s) (mT S p) (fun c s => Fr [605] s3 s ∧ (∀ t, t < 12 → ((∃ j, j < c ∧ sN S 703 p j = t) → mI s 605 k t = nI (fpt S p t)) ∧ ((∀ j, j < c → ¬ sN S 703 p j = t) → mI s 605 k t = nI 0)) ∧ ∀ i t, i ≠ k → mI s 605 i t = mI s3 605 i t) _ ?_ ?_ (mT S p) 0 s3 FU (by omega) (FU_lt (by omega)) ⟨Fr.refl, fun t ht => ⟨fun ⟨j, hj, _⟩ => absurd hj (by omega), fun _ => z3 t ht⟩, fun _ _ _ => rfl⟩
      · rintro f j s hj ⟨F, h1, h2⟩
        left
        have hL := (wp.2.1 j hj).1
        have e02 : mI s 702 0 p = nI (mT S p) := by rw [F.i 702 (by decide)]; exact cp.1
        have e03 : mI s 703 p j = nI (sN S 703 p j) := by rw [F.i 703 (by decide)]; exact (cp.2.1 j hj).1
        have e911 : mI s 911 p j = nI (prtP S p (dx S p 0) j) := by rw [F.i 911 (by decide), F03.i 911 (by decide)]; exact b4 j hj
        have e611 : mI s 610 0 0 = nI k := by rw [F.i 610 (by decide), F03.i 610 (by decide)]; exact e11
        refine ⟨mSI s 605 k (sN S 703 p j) (nI (prtP S p (dx S p 0) j)), ?_, fr_si (by simp) F, fun t ht => ⟨fun ⟨i, hi, he⟩ => ?_, fun h => ?_⟩, fun i t hi => (iS_r hi).trans (h2 i t hi)⟩
        · show Menus_setPlace_l2b (nI p) (nI true.toNat) (Menus_setPlace_l2 (nI p) (nI true.toNat) f) (nI j) s = _
          unfold Menus_setPlace_l2b
          rw [rd_n (by omega) (by decide), e02, bS, if_pos ((lt_n (by omega) (by omega)).mpr hj), if_neg (show ¬ nI true.toNat = 0 from n10), e611, ix_n (by omega) (by decide), bS, ix_n (by omega) (by decide), bS, rd_n (by omega) (by decide), e03, bS, ix_n (by omega) (by decide), bS, rd_n (by omega) (by decide), e911, bS, wr_n (by omega) (by decide), bS, bS, add_n]
        · by_cases e : t = sN S 703 p j
          · subst e
            rw [fpt_at W hp hj rfl]; exact iS_eq
          · refine (iS_c e).trans ((h1 t ht).1 ⟨i, ?_, he⟩)
            by_cases e2 : i = j
            · subst e2; exact absurd he.symm e
            · omega
        · have := h j (by omega)
          exact (iS_c (fun z => this z.symm)).trans ((h1 t ht).2 fun i hi => h i (by omega))
      · rintro f s ⟨F, h1, h2⟩
        refine ⟨s, ?_, F, fun t ht => ?_, h2⟩
        · show Menus_setPlace_l2b (nI p) (nI true.toNat) (Menus_setPlace_l2 (nI p) (nI true.toNat) f) (nI (mT S p)) s = _
          unfold Menus_setPlace_l2b
          rw [rd_n (by omega) (by decide), show mI s 702 0 p = nI (mT S p) by rw [F.i 702 (by decide)]; exact cp.1, bS, if_neg (fun z => absurd ((lt_n (by omega) (by omega)).mp z) (by omega))]
        · show _ = nI (fpt S p t)
          by_cases h : ∃ j, j < mT S p ∧ sN S 703 p j = t
          · exact (h1 t ht).1 h
          · have h' : ∀ j, j < mT S p → ¬ sN S 703 p j = t := fun j hj he => h ⟨j, hj, he⟩
            rw [fpt_no h']; exact (h1 t ht).2 h'
  obtain ⟨s4, l2, F4, z4, z4'⟩ := l2
  have F04 : Fr [603, 604, 605] μ s4 := F03.trans (F4.mono (by simp))
  have cp4 := (C.fr F04 (by decide)).pg.2.1 p hp
  rw [l2, bS, rd_n (by omega) (by decide), cp4.2.2.1, bS, F04.i 611 (by decide), e12, or_n, bS]
  obtain ⟨s5, hs5⟩ : ∃ s, s = mSI s4 611 0 0 (nI (g ||| sN S 706 0 p)) := ⟨_, rfl⟩
  obtain ⟨q5, -, p5⟩ := st_rc hs5
  rw [← hs5, q5 610 0 0 (by decide), F04.i 610 (by decide), e11, wr_n (by omega) (by decide), bS]
  obtain ⟨s6, hs6⟩ : ∃ s, s = mSI s5 607 0 k (nI 0) := ⟨_, rfl⟩
  obtain ⟨q6, -, p6⟩ := st_rc hs6
  rw [← hs6, q6 610 0 0 (by decide), q5 610 0 0 (by decide), F04.i 610 (by decide), e11, add_n, bS]
  have F46 : Fr [607, 610, 611] s4 (mSI s6 610 0 0 (nI (k + 1))) := by
    rw [hs6, hs5]
    exact fr_si (by simp) (fr_si (by simp) (fr_si (by simp) Fr.refl))
  refine ⟨_, rfl, (F04.mono (by simp [spW])).trans (F46.mono (by simp [spW])), iS_eq, ?_, ?_, ?_, fun t ht => ?_, fun i hi => ⟨?_, ?_, fun t => ?_⟩⟩
  · rw [iS_v (show (611 : Nat) ≠ 610 by decide), q6 611 0 0 (by decide), p5]
  · rw [F46.i 603 (by decide), F4.i 603 (by decide), F3.i 603 (by decide), q2 603 0 k (by decide), p1]
  · rw [F46.i 604 (by decide), F4.i 604 (by decide), F3.i 604 (by decide), p2]
  · rw [F46.i 605 (by decide)]; exact z4 t ht
  · rw [F46.i 603 (by decide), F4.i 603 (by decide), F3.i 603 (by decide), q2 603 0 i (by decide), q1' i (by omega)]
  · rw [F46.i 604 (by decide), F4.i 604 (by decide), F3.i 604 (by decide), q2' i (by omega), q1 604 0 i (by decide)]
  · rw [F46.i 605 (by decide), z4' i t (by omega), z3' i t (by omega), F2.i 605 (by decide)]
