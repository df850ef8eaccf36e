/-! PURE: a menu is counted in the reference, the whole step -/
theorem st_rd {μ s : Mem} {v : Nat} {x : Int32} (h : s = mSI μ v 0 0 x) : (∀ w r c, w ≠ v → mI s w r c = mI μ w r c) ∧ mI s v 0 0 = x := by
  subst h
  exact ⟨fun w r c hw => iS_v hw, iS_eq⟩
theorem neg1_lt {t : Nat} (h : t < 2147483648) : (-1 : Int32) < nI t := by
  have e1 := nI_toInt (n := t) (by omega)
  have e2 : (-1 : Int32).toInt = -1 := by decide
  rw [Int32.lt_iff_toInt_lt, e1, e2]
  omega
def cntW : List Nat := [1363, 1366, 1367, 1368, 1369, 1370, 1373, 1374, 1375, 1376]
theorem countMenu_M {S : St} {d a K : Nat} {tg : Int32} {x : Nat → Nat} {c : AcT} {ν : Mem} (W : WF S) (R : MR S ν) (hd : d < nDy S) (h5 : mm S a ≤ 5) (hG : mG S a < 4096) (L : R_mn S d a ν) (h72 : mI ν 1372 0 0 = nI d) (X : R_x S a x ν) (hx : ∀ i, i < mm S a → x i ≤ 9) (hm : isMn S d a K x = true) (A : R_ac S a tg c ν) (o : AcOk c) (hc : c.1.1 < 900000) :
    ∃ ν', M_countMenu ν = some ν' ∧ Fr cntW ν ν' ∧ R_ac S a tg (noteS S d a tg x c) ν' := by
  have hany := any_lt (x := x) W.pg.1 (Nat.le_refl (mm S a))
  have htot := tot_le hx
  have hws := ws_le (x := x) (a := a) W (show d < 10 by have := W.dy.1; omega) (show nTh S ≤ 12 by have := W.th.1; omega)
  have h12 := W.th.1
  obtain ⟨o1, o2, o3, o4, o5, o6, o7, o8⟩ := o
  obtain ⟨ν1, e1, F1, g63⟩ := cntl_M W h5 L X hx A ⟨o1, o2, o3, o4, o5, o6, o7, o8⟩
  obtain ⟨A66, A67, A68, A69, A70, A71, A74, A73⟩ := A
  rw [← F1.i 1366 (by decide)] at A66
  rw [← F1.i 1367 (by decide)] at A67
  rw [← F1.i 1368 (by decide)] at A68
  rw [← F1.i 1369 (by decide)] at A69
  rw [← F1.i 1370 (by decide)] at A70
  rw [← F1.i 1371 (by decide)] at A71
  rw [← F1.i 1374 (by decide), ← F1.i 1375 (by decide), ← F1.i 1376 (by decide)] at A74
  rw [← F1.i 1373 (by decide)] at A73
  unfold M_countMenu
  rw [e1, bS]
  simp only []
  have k1 : (if mI ν1 1366 0 0 = 0 then some (nI (anyN S a x (mm S a))) else some (mI ν1 1367 0 0 &&& nI (anyN S a x (mm S a)))) = some (nI (if c.1.1 = 0 then anyN S a x (mm S a) else c.1.2.1 &&& anyN S a x (mm S a))) := by
    rw [A66, A67, and_n]
    by_cases h : c.1.1 = 0
    · rw [if_pos ((eq0_n (by omega)).mpr h), if_pos h]
    · rw [if_neg (fun z => h ((eq0_n (by omega)).mp z)), if_neg h]
  rw [k1, bS]
  obtain ⟨s1, hs1⟩ : ∃ s, s = mSI ν1 1367 0 0 (nI (if c.1.1 = 0 then anyN S a x (mm S a) else c.1.2.1 &&& anyN S a x (mm S a))) := ⟨_, rfl⟩
  obtain ⟨q1, p1⟩ := st_rd hs1
  rw [← hs1, bS, q1 1368 0 0 (by decide), A68, or_n]
  obtain ⟨s2, hs2⟩ : ∃ s, s = mSI s1 1368 0 0 (nI (c.1.2.2.1 ||| anyN S a x (mm S a))) := ⟨_, rfl⟩
  obtain ⟨q2, p2⟩ := st_rd hs2
  have F2 : Fr [1363, 1367, 1368] ν s2 := by
    rw [hs2, hs1]
    exact fr_si (by simp) (fr_si (by simp) (F1.mono (by simp)))
  have wst : M_wasteNow s2 = some (nI (wsN S d a x (nTh S))) := by
    refine waste_M W (R.fr F2 (by decide)) hd h5 hG ⟨?_, ?_, fun i hi => ⟨?_, ?_, fun t ht => ?_⟩⟩ ?_ (fun i hi => ?_) hx hm
    · rw [F2.i 1364 (by decide)]; exact L.1
    · rw [F2.i 1365 (by decide)]; exact L.2.1
    · rw [F2.i 1359 (by decide)]; exact (L.2.2 i hi).1
    · rw [F2.i 1360 (by decide)]; exact (L.2.2 i hi).2.1
    · rw [F2.i 1361 (by decide)]; exact (L.2.2 i hi).2.2 t ht
    · rw [F2.i 1372 (by decide)]; exact h72
    · rw [F2.i 1362 (by decide)]; exact X i hi
  rw [← hs2, bS, wst, bS]
  obtain ⟨w, hw⟩ : ∃ w, w = wsN S d a x (nTh S) := ⟨_, rfl⟩
  rw [← hw] at hws ⊢
  have k3 : (if mI s2 1366 0 0 = mI s2 1371 0 0 then some (nI w) else some (mI s2 1373 0 0)) = some (if nI c.1.1 = tg then nI w else mI ν1 1373 0 0) := by
    rw [q2 1366 0 0 (by decide), q1 1366 0 0 (by decide), A66, q2 1371 0 0 (by decide), q1 1371 0 0 (by decide), A71, q2 1373 0 0 (by decide), q1 1373 0 0 (by decide)]
    split <;> rfl
  rw [k3, bS]
  obtain ⟨s3, hs3⟩ : ∃ s, s = mSI s2 1373 0 0 (if nI c.1.1 = tg then nI w else mI ν1 1373 0 0) := ⟨_, rfl⟩
  obtain ⟨q3, p3⟩ := st_rd hs3
  rw [← hs3, bS]
  have r3 : ∀ v r cc, v ≠ 1367 → v ≠ 1368 → v ≠ 1373 → mI s3 v r cc = mI ν1 v r cc := fun v r cc h1 h2 h3 => by rw [q3 v r cc h3, q2 v r cc h2, q1 v r cc h1]
  have r66 : mI s3 1366 0 0 = nI c.1.1 := by rw [r3 1366 0 0 (by decide) (by decide) (by decide), A66]
  have r74 : 0 < c.1.1 → mI s3 1374 0 0 = nI c.2.1.2.2 ∧ mI s3 1375 0 0 = nI c.2.1.2.1 ∧ mI s3 1376 0 0 = nI c.2.1.1 := fun h => by
    rw [r3 1374 0 0 (by decide) (by decide) (by decide), r3 1375 0 0 (by decide) (by decide) (by decide), r3 1376 0 0 (by decide) (by decide) (by decide)]
    exact A74 h
  have k4 : ∃ s4, (if mI s3 1366 0 0 = 0 then (some (mSI s3 1374 0 0 (nI w))).bind fun μ10 => (some (mSI μ10 1375 0 0 (mI μ10 1366 0 0))).bind fun μ11 => (some (mSI μ11 1376 0 0 (nI 0))).bind fun μ12 => some μ12 else if nI w < mI s3 1374 0 0 then (some (mSI s3 1374 0 0 (nI w))).bind fun μ13 => (some (mSI μ13 1375 0 0 (mI μ13 1366 0 0))).bind fun μ14 => (some (mSI μ14 1376 0 0 (nI 0))).bind fun μ15 => some μ15 else some s3) = some s4 ∧ Fr [1374, 1375, 1376] s3 s4 ∧ (c.1.1 = 0 ∨ w < c.2.1.2.2 → mI s4 1374 0 0 = nI w ∧ mI s4 1375 0 0 = nI c.1.1 ∧ mI s4 1376 0 0 = nI 0) ∧ (¬ (c.1.1 = 0 ∨ w < c.2.1.2.2) → mI s4 1374 0 0 = nI c.2.1.2.2 ∧ mI s4 1375 0 0 = nI c.2.1.2.1 ∧ mI s4 1376 0 0 = nI c.2.1.1) := by
    have go : (some (mSI s3 1374 0 0 (nI w))).bind (fun μ10 => (some (mSI μ10 1375 0 0 (mI μ10 1366 0 0))).bind fun μ11 => (some (mSI μ11 1376 0 0 (nI 0))).bind fun μ12 => some μ12) = some (mSI (mSI (mSI s3 1374 0 0 (nI w)) 1375 0 0 (nI c.1.1)) 1376 0 0 (nI 0)) := by
      rw [bS, iS_v (show (1366 : Nat) ≠ 1374 by decide), r66, bS, bS]
    have fin : Fr [1374, 1375, 1376] s3 (mSI (mSI (mSI s3 1374 0 0 (nI w)) 1375 0 0 (nI c.1.1)) 1376 0 0 (nI 0)) ∧ mI (mSI (mSI (mSI s3 1374 0 0 (nI w)) 1375 0 0 (nI c.1.1)) 1376 0 0 (nI 0)) 1374 0 0 = nI w ∧ mI (mSI (mSI (mSI s3 1374 0 0 (nI w)) 1375 0 0 (nI c.1.1)) 1376 0 0 (nI 0)) 1375 0 0 = nI c.1.1 ∧ mI (mSI (mSI (mSI s3 1374 0 0 (nI w)) 1375 0 0 (nI c.1.1)) 1376 0 0 (nI 0)) 1376 0 0 = nI 0 :=
      ⟨fr_si (by simp) (fr_si (by simp) (fr_si (by simp) Fr.refl)), (iS_v (by decide)).trans ((iS_v (by decide)).trans iS_eq), (iS_v (by decide)).trans iS_eq, iS_eq⟩
    rw [go]
    by_cases h0 : c.1.1 = 0
    · rw [r66, if_pos ((eq0_n (by omega)).mpr h0)]
      exact ⟨_, rfl, fin.1, fun _ => fin.2, fun z => absurd (Or.inl h0) z⟩
    · rw [r66, if_neg (fun z => h0 ((eq0_n (by omega)).mp z)), (r74 (by omega)).1]
      by_cases h1 : w < c.2.1.2.2
      · rw [if_pos ((lt_n (by omega) (by omega)).mpr h1)]
        exact ⟨_, rfl, fin.1, fun _ => fin.2, fun z => absurd (Or.inr h1) z⟩
      · rw [if_neg (fun z => h1 ((lt_n (by omega) (by omega)).mp z))]
        exact ⟨_, rfl, Fr.refl, fun z => absurd z (fun z => z.elim h0 h1), fun _ => r74 (by omega)⟩
  obtain ⟨s4, k4, F4, v4, v5⟩ := k4
  rw [k4, bS]
  have k5 : (if nI w = mI s4 1374 0 0 then some (nI 1) else some (nI 0)) = some (nI (if (c.1.1 = 0 ∨ w < c.2.1.2.2) ∨ w = c.2.1.2.2 then 1 else 0)) := by
    by_cases h : c.1.1 = 0 ∨ w < c.2.1.2.2
    · rw [(v4 h).1, if_pos rfl, if_pos (Or.inl h)]
    · rw [(v5 h).1]
      by_cases h2 : w = c.2.1.2.2
      · rw [if_pos (congrArg nI h2), if_pos (Or.inr h2)]
      · rw [if_neg (fun z => h2 ((eq_n (by omega) (by omega)).mp z)), if_neg (fun z => z.elim h h2)]
  have k6 : mI s4 1376 0 0 + nI (if (c.1.1 = 0 ∨ w < c.2.1.2.2) ∨ w = c.2.1.2.2 then 1 else 0) = nI (if c.1.1 = 0 ∨ w < c.2.1.2.2 then (1, c.1.1, w) else if w = c.2.1.2.2 then (c.2.1.1 + 1, c.2.1.2.1, c.2.1.2.2) else c.2.1).1 := by
    by_cases h : c.1.1 = 0 ∨ w < c.2.1.2.2
    · rw [(v4 h).2.2, if_pos h, if_pos (Or.inl h), add_n]
    · rw [(v5 h).2.2, if_neg h]
      by_cases h2 : w = c.2.1.2.2
      · rw [if_pos h2, if_pos (Or.inr h2), add_n]
      · rw [if_neg h2, if_neg (fun z => z.elim h h2), add_n]; rfl
  have k7 : mI s4 1374 0 0 = nI (if c.1.1 = 0 ∨ w < c.2.1.2.2 then (1, c.1.1, w) else if w = c.2.1.2.2 then (c.2.1.1 + 1, c.2.1.2.1, c.2.1.2.2) else c.2.1).2.2 ∧ mI s4 1375 0 0 = nI (if c.1.1 = 0 ∨ w < c.2.1.2.2 then (1, c.1.1, w) else if w = c.2.1.2.2 then (c.2.1.1 + 1, c.2.1.2.1, c.2.1.2.2) else c.2.1).2.1 := by
    by_cases h : c.1.1 = 0 ∨ w < c.2.1.2.2
    · rw [if_pos h]; exact ⟨(v4 h).1, (v4 h).2.1⟩
    · rw [if_neg h]
      by_cases h2 : w = c.2.1.2.2
      · rw [if_pos h2]; exact ⟨(v5 h).1, (v5 h).2.1⟩
      · rw [if_neg h2]; exact ⟨(v5 h).1, (v5 h).2.1⟩
  rw [k5, bS, k6]
  obtain ⟨s5, hs5⟩ : ∃ s, s = mSI s4 1376 0 0 (nI (if c.1.1 = 0 ∨ w < c.2.1.2.2 then (1, c.1.1, w) else if w = c.2.1.2.2 then (c.2.1.1 + 1, c.2.1.2.1, c.2.1.2.2) else c.2.1).1) := ⟨_, rfl⟩
  obtain ⟨q5, p5⟩ := st_rd hs5
  have r5 : ∀ v r cc, v ≠ 1367 → v ≠ 1368 → v ≠ 1373 → v ∉ [1374, 1375, 1376] → mI s5 v r cc = mI ν1 v r cc := fun v r cc h1 h2 h3 h4 => by
    rw [q5 v r cc (fun z => h4 (by rw [z]; decide)), F4.i v h4, r3 v r cc h1 h2 h3]
  rw [← hs5, bS, r5 1366 0 0 (by decide) (by decide) (by decide) (by decide), r5 1369 0 0 (by decide) (by decide) (by decide) (by decide), A66, A69]
  have k8 : (if nI c.1.1 = 0 then some (nI (totN x (mm S a))) else some (jMin (if c.1.1 = 0 then -1 else nI c.1.2.2.2.1) (nI (totN x (mm S a))))) = some (nI (if c.1.1 = 0 then totN x (mm S a) else min c.1.2.2.2.1 (totN x (mm S a)))) := by
    by_cases h : c.1.1 = 0
    · rw [if_pos ((eq0_n (by omega)).mpr h), if_pos h]
    · rw [if_neg (fun z => h ((eq0_n (by omega)).mp z)), if_neg h, if_neg h, jMin_n (by omega) (by omega)]
  rw [k8, bS]
  obtain ⟨s6, hs6⟩ : ∃ s, s = mSI s5 1369 0 0 (nI (if c.1.1 = 0 then totN x (mm S a) else min c.1.2.2.2.1 (totN x (mm S a)))) := ⟨_, rfl⟩
  obtain ⟨q6, p6⟩ := st_rd hs6
  rw [← hs6, bS, q6 1370 0 0 (by decide), r5 1370 0 0 (by decide) (by decide) (by decide) (by decide), A70]
  have k9 : jMax (if c.1.1 = 0 then -1 else nI c.1.2.2.2.2) (nI (totN x (mm S a))) = nI (if c.1.1 = 0 then totN x (mm S a) else max c.1.2.2.2.2 (totN x (mm S a))) := by
    by_cases h : c.1.1 = 0
    · rw [if_pos h, if_pos h]; exact if_pos (neg1_lt (by omega))
    · rw [if_neg h, if_neg h, jMax_n (by omega) (by omega)]
  rw [k9]
  obtain ⟨s7, hs7⟩ : ∃ s, s = mSI s6 1370 0 0 (nI (if c.1.1 = 0 then totN x (mm S a) else max c.1.2.2.2.2 (totN x (mm S a)))) := ⟨_, rfl⟩
  obtain ⟨q7, p7⟩ := st_rd hs7
  rw [← hs7, bS, q7 1366 0 0 (by decide), q6 1366 0 0 (by decide), r5 1366 0 0 (by decide) (by decide) (by decide) (by decide), A66, add_n]
  obtain ⟨s8, hs8⟩ : ∃ s, s = mSI s7 1366 0 0 (nI (c.1.1 + 1)) := ⟨_, rfl⟩
  obtain ⟨q8, p8⟩ := st_rd hs8
  rw [← hs8, bS]
  refine ⟨s8, rfl, ?_, ?_⟩
  · rw [hs8, hs7, hs6, hs5]
    refine fr_si (by simp [cntW]) (fr_si (by simp [cntW]) (fr_si (by simp [cntW]) (fr_si (by simp [cntW]) (Fr.trans (b := s3) ?_ (F4.mono (by simp [cntW]))))))
    rw [hs3]
    exact fr_si (by simp [cntW]) (F2.mono (by simp [cntW]))
  · have r8 : ∀ v r cc, v ≠ 1366 → v ≠ 1369 → v ≠ 1370 → mI s8 v r cc = mI s5 v r cc := fun v r cc h1 h2 h3 => by rw [q8 v r cc h1, q7 v r cc h3, q6 v r cc h2]
    unfold noteS
    simp only []
    rw [← hw]
    refine ⟨p8, ?_, ?_, ?_, ?_, ?_, fun _ => ⟨?_, ?_, ?_⟩, fun j hj ht => ⟨?_, fun i hi => ?_⟩⟩
    · rw [r8 1367 0 0 (by decide) (by decide) (by decide), q5 1367 0 0 (by decide), F4.i 1367 (by decide), q3 1367 0 0 (by decide), q2 1367 0 0 (by decide), p1]
    · rw [r8 1368 0 0 (by decide) (by decide) (by decide), q5 1368 0 0 (by decide), F4.i 1368 (by decide), q3 1368 0 0 (by decide), p2]
    · refine Eq.trans ?_ (if_neg (Nat.succ_ne_zero c.1.1)).symm
      rw [q8 1369 0 0 (by decide), q7 1369 0 0 (by decide), p6]
    · refine Eq.trans ?_ (if_neg (Nat.succ_ne_zero c.1.1)).symm
      rw [q8 1370 0 0 (by decide), p7]
    · rw [r8 1371 0 0 (by decide) (by decide) (by decide), r5 1371 0 0 (by decide) (by decide) (by decide) (by decide), A71]
    · rw [r8 1374 0 0 (by decide) (by decide) (by decide), q5 1374 0 0 (by decide), k7.1]
    · rw [r8 1375 0 0 (by decide) (by decide) (by decide), q5 1375 0 0 (by decide), k7.2]
    · rw [r8 1376 0 0 (by decide) (by decide) (by decide), p5]
    · rw [r8 1373 0 0 (by decide) (by decide) (by decide), q5 1373 0 0 (by decide), F4.i 1373 (by decide), p3]
      by_cases h : nI c.1.1 = tg
      · rw [if_pos h, if_pos h]
      · rw [if_neg h, if_neg h]
        have hj : j < c.1.1 + 1 := hj
        have : j < c.1.1 := by
          have : j ≠ c.1.1 := fun z => h (by rw [ht, z])
          omega
        exact (A73 j this ht).1
    · show mI s8 1363 0 i = nI ((if nI c.1.1 = tg then x else c.2.2.2) i)
      rw [r8 1363 0 i (by decide) (by decide) (by decide), r5 1363 0 i (by decide) (by decide) (by decide) (by decide), g63 i hi]
      by_cases h : nI c.1.1 = tg
      · rw [if_pos h, if_pos h]
      · rw [if_neg h, if_neg h]
        have hj : j < c.1.1 + 1 := hj
        have : j < c.1.1 := by
          have : j ≠ c.1.1 := fun z => h (by rw [ht, z])
          omega
        exact (A73 j this ht).2 i hi
