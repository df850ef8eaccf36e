/-! PURE: the loop of the reference over the places of a menu -/
theorem cntl_M {S : St} {d a : Nat} {tg : Int32} {x : Nat → Nat} {c : AcT} {ν : Mem} (W : WF S) (h5 : mm S a ≤ 5) (L : R_mn S d a ν) (X : R_x S a x ν) (hx : ∀ i, i < mm S a → x i ≤ 9) (A : R_ac S a tg c ν) (o : AcOk c) :
    ∃ ν', M_countMenu_l1 FU (nI 0) (nI 0) (nI 0) ν = some (nI (anyN S a x (mm S a)), nI (totN x (mm S a)), ν') ∧ Fr [1363] ν ν' ∧ ∀ i, i < mm S a → mI ν' 1363 0 i = if nI c.1.1 = tg then nI (x i) else mI ν 1363 0 i := by
  have h16 := W.pg.1
  obtain ⟨⟨u, v, ν'⟩, e1, e2, e3, e4, e5⟩ : ∃ r : Int32 × Int32 × Mem, M_countMenu_l1 FU (nI 0) (nI 0) (nI 0) ν = some r ∧ r.1 = nI (anyN S a x (mm S a)) ∧ r.2.1 = nI (totN x (mm S a)) ∧ Fr [1363] ν r.2.2 ∧ ∀ i, i < mm S a → mI r.2.2 1363 0 i = if nI c.1.1 = tg then nI (x i) else mI ν 1363 0 i := by
    refine loopE (fun f v (s : Int32 × Int32 × Mem) => M_countMenu_l1 f s.1 s.2.1 v s.2.2) (mm S a) (fun k s => s.1 = nI (anyN S a x k) ∧ s.2.1 = nI (totN x k) ∧ Fr [1363] ν s.2.2 ∧ ∀ i, mI s.2.2 1363 0 i = if i < k ∧ nI c.1.1 = tg then nI (x i) else mI ν 1363 0 i) (fun r => r.1 = nI (anyN S a x (mm S a)) ∧ r.2.1 = nI (totN x (mm S a)) ∧ Fr [1363] ν r.2.2 ∧ ∀ i, i < mm S a → mI r.2.2 1363 0 i = if nI c.1.1 = tg then nI (x i) else mI ν 1363 0 i) ?_ ?_ (mm S a) 0 (nI 0, nI 0, ν) FU (by omega) (FU_lt (by omega)) ⟨rfl, rfl, Fr.refl, fun i => by rw [if_neg (fun z => absurd z.1 (by omega))]⟩
    · rintro f k ⟨u, v, s⟩ hk ⟨h1, h2, F, h4⟩
      simp only at h1 h2 F h4
      subst h1 h2
      left
      have hq := (mq_lt (S := S) (a := a) hk).1
      have f64 : mI s 1364 0 0 = nI (mm S a) := by rw [F.i 1364 (by decide)]; exact L.1
      have f62 : mI s 1362 0 k = nI (x k) := by rw [F.i 1362 (by decide)]; exact X k hk
      have f59 : mI s 1359 0 k = nI (mq S a k) := by rw [F.i 1359 (by decide)]; exact (L.2.2 k hk).1
      have f66 : mI s 1366 0 0 = nI c.1.1 := by rw [F.i 1366 (by decide)]; exact A.1
      have f71 : mI s 1371 0 0 = tg := by rw [F.i 1371 (by decide)]; exact A.2.2.2.2.2.1
      have f63 : mI s 1363 0 k = mI ν 1363 0 k := by rw [h4 k, if_neg (fun z => absurd z.1 (by omega))]
      have hxk := hx k hk
      have p1 : (if 0 < nI (x k) then (mRd s 1359 0 5 (nI k)).bind fun x2 => some ((nI 1) <<< (x2 &&& 31)) else some (nI 0)) = some (nI (if 0 < x k then 2 ^ mq S a k else 0)) := by
        have : 2 ^ mq S a k < 65536 := Nat.pow_lt_pow_right (a := 2) (m := mq S a k) (n := 16) (by decide) (by omega)
        by_cases h : 0 < x k
        · rw [if_pos ((gt0_n (by omega)).mpr h), if_pos h, rd_n (by omega) (by decide), f59, bS, shl_n (by omega) (by omega), Nat.one_mul]
        · rw [if_neg (fun z => h ((gt0_n (by omega)).mp z)), if_neg h]
      have p2 : (if nI c.1.1 = tg then (mRd s 1362 0 5 (nI k)).bind fun x8 => some x8 else (mRd s 1363 0 5 (nI k)).bind fun x7 => some x7) = some (if nI c.1.1 = tg then nI (x k) else mI ν 1363 0 k) := by
        by_cases h : nI c.1.1 = tg
        · rw [if_pos h, if_pos h, rd_n (by omega) (by decide), f62, bS]
        · rw [if_neg h, if_neg h, rd_n (by omega) (by decide), f63, bS]
      refine ⟨(nI (anyN S a x (k + 1)), nI (totN x (k + 1)), mSI s 1363 0 k (if nI c.1.1 = tg then nI (x k) else mI ν 1363 0 k)), ?_, rfl, rfl, fr_si (by simp) F, fun i => ?_⟩
      · show M_countMenu_l1b (M_countMenu_l1 f) (nI (anyN S a x k)) (nI (totN x k)) (nI k) s = _
        unfold M_countMenu_l1b
        rw [f64, if_pos ((lt_n (by omega) (by omega)).mpr hk), rd_n (by omega) (by decide), f62, bS, p1, bS, or_n, bS, bS, add_n, bS, f66, f71]
        have p3 : (if nI c.1.1 = tg then (some (nI (x k))).bind fun x8 => some x8 else (mRd s 1363 0 5 (nI k)).bind fun x7 => some x7) = some (if nI c.1.1 = tg then nI (x k) else mI ν 1363 0 k) := by
          by_cases h : nI c.1.1 = tg
          · rw [if_pos h, if_pos h, bS]
          · rw [if_neg h, if_neg h, rd_n (by omega) (by decide), f63, bS]
        rw [p3, bS, wr_n (by omega) (by decide), bS, bS, add_n]
        rfl
      · by_cases e : i = k
        · subst e
          refine iS_eq.trans ?_
          by_cases h : nI c.1.1 = tg
          · rw [if_pos h, if_pos ⟨by omega, h⟩]
          · rw [if_neg h, if_neg (fun z => h z.2)]
        · refine (iS_c e).trans ((h4 i).trans ?_)
          by_cases h : i < k ∧ nI c.1.1 = tg
          · rw [if_pos h, if_pos ⟨by omega, h.2⟩]
          · rw [if_neg h, if_neg (fun z => h ⟨by omega, z.2⟩)]
    · rintro f ⟨u, v, s⟩ ⟨h1, h2, F, h4⟩
      refine ⟨(u, v, s), ?_, h1, h2, F, fun i hi => ?_⟩
      · show M_countMenu_l1b (M_countMenu_l1 f) u v (nI (mm S a)) s = _
        unfold M_countMenu_l1b
        rw [show mI s 1364 0 0 = nI (mm S a) by rw [F.i 1364 (by decide)]; exact L.1, if_neg (fun z => absurd ((lt_n (by omega) (by omega)).mp z) (by omega))]
      · rw [h4 i]
        by_cases h : nI c.1.1 = tg
        · rw [if_pos ⟨hi, h⟩, if_pos h]
        · rw [if_neg (fun z => h z.2), if_neg h]
  simp only at e2 e3 e4 e5
  subst e2 e3
  exact ⟨ν', e1, e4, e5⟩
