/-! PURE: the class counts menus that are alike but for the last page, the whole step -/
theorem nml_C {S : St} {d a K k : Nat} {tg y2 y3 : Int32} {x : Nat → Nat} {μ : Mem} (W : WF S) (h5 : mm S a ≤ 5) (hkm : k < mm S a) (L : C_mn S d a K tg μ) (hx : ∀ i, i < k → mI μ 607 0 i = nI (x i) ∧ x i ≤ 9) : Menus_noteMenus_l1 (nI k) y2 y3 μ FU (nI 0) (nI 0) (nI 0) = some (nI (anyN S a x k), nI (totN x k)) := by
  have h16 := W.pg.1
  obtain ⟨⟨u, v⟩, e1, e2, e3⟩ : ∃ r : Int32 × Int32, Menus_noteMenus_l1 (nI k) y2 y3 μ FU (nI 0) (nI 0) (nI 0) = some r ∧ r.1 = nI (anyN S a x k) ∧ r.2 = nI (totN x k) := by
    refine loopE (fun f v (s : Int32 × Int32) => Menus_noteMenus_l1 (nI k) y2 y3 μ f s.1 s.2 v) k (fun i s => s.1 = nI (anyN S a x i) ∧ s.2 = nI (totN x i)) _ ?_ ?_ k 0 (nI 0, nI 0) FU (by omega) (FU_lt (by omega)) ⟨rfl, rfl⟩
    · rintro f i ⟨u, v⟩ hi ⟨h1, h2⟩
      simp only at h1 h2
      subst h1 h2
      left
      have hq := (mq_lt (S := S) (a := a) (i := i) (by omega)).1
      obtain ⟨hx1, hx2⟩ := hx i hi
      have p1 : (if 0 < nI (x i) then (mRd μ 603 0 5 (nI i)).bind fun x4 => (some (nI (anyN S a x i) ||| ((nI 1) <<< (x4 &&& 31)))).bind fun x5 => some x5 else some (nI (anyN S a x i))) = some (nI (anyN S a x i ||| (if 0 < x i then 2 ^ mq S a i else 0))) := by
        have : 2 ^ mq S a i < 65536 := Nat.pow_lt_pow_right (a := 2) (m := mq S a i) (n := 16) (by decide) (by omega)
        by_cases h : 0 < x i
        · rw [if_pos ((gt0_n (by omega)).mpr h), if_pos h, rd_n (by omega) (by decide), (L.2.2.2.2 i (by omega)).1, bS, shl_n (by omega) (by omega), Nat.one_mul, or_n, bS]
        · rw [if_neg (fun z => h ((gt0_n (by omega)).mp z)), if_neg h, Nat.or_zero]
      refine ⟨(nI (anyN S a x (i + 1)), nI (totN x (i + 1))), ?_, rfl, rfl⟩
      show Menus_noteMenus_l1b (nI k) y2 y3 μ (Menus_noteMenus_l1 (nI k) y2 y3 μ f) (nI (anyN S a x i)) (nI (totN x i)) (nI i) = _
      unfold Menus_noteMenus_l1b
      rw [if_pos ((lt_n (by omega) (by omega)).mpr hi), rd_n (by omega) (by decide), hx1, bS, add_n, bS, bS, p1, bS, bS, add_n]
      rfl
    · rintro f ⟨u, v⟩ ⟨h1, h2⟩
      refine ⟨(u, v), ?_, h1, h2⟩
      show Menus_noteMenus_l1b (nI k) y2 y3 μ (Menus_noteMenus_l1 (nI k) y2 y3 μ f) u v (nI k) = _
      unfold Menus_noteMenus_l1b
      rw [if_neg (fun z => absurd ((lt_n (by omega) (by omega)).mp z) (by omega))]
  simp only at e2 e3
  subst e2 e3
  exact e1
/-- an ordinal from n to n + j -/
theorem tg_in {tg : Int32} {n j : Nat} (hn : n ≤ 900000) (hj : j ≤ 9) (h1 : ¬ tg < nI n) (h2 : ¬ nI (n + j) < tg) : ∃ i, i ≤ j ∧ tg = nI (n + i) := by
  have e1 := nI_toInt (n := n) (by omega)
  rcases arg_n tg (n + j + 1) (by omega) with (h | h) | ⟨i, hi, rfl⟩
  · refine absurd ?_ h1
    rw [Int32.lt_iff_toInt_lt] at h ⊢
    have e0 : (0 : Int32).toInt = 0 := by decide
    omega
  · refine absurd ?_ h2
    rw [Int32.le_iff_toInt_le, nI_toInt (by omega)] at h
    rw [Int32.lt_iff_toInt_lt, nI_toInt (by omega)]
    omega
  · have h3 : ¬ i < n := fun z => h1 ((lt_n (by omega) (by omega)).mpr z)
    exact ⟨i - n, by omega, by rw [show n + (i - n) = i by omega]⟩
theorem noteWaste_C {S : St} {d a K k u r : Nat} {tg : Int32} {x : Nat → Nat} {c : AcT} {μ : Mem} (W : WF S) (hd : d < nDy S) (h5 : mm S a ≤ 5) (hk : k + 1 = mm S a) (hur : u ≤ r) (hr9 : r ≤ 9) (hr : ∀ t, t < 12 → usN S d a x t k + mN S d a k t * r ≤ sN S 105 d t) (L : C_mn S d a K tg μ) (P : C_sp S d (fun t => usN S d a x t k) μ) (hU : ∀ t, t < 12 → usN S d a x t k ≤ sN S 105 d t) (hx : ∀ i, i < k → mI μ 607 0 i = nI (x i)) (N : mI μ 609 0 0 = nI c.1.1) (A : 0 < c.1.1 → mI μ 609 0 7 = nI c.2.1.2.2 ∧ mI μ 609 0 6 = nI c.2.1.2.1 ∧ mI μ 609 0 5 = nI c.2.1.1) (Z : mI μ 609 0 5 = 0 ↔ c.1.1 = 0) (o : AcOk c) :
    ∃ μ', Menus_noteWaste (nI k) (nI u) (nI r) μ = some μ' ∧ Fr [608, 609, 614] μ μ' ∧ (∀ e, e < 5 → mI μ' 609 0 e = mI μ 609 0 e) ∧ (mI μ' 609 0 7 = nI (lnS (c.1.1 + (r - u)) (ovN S d a k x 12 - r * eaN S d a k 12) c).2.2 ∧ mI μ' 609 0 6 = nI (lnS (c.1.1 + (r - u)) (ovN S d a k x 12 - r * eaN S d a k 12) c).2.1 ∧ mI μ' 609 0 5 = nI (lnS (c.1.1 + (r - u)) (ovN S d a k x 12 - r * eaN S d a k 12) c).1) ∧
      (∀ i, i ≤ r - u → tg = nI (c.1.1 + i) → mI μ' 614 0 0 = nI (ovN S d a k x 12 - (u + i) * eaN S d a k 12) ∧ ∀ q, q < mm S a → mI μ' 608 0 q = nI (upX x k (u + i) q)) ∧
      ((∀ i, i ≤ r - u → ¬ tg = nI (c.1.1 + i)) → mI μ' 614 = mI μ 614 ∧ mI μ' 608 = mI μ 608) := by
  have h10 := W.dy.1
  have h12 := W.th.1
  have hea := ea_le (d := d) W (show k < mm S a by omega) 12
  have hov := ov_le (a := a) (k := k) (x := x) W (show d < 10 by omega) (t := 12) (Nat.le_refl _)
  obtain ⟨o1, -, -, -, -, -, -, o8⟩ := o
  have hrE : r * eaN S d a k 12 ≤ ovN S d a k x 12 := by
    have := ws_up (v := r) hk hr (T := 12) (Nat.le_refl _)
    omega
  have hE : ∀ i, u + i ≤ r → (u + i) * eaN S d a k 12 ≤ ovN S d a k x 12 := fun i hi => Nat.le_trans (Nat.mul_le_mul_right _ hi) hrE
  obtain ⟨E, hEE⟩ : ∃ E, E = eaN S d a k 12 := ⟨_, rfl⟩
  obtain ⟨O, hO⟩ : ∃ O, O = ovN S d a k x 12 := ⟨_, rfl⟩
  have e1 := nwl_C (y2 := nI u) (y3 := nI r) (y4 := nI c.1.1) W hd h5 (show k < mm S a by omega) L P hU
  rw [← hEE, ← hO] at e1
  rw [← hEE, ← hO] at hrE
  rw [← hEE, ← hO] at hE
  rw [← hO] at hov
  rw [← hEE, ← hO]
  obtain ⟨s1, b1, b2, b3, b4⟩ := noteLean_C (n := c.1.1 + (r - u)) (w := O - r * E) (c := c) (μ := μ) (by omega) A Z (by omega)
  have e613 : mI s1 613 0 0 = tg := by rw [b2.i 613 (by decide)]; exact L.2.2.2.1
  unfold Menus_noteWaste
  rw [rd_n (by decide) (by decide), N, bS, e1, bS]
  simp only []
  rw [add_n, sub_n (show u ≤ c.1.1 + r by omega), mul_n, sub_n hrE, show c.1.1 + r - u = c.1.1 + (r - u) by omega, b1, bS, e613]
  by_cases h1 : tg < nI c.1.1
  · rw [if_pos h1]
    refine ⟨s1, rfl, b2.mono (by simp), b3, b4, fun i hi ht => ?_, fun _ => ⟨b2.i 614 (by decide), b2.i 608 (by decide)⟩⟩
    rw [ht] at h1
    exact absurd ((lt_n (by omega) (by omega)).mp h1) (by omega)
  · rw [if_neg h1]
    by_cases h2 : nI (c.1.1 + (r - u)) < tg
    · rw [if_pos h2]
      refine ⟨s1, rfl, b2.mono (by simp), b3, b4, fun i hi ht => ?_, fun _ => ⟨b2.i 614 (by decide), b2.i 608 (by decide)⟩⟩
      rw [ht] at h2
      exact absurd ((lt_n (by omega) (by omega)).mp h2) (by omega)
    · rw [if_neg h2]
      obtain ⟨i, hi, ht⟩ := tg_in o1 (by omega) h1 h2
      have F1 : Fr [608] s1 (mCP s1 607 0 608 0 5) := cp_fr (by simp) Fr.refl
      rw [bS, F1.i 613 (by decide), e613, ht, add_n, sub_n (show c.1.1 ≤ u + (c.1.1 + i) by omega), show u + (c.1.1 + i) - c.1.1 = u + i by omega, wr_n (by omega) (by decide), bS, rd_n (by omega) (by decide), iS_eq, bS, mul_n, sub_n (hE i (by omega)), bS]
      have F2 : Fr [608, 614] s1 (mSI (mSI (mCP s1 607 0 608 0 5) 608 0 k (nI (u + i))) 614 0 0 (nI (O - (u + i) * E))) := fr_si (by simp) (fr_si (by simp) (F1.mono (by simp)))
      refine ⟨_, rfl, (b2.mono (by simp)).trans (F2.mono (by simp)), fun e he => by rw [F2.i 609 (by decide)]; exact b3 e he, ⟨?_, ?_, ?_⟩, fun i' hi' ht' => ?_, fun h => absurd rfl (h i hi)⟩
      · rw [F2.i 609 (by decide)]; exact b4.1
      · rw [F2.i 609 (by decide)]; exact b4.2.1
      · rw [F2.i 609 (by decide)]; exact b4.2.2
      · have hii : i' = i := by
          have := (eq_n (by omega) (by omega)).mp ht'
          omega
        subst hii
        refine ⟨iS_eq, fun q hq => ?_⟩
        rw [iS_v (show (608 : Nat) ≠ 614 by decide)]
        by_cases e : q = k
        · subst e; rw [iS_eq, upX_eq]
        · rw [iS_c e, cp_to (by omega), b2.i 607 (by decide), hx q (by omega), upX_lt (by omega)]
theorem noteMenus_C {S : St} {d a K k u r : Nat} {tg : Int32} {x : Nat → Nat} {c : AcT} {μ : Mem} (W : WF S) (hd : d < nDy S) (h5 : mm S a ≤ 5) (hk : k + 1 = mm S a) (hur : u ≤ r) (hr9 : r ≤ 9) (hr : ∀ t, t < 12 → usN S d a x t k + mN S d a k t * r ≤ sN S 105 d t) (hE : 0 < r → 0 < eaN S d a k 12) (L : C_mn S d a K tg μ) (P : C_sp S d (fun t => usN S d a x t k) μ) (hU : ∀ t, t < 12 → usN S d a x t k ≤ sN S 105 d t) (hx : ∀ i, i < k → mI μ 607 0 i = nI (x i) ∧ x i ≤ 9) (A : C_ac S a tg c μ) (o : AcOk c) (hc : c.1.1 + (r - u) + 1 ≤ 900000) :
    ∃ μ', Menus_noteMenus (nI k) (nI u) (nI r) μ = some μ' ∧ Fr [608, 609, 614] μ μ' ∧ C_ac S a tg (fo (fun v e => noteS S d a tg (upX x k v) e) u (r - u + 1) c) μ' ∧ AcOk (fo (fun v e => noteS S d a tg (upX x k v) e) u (r - u + 1) c) ∧ (fo (fun v e => noteS S d a tg (upX x k v) e) u (r - u + 1) c).1.1 = c.1.1 + (r - u) + 1 := by
  have h16 := W.pg.1
  have hq := (mq_lt (S := S) (a := a) (i := k) (by omega)).1
  have hp16 : 2 ^ mq S a k < 65536 := Nat.pow_lt_pow_right (a := 2) (m := mq S a k) (n := 16) (by decide) (by omega)
  have htot := tot_le (x := x) (k := k) fun i hi => (hx i hi).2
  obtain ⟨⟨g1, g2, g3, g4, g5, g6, g7, g8⟩, oe⟩ := blk_ok (tg := tg) (x := x) (c := c) W hd h5 hk hr9 (fun i hi => (hx i hi).2) hr hE o u (r - u) (by omega) hc
  obtain ⟨e, he⟩ : ∃ e, e = fo (fun v e => noteS S d a tg (upX x k v) e) u (r - u + 1) c := ⟨_, rfl⟩
  rw [← he] at g1 g2 g3 g4 g5 g6 g7 g8 oe ⊢
  rw [show u + (r - u) = r by omega] at g3 g5 g6
  have hl := nml_C (y2 := nI u) (y3 := nI r) W h5 (show k < mm S a by omega) L hx
  have o' := o
  obtain ⟨o1, o2, o3, o4, o5, o6, o7, o8⟩ := o
  obtain ⟨A1, A2, A3, A4, A5, A6, A7, A8⟩ := A
  have bit : ∀ v, v ≤ 9 → (if 0 < nI v then some (nI (anyN S a x k) ||| nI (2 ^ mq S a k)) else some (nI (anyN S a x k))) = some (nI (avN S a k x v)) := by
    intro v hv
    unfold avN
    by_cases h : 0 < v
    · rw [if_pos ((gt0_n (by omega)).mpr h), if_pos h, or_n]
    · rw [if_neg (fun z => h ((gt0_n (by omega)).mp z)), if_neg h, Nat.or_zero]
  unfold Menus_noteMenus
  rw [if_neg (fun z => absurd ((lt_n (by omega) (by omega)).mp z) (by omega)), hl, bS]
  simp only []
  rw [rd_n (by omega) (by decide), (L.2.2.2.2 k (by omega)).1, bS, shl_n (by omega) (by omega), Nat.one_mul, bS, bit u (by omega), bS, rd_n (by decide) (by decide), A1, bS]
  have k1 : (if nI c.1.1 = 0 then some (nI (avN S a k x u)) else (mRd μ 609 0 8 (nI 1)).bind fun x7 => some (x7 &&& nI (avN S a k x u))) = some (nI e.1.2.1) := by
    rw [g2]
    by_cases h : c.1.1 = 0
    · rw [if_pos ((eq0_n (by omega)).mpr h), if_pos h]
    · rw [if_neg (fun z => h ((eq0_n (by omega)).mp z)), if_neg h, rd_n (by decide) (by decide), A2, bS, and_n]
  rw [k1, bS, wr_n (by decide) (by decide), bS]
  obtain ⟨s1, hs1⟩ : ∃ s, s = mSI μ 609 0 1 (nI e.1.2.1) := ⟨_, rfl⟩
  obtain ⟨-, q1, p1⟩ := st_rc hs1
  rw [← hs1, rd_n (by decide) (by decide), q1 2 (by decide), A3, bS, bit r (by omega), bS, or_n, ← g3, wr_n (by decide) (by decide), bS]
  obtain ⟨s2, hs2⟩ : ∃ s, s = mSI s1 609 0 2 (nI e.1.2.2.1) := ⟨_, rfl⟩
  obtain ⟨-, q2, p2⟩ := st_rc hs2
  rw [← hs2]
  have k2 : (if nI c.1.1 = 0 then some (nI (totN x k) + nI u) else (mRd s2 609 0 8 (nI 3)).bind fun x13 => some (jMin x13 (nI (totN x k) + nI u))) = some (nI e.1.2.2.2.1) := by
    rw [g4, add_n]
    by_cases h : c.1.1 = 0
    · rw [if_pos ((eq0_n (by omega)).mpr h), if_pos h]
    · rw [if_neg (fun z => h ((eq0_n (by omega)).mp z)), if_neg h, rd_n (by decide) (by decide), q2 3 (by decide), q1 3 (by decide), A4, bS, if_neg h, jMin_n (by omega) (by omega)]
  rw [k2, bS, wr_n (by decide) (by decide), bS]
  obtain ⟨s3, hs3⟩ : ∃ s, s = mSI s2 609 0 3 (nI e.1.2.2.2.1) := ⟨_, rfl⟩
  obtain ⟨-, q3, p3⟩ := st_rc hs3
  have k3 : jMax (if c.1.1 = 0 then -1 else nI c.1.2.2.2.2) (nI (totN x k + r)) = nI e.1.2.2.2.2 := by
    rw [g5]
    by_cases h : c.1.1 = 0
    · rw [if_pos h, if_pos h]; exact if_pos (neg1_lt (by omega))
    · rw [if_neg h, if_neg h, jMax_n (by omega) (by omega)]
  rw [← hs3, rd_n (by decide) (by decide), q3 4 (by decide), q2 4 (by decide), q1 4 (by decide), A5, bS, add_n, k3, wr_n (by decide) (by decide), bS]
  obtain ⟨s4, hs4⟩ : ∃ s, s = mSI s3 609 0 4 (nI e.1.2.2.2.2) := ⟨_, rfl⟩
  obtain ⟨-, q4, p4⟩ := st_rc hs4
  rw [← hs4]
  have F4 : Fr [609] μ s4 := by
    rw [hs4, hs3, hs2, hs1]
    exact fr_si (by simp) (fr_si (by simp) (fr_si (by simp) (fr_si (by simp) Fr.refl)))
  have r5 : ∀ i, i = 0 ∨ 5 ≤ i → mI s4 609 0 i = mI μ 609 0 i := fun i hi => by rw [q4 i (by omega), q3 i (by omega), q2 i (by omega), q1 i (by omega)]
  obtain ⟨s5, b1, b2, b3, ⟨b4, b5, b6⟩, b7, b8⟩ := noteWaste_C (u := u) (r := r) (x := x) (c := c) W hd h5 hk hur hr9 hr (L.W F4 (by decide)) (fun t ht => by rw [F4.i 606 (by decide)]; exact P t ht) hU (fun i hi => by rw [F4.i 607 (by decide)]; exact (hx i hi).1) (by rw [r5 0 (by omega)]; exact A1) (fun h => by rw [r5 7 (by omega), r5 6 (by omega), r5 5 (by omega)]; exact A6 h) (by rw [r5 5 (by omega)]; exact A8) o'
  rw [b1, bS, add_n, sub_n (show u ≤ c.1.1 + r by omega), add_n, show c.1.1 + r - u + 1 = e.1.1 by omega, wr_n (by decide) (by decide), bS]
  obtain ⟨s6, hs6⟩ : ∃ s, s = mSI s5 609 0 0 (nI e.1.1) := ⟨_, rfl⟩
  obtain ⟨q6', q6, p6⟩ := st_rc hs6
  rw [← hs6]
  have hen : ¬ e.1.1 = 0 := by omega
  refine ⟨s6, rfl, ?_, ⟨p6, ?_, ?_, ?_, ?_, fun _ => ⟨?_, ?_, ?_⟩, fun j hj ht => ?_, ?_⟩, oe, g1⟩
  · rw [hs6]; exact fr_si (by simp) ((F4.mono (by simp)).trans b2)
  · rw [q6 1 (by decide), b3 1 (by decide), q4 1 (by decide), q3 1 (by decide), q2 1 (by decide), p1]
  · rw [q6 2 (by decide), b3 2 (by decide), q4 2 (by decide), q3 2 (by decide), p2]
  · rw [q6 3 (by decide), b3 3 (by decide), q4 3 (by decide), p3, if_neg hen]
  · rw [q6 4 (by decide), b3 4 (by decide), p4, if_neg hen]
  · rw [q6 7 (by decide), b4, g6]
  · rw [q6 6 (by decide), b5, g6]
  · rw [q6 5 (by decide), b6, g6]
  · rw [q6' 614 0 0 (by decide)]
    by_cases h : ∃ i, i ≤ r - u ∧ tg = nI (c.1.1 + i)
    · obtain ⟨i, hi, h⟩ := h
      obtain ⟨z1, z2⟩ := b7 i hi h
      obtain ⟨y1, y2⟩ := g7 i hi h
      rw [y1, y2]
      exact ⟨z1, fun q hq => by rw [q6' 608 0 q (by decide)]; exact z2 q hq⟩
    · have h' : ∀ i, i ≤ r - u → ¬ tg = nI (c.1.1 + i) := fun i hi z => h ⟨i, hi, z⟩
      obtain ⟨z1, z2⟩ := b8 h'
      have hjc : j < c.1.1 := by
        refine Classical.byContradiction fun z => h' (j - c.1.1) (by omega) ?_
        rw [show c.1.1 + (j - c.1.1) = j by omega]
        exact ht
      obtain ⟨y1, y2⟩ := A7 j hjc ht
      rw [g8 h', z1, F4.i 614 (by decide)]
      exact ⟨y1, fun q hq => by rw [q6' 608 0 q (by decide), z2, F4.i 608 (by decide)]; exact y2 q hq⟩
  · rw [q6 5 (by decide), b6]
    refine ⟨fun z => ?_, fun z => absurd z hen⟩
    have hb : (lnS (c.1.1 + (r - u)) (ovN S d a k x 12 - r * eaN S d a k 12) c).1 ≤ 900001 := by
      unfold lnS
      split
      · show 1 ≤ _; omega
      · split
        · show c.2.1.1 + 1 ≤ _; omega
        · omega
    have hz := (eq0_n (by omega)).mp z
    have hpos : 0 < (lnS (c.1.1 + (r - u)) (ovN S d a k x 12 - r * eaN S d a k 12) c).1 := by
      unfold lnS
      by_cases h0 : c.1.1 = 0 ∨ ovN S d a k x 12 - r * eaN S d a k 12 < c.2.1.2.2
      · rw [if_pos h0]; show 0 < 1; omega
      · rw [if_neg h0]
        split
        · show 0 < c.2.1.1 + 1; omega
        · have hc0 : ¬ c.1.1 = 0 := fun z => h0 (Or.inl z)
          have a5 := (A6 (by omega)).2.2
          refine Classical.byContradiction fun y => hc0 (A8.mp ?_)
          rw [a5, show c.2.1.1 = 0 by omega]
          rfl
    omega
/-- no room: no menu comes of it -/
theorem dead1 {S : St} {d a K k m v t : Nat} {tg : Int32} {x : Nat → Nat} (W : WF S) (hk : k + (m + 1) = mm S a) (ht : t < 12) (hu : usN S d a x t k ≤ sN S 105 d t) (h : sN S 105 d t < usN S d a x t k + mN S d a k t * v) (c : AcT) : skS (mcap S d a) (leafS S d a K tg) m (k + 1) (upX x k v) c = c := by
  refine sk_id (fun x' hc c => ?_) c
  unfold leafS
  have hn : 0 < mN S d a k t := by
    rcases Nat.eq_zero_or_pos (mN S d a k t) with e | e
    · rw [e, Nat.zero_mul] at h; omega
    · exact e
  have hb := mN_bit W (show k < mm S a by omega) hn
  rw [if_neg fun z => ?_]
  have h1 := (isMn_iff.mp z t (mG_th W hb) hb).1
  have h2 : usN S d a x' t (k + 1) ≤ usN S d a x' t (mm S a) := us_mono (by omega)
  rw [us_congr (y := upX x k v) (fun i hi => hc.1 i hi), up_us, Nat.mul_comm] at h2
  omega
