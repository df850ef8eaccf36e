/-! PURE: the pages of a menu are laid out, in the reference -/
def fl (a p : Nat) : List Nat := (List.range p).filter fun q => a.testBit q
theorem fl_s {a p : Nat} : fl a (p + 1) = fl a p ++ (if a.testBit p then [p] else []) := by
  unfold fl
  rw [List.range_succ, List.filter_append]
  cases h : a.testBit p with
  | false => simp [h]
  | true => simp [h]
theorem fl_pre {a p : Nat} : ∀ k, ∃ s, fl a (p + k) = fl a p ++ s := by
  intro k
  induction k with
  | zero => exact ⟨[], by rw [List.append_nil]; rfl⟩
  | succ k ih =>
    obtain ⟨s, h⟩ := ih
    refine ⟨s ++ (if a.testBit (p + k) then [p + k] else []), ?_⟩
    rw [← Nat.add_assoc, fl_s, h, List.append_assoc]
theorem fl_len {S : St} {a p : Nat} (h : p ≤ nPg S) : (fl a p).length ≤ mm S a := by
  obtain ⟨s, hs⟩ := fl_pre (a := a) (p := p) (nPg S - p)
  rw [show p + (nPg S - p) = nPg S by omega] at hs
  show _ ≤ (fl a (nPg S)).length
  rw [hs, List.length_append]
  omega
theorem fl_at {S : St} {a p : Nat} (h : p < nPg S) (hb : a.testBit p = true) : (fl a p).length < mm S a ∧ mq S a (fl a p).length = p := by
  have h1 := fl_len (S := S) (a := a) (show p + 1 ≤ nPg S by omega)
  obtain ⟨s, hs⟩ := fl_pre (a := a) (p := p + 1) (nPg S - (p + 1))
  rw [show p + 1 + (nPg S - (p + 1)) = nPg S by omega] at hs
  rw [fl_s, if_pos hb] at h1 hs
  rw [List.length_append] at h1
  refine ⟨by simp at h1; omega, ?_⟩
  unfold mq
  show (fl a (nPg S)).getD _ 0 = p
  rw [hs, List.append_assoc, List.getD_eq_getElem?_getD, List.getElem?_append_right (Nat.le_refl _), Nat.sub_self]
  rfl
def flG (S : St) (l : List Nat) : Nat := l.foldl (fun g p => g ||| sN S 706 0 p) 0
theorem flG_s {S : St} {a p : Nat} (hb : a.testBit p = true) : flG S (fl a (p + 1)) = flG S (fl a p) ||| sN S 706 0 p := by
  rw [fl_s, if_pos hb]
  unfold flG
  rw [List.foldl_append]; rfl
theorem fl_n {a p : Nat} (hb : a.testBit p = false) : fl a (p + 1) = fl a p := by
  rw [fl_s, hb]
  exact List.append_nil _
theorem flG_lt {S : St} {a : Nat} (W : WF S) : ∀ {p : Nat}, p ≤ nPg S → flG S (fl a p) < 4096 := by
  intro p
  induction p with
  | zero => intro _; show 0 < 4096; omega
  | succ p ih =>
    intro h
    have h1 := ih (by omega)
    cases hb : a.testBit p with
    | false => rw [fl_n hb]; exact h1
    | true => rw [flG_s hb]; exact Nat.or_lt_two_pow (n := 12) h1 (W.pg.2.1 p (by omega)).2.2.2.1.1
theorem mG_lt {S : St} {a : Nat} (W : WF S) : mG S a < 4096 := flG_lt (a := a) W (Nat.le_refl (nPg S))
theorem ct_dl {S : St} {p : Nat} (h : ctB S p = true) : told S p ∧ (dl S p)[0]? = some (dx S p 0) := by
  have h : cntI S p = nI 1 := of_decide_eq_true h
  by_cases ht : told S p
  · rw [cnt_told ht] at h
    have h5 := dl_le ht
    have := (eq_n (by omega) (by omega)).mp h
    exact ⟨ht, dx_at (by omega)⟩
  · rw [cnt_not ht] at h
    exact absurd h (by decide)
theorem srv_ct {S : St} {d p : Nat} (h : srvB S d p = true) : ctB S p = true := by
  unfold srvB at h
  rw [Bool.and_eq_true, Bool.and_eq_true] at h
  exact h.2.2
theorem served_M2 {S : St} {d p : Nat} {ν : Mem} (W : WF S) (R : MR S ν) (hd : d < nDy S) (hp : p < nPg S) : ∃ ν', M_mayBe (nI d) (nI p) ν = some (nI (srvB S d p).toNat, ν') ∧ MR S ν' ∧ Fr fndW ν ν' ∧ (srvB S d p = true → Fnd S p ν') := by
  have h16 := W.pg.1
  have h10 := W.dy.1
  obtain ⟨wd, wd4⟩ := W.dy.2.1 d hd
  obtain ⟨c3, c4⟩ := R.dy.2.1 d hd
  have hlt := mnS_lt (S := S) (p := p) (k := mT S p)
  have tail : ∃ ν', ((M_findDishes (nI p) ν).bind fun (x7, μ8) => if x7 = 0 then (mRz (nI 0)).bind fun z => some (z, μ8) else if (mI μ8 1342 0 0) = (nI 1) then (mRz (nI 1)).bind fun z => some (z, μ8) else (mRz (nI 0)).bind fun z => some (z, μ8)) = some (nI (ctB S p).toNat, ν') ∧ MR S ν' ∧ Fr fndW ν ν' ∧ (ctB S p = true → Fnd S p ν') := by
    by_cases ht : told S p
    · obtain ⟨ν1, b1, b2, b3, b4⟩ := (find_M W R hp).1 ht
      have h5 := dl_le ht
      refine ⟨ν1, ?_, b2, b4, fun _ => b3⟩
      rw [b1, bS]
      simp only []
      rw [if_neg n10, b3.1]
      unfold ctB
      rw [cnt_told ht]
      by_cases h : nI (dl S p).length = nI 1
      · rw [if_pos h, decide_eq_true h, rz_1, bS]; rfl
      · rw [if_neg h, decide_eq_false h, rz_0, bS]; rfl
    · obtain ⟨ν1, b1, b2, b4⟩ := (find_M W R hp).2 ht
      refine ⟨ν1, ?_, b2, b4, fun z => absurd (ct_dl z).1 ht⟩
      rw [b1, bS]
      simp only []
      rw [if_pos z00, rz_0, bS]
      unfold ctB
      rw [cnt_not ht]; rfl
  obtain ⟨ν', t1, t2, t3, t4⟩ := tail
  unfold M_mayBe kj
  simp only []
  rw [months_M W ⟨R.pg, R.th⟩ hp, bS, rd_n (by omega) (by decide), c3, bS, sub_n wd.1, mhas (by omega) (by omega), bS]
  show ∃ ν', (if nI (onB S d p).toNat = 0 then _ else _) = _ ∧ _
  unfold srvB
  cases h : onB S d p with
  | false => rw [if_pos (show nI false.toNat = 0 from rfl), rz_0, bS, Bool.false_and]; exact ⟨ν, rfl, R, Fr.refl, fun z => nomatch z⟩
  | true =>
    rw [if_neg (show ¬ nI true.toNat = 0 from n10), Bool.true_and, rd_n (by omega) (by decide), c4, bS]
    rcases (show sN S 104 0 d = 0 ∨ sN S 104 0 d = 1 by omega) with h4 | h4
    · rw [h4, if_pos z00]
      refine ⟨ν', ?_, t2, t3, ?_⟩
      · rw [show decide ((0 : Nat) = 1) = false from rfl, Bool.false_and, Bool.not_false, Bool.true_and]
        exact t1
      · rw [show decide ((0 : Nat) = 1) = false from rfl, Bool.false_and, Bool.not_false, Bool.true_and]
        exact t4
    · rw [h4, if_neg n10, flesh_M W R hp, bS, show decide ((1 : Nat) = 1) = true from rfl, Bool.true_and]
      cases hf : fsB S p with
      | false => rw [if_pos (show nI false.toNat = 0 from rfl), Bool.not_false, Bool.true_and]; exact ⟨ν', t1, t2, t3, t4⟩
      | true => rw [if_neg (show ¬ nI true.toNat = 0 from n10), rz_0, bS, Bool.not_true, Bool.false_and]; exact ⟨ν, rfl, R, Fr.refl, fun z => nomatch z⟩
theorem fpt_at {S : St} {p t k : Nat} (W : WF S) (hp : p < nPg S) (hk : k < mT S p) (h : sN S 703 p k = t) : fpt S p t = prtP S p (dx S p 0) k := by
  unfold fpt
  rw [plS_some W hp hk h]
theorem fpt_no {S : St} {p t : Nat} (h : ∀ k, k < mT S p → ¬ sN S 703 p k = t) : fpt S p t = 0 := by
  unfold fpt
  rw [plS_none h]
/-- a row of needs is emptied -/
theorem lm2_M {x1 x2 x3 : Int32} {k : Nat} {ν : Mem} (hk : k < 5) : ∃ ν', M_layMenu_l2 x1 x2 x3 (nI k) FU (nI 0) ν = some ν' ∧ Fr [1361] ν ν' ∧ (∀ t, t < 12 → mI ν' 1361 0 (12 * k + t) = nI 0) ∧ ∀ c, c < 12 * k → mI ν' 1361 0 c = mI ν 1361 0 c := by
  refine loopE (fun f v s => M_layMenu_l2 x1 x2 x3 (nI k) f v s) 12 (fun c s => Fr [1361] ν s ∧ (∀ t, t < c → mI s 1361 0 (12 * k + t) = nI 0) ∧ ∀ c, c < 12 * k → mI s 1361 0 c = mI ν 1361 0 c) _ ?_ ?_ 12 0 ν FU (by omega) (FU_lt (by omega)) ⟨Fr.refl, fun t h => absurd h (by omega), fun _ _ => rfl⟩
  · rintro f t s ht ⟨F, h1, h2⟩
    left
    refine ⟨mSI s 1361 0 (12 * k + t) (nI 0), ?_, fr_si (by simp) F, fun u hu => ?_, fun c hc => (iS_c (by omega)).trans (h2 c hc)⟩
    · show M_layMenu_l2b x1 x2 x3 (nI k) (M_layMenu_l2 x1 x2 x3 (nI k) f) (nI t) s = _
      unfold M_layMenu_l2b
      rw [if_pos ((lt_n (by omega) (by omega)).mpr ht), mul_n, add_n, wr_n (by omega) (by decide), bS, bS, add_n]
    · by_cases e : u = t
      · subst e; exact iS_eq
      · exact (iS_c (by omega)).trans (h1 u (by omega))
  · rintro f s ⟨F, h1, h2⟩
    refine ⟨s, ?_, F, h1, h2⟩
    show M_layMenu_l2b x1 x2 x3 (nI k) (M_layMenu_l2 x1 x2 x3 (nI k) f) (nI 12) s = _
    unfold M_layMenu_l2b
    rw [if_neg (by decide)]
/-- what a dish needs is written down -/
theorem lm3_M {S : St} {x1 x2 : Int32} {p k : Nat} {ν : Mem} (W : WF S) (R : MR S ν) (hp : p < nPg S) (hk : k < 5) (h40 : ∀ j, j < mT S p → mI ν 1340 0 j = nI (prtP S p (dx S p 0) j)) (h61 : ∀ t, t < 12 → mI ν 1361 0 (12 * k + t) = nI 0) :
    ∃ ν', M_layMenu_l3 x1 x2 (nI p) (nI k) FU (nI 0) ν = some ν' ∧ Fr [1361] ν ν' ∧ (∀ t, t < 12 → mI ν' 1361 0 (12 * k + t) = nI (fpt S p t)) ∧ ∀ c, c < 12 * k → mI ν' 1361 0 c = mI ν 1361 0 c := by
  have h16 := W.pg.1
  have h12 := W.th.1
  have wp := W.pg.2.1 p hp
  have hm8 := wp.1.2
  have rp := R.pg.2 p hp
  refine loopE (fun f v s => M_layMenu_l3 x1 x2 (nI p) (nI k) f v s) (mT S p) (fun c s => Fr [1361] ν s ∧ (∀ t, t < 12 → ((∃ j, j < c ∧ sN S 703 p j = t) → mI s 1361 0 (12 * k + t) = nI (fpt S p t)) ∧ ((∀ j, j < c → ¬ sN S 703 p j = t) → mI s 1361 0 (12 * k + t) = nI 0)) ∧ ∀ c, c < 12 * k → mI s 1361 0 c = mI ν 1361 0 c) _ ?_ ?_ (mT S p) 0 ν FU (by omega) (FU_lt (by omega)) ⟨Fr.refl, fun t ht => ⟨fun ⟨j, hj, _⟩ => absurd hj (by omega), fun _ => h61 t ht⟩, fun _ _ => rfl⟩
  · rintro f j s hj ⟨F, h1, h2⟩
    left
    have hL := (wp.2.1 j hj).1
    have e15 : mI s 1315 0 p = nI (mT S p) := by rw [F.i 1315 (by decide)]; exact rp.1
    have e16 : mI s 1316 0 (8 * p + j) = nI (sN S 703 p j) := by rw [F.i 1316 (by decide)]; exact (rp.2.1 j hj).1
    have e40 : mI s 1340 0 j = nI (prtP S p (dx S p 0) j) := by rw [F.i 1340 (by decide)]; exact h40 j hj
    refine ⟨mSI s 1361 0 (12 * k + sN S 703 p j) (nI (prtP S p (dx S p 0) j)), ?_, fr_si (by simp) F, fun t ht => ⟨fun ⟨i, hi, he⟩ => ?_, fun h => ?_⟩, fun c hc => (iS_c (by omega)).trans (h2 c hc)⟩
    · show M_layMenu_l3b x1 x2 (nI p) (nI k) (M_layMenu_l3 x1 x2 (nI p) (nI k) f) (nI j) s = _
      unfold M_layMenu_l3b
      rw [rd_n (by omega) (by decide), e15, bS, if_pos ((lt_n (by omega) (by omega)).mpr hj), mul_n, add_n, rd_n (by omega) (by decide), e16, bS, rd_n (by omega) (by decide), e40, bS, mul_n, add_n, wr_n (by omega) (by decide), bS, bS, add_n]
    · by_cases e : t = sN S 703 p j
      · subst e
        rw [fpt_at W hp hj rfl]; exact iS_eq
      · refine (iS_c (by omega)).trans ((h1 t ht).1 ⟨i, ?_, he⟩)
        by_cases e2 : i = j
        · subst e2; exact absurd he.symm e
        · omega
    · have := h j (by omega)
      exact (iS_c (by omega)).trans ((h1 t ht).2 fun i hi => h i (by omega))
  · rintro f s ⟨F, h1, h2⟩
    refine ⟨s, ?_, F, fun t ht => ?_, h2⟩
    · show M_layMenu_l3b x1 x2 (nI p) (nI k) (M_layMenu_l3 x1 x2 (nI p) (nI k) f) (nI (mT S p)) s = _
      unfold M_layMenu_l3b
      rw [rd_n (by omega) (by decide), show mI s 1315 0 p = nI (mT S p) by rw [F.i 1315 (by decide)]; exact rp.1, bS, if_neg (fun z => absurd ((lt_n (by omega) (by omega)).mp z) (by omega))]
    · by_cases h : ∃ j, j < mT S p ∧ sN S 703 p j = t
      · exact (h1 t ht).1 h
      · have h' : ∀ j, j < mT S p → ¬ sN S 703 p j = t := fun j hj he => h ⟨j, hj, he⟩
        rw [fpt_no h']; exact (h1 t ht).2 h'
