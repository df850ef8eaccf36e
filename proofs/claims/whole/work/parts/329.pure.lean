/-! PURE: may -/
def fsB (S : St) (p : Nat) : Bool := decide (flsP S p (mT S p) = 1)
theorem flesh_M {S : St} {p : Nat} {ν : Mem} (W : WF S) (R : MR S ν) (hp : p < nPg S) : M_hasFlesh (nI p) ν = some (nI (fsB S p).toNat) := by
  have h16 := W.pg.1
  have h12 := W.th.1
  have wp := W.pg.2.1 p hp
  have rp := R.pg.2 p hp
  have hm8 := wp.1.2
  obtain ⟨r, e1, e2⟩ : ∃ r, M_hasFlesh_l1 (nI p) ν FU (nI 0) = some r ∧ r = nI (fsB S p).toNat := by
    refine loopE (fun f v (_ : Unit) => M_hasFlesh_l1 (nI p) ν f v) (mT S p) (fun c _ => ∀ k, k < c → ¬ sN S 809 0 (sN S 703 p k) = 1) (fun r => r = nI (fsB S p).toNat) ?_ ?_ (mT S p) 0 () FU (by omega) (FU_lt (by omega)) (fun k h => absurd h (by omega))
    · rintro f k - hk hI
      have ht := (wp.2.1 k hk).1
      have h1 := (W.th.2.2.1 _ ht).2.2.2.2.2
      have e9 := (R.th.2.1 _ ht).2.2.2.2
      show (∃ s', M_hasFlesh_l1b (nI p) ν (M_hasFlesh_l1 (nI p) ν f) (nI k) = _ ∧ _) ∨ (∃ r, M_hasFlesh_l1b (nI p) ν (M_hasFlesh_l1 (nI p) ν f) (nI k) = _ ∧ _)
      unfold M_hasFlesh_l1b
      rw [rd_n (by omega) (by decide), rp.1, bS, if_pos ((lt_n (by omega) (by omega)).mpr hk), mul_n, add_n, rd_n (by omega) (by decide), (rp.2.1 k hk).1, bS, rd_n (by omega) (by decide), e9, bS]
      rcases (show sN S 809 0 (sN S 703 p k) = 0 ∨ sN S 809 0 (sN S 703 p k) = 1 by omega) with h | h
      · left
        rw [h, if_pos z00, bS, add_n]
        refine ⟨(), rfl, fun j hj => ?_⟩
        by_cases e : j = k
        · subst e; omega
        · exact hI j (by omega)
      · right
        rw [h, if_neg n10, rz_1]
        refine ⟨_, rfl, ?_⟩
        unfold fsB
        rw [decide_eq_true (flsP_iff.mpr ⟨k, hk, h⟩)]; rfl
    · rintro f - hI
      refine ⟨nI 0, ?_, ?_⟩
      · show M_hasFlesh_l1b (nI p) ν (M_hasFlesh_l1 (nI p) ν f) (nI (mT S p)) = _
        unfold M_hasFlesh_l1b
        rw [rd_n (by omega) (by decide), rp.1, bS, if_neg (fun z => absurd ((lt_n (by omega) (by omega)).mp z) (by omega)), rz_0]
      · unfold fsB
        rw [decide_eq_false (fun z => by obtain ⟨k, hk, h⟩ := flsP_iff.mp z; exact hI k hk h)]; rfl
  unfold M_hasFlesh
  rw [e1, e2]
def onB (S : St) (d p : Nat) : Bool := (mnS S p (mT S p)).testBit (sN S 103 0 d - 1)
def ctB (S : St) (p : Nat) : Bool := decide (cntI S p = nI 1)
/-- a page may be served on a day -/
def srvB (S : St) (d p : Nat) : Bool := onB S d p && (!(decide (sN S 104 0 d = 1) && fsB S p) && ctB S p)
theorem count_C {S : St} {p : Nat} {μ : Mem} (W : WF S) (C : CR S μ) (hp : p < nPg S) : ∃ μ', ((Pot_isCounted (nI p) μ).bind fun x7 => (if x7 = 0 then ((Pot_lay (nI p) μ).bind fun (x8, μ9) => some (x8, μ9)) else (mRd μ 910 0 16 (nI p)).bind fun x10 => some (x10, μ)).bind fun (x11, μ12) => if x11 = (nI 1) then (mRz (nI 1)).bind fun z => some (z, μ12) else (mRz (nI 0)).bind fun z => some (z, μ12)) = some (nI (ctB S p).toNat, μ') ∧ CR S μ' ∧ Fr layW μ μ' := by
  have h16 := W.pg.1
  have fin : ∀ μ' : Mem, (if cntI S p = nI 1 then (mRz (nI 1)).bind fun z => some (z, μ') else (mRz (nI 0)).bind fun z => some (z, μ')) = some (nI (ctB S p).toNat, μ') := by
    intro μ'
    unfold ctB
    by_cases h : cntI S p = nI 1
    · rw [if_pos h, decide_eq_true h, rz_1, bS]; rfl
    · rw [if_neg h, decide_eq_false h, rz_0, bS]; rfl
  unfold Pot_isCounted
  rw [rd_n (by omega) (by decide), bS, C.ca.1]
  by_cases h : mI μ 909 0 p = nI (sN S 908 0 0)
  · have hc := (C.ca.2.2.2.2.1 p hp h).1
    rw [if_pos h, rz_1, bS, if_neg n10, rd_n (by omega) (by decide), bS, bS, hc]
    exact ⟨μ, fin μ, C, Fr.refl⟩
  · obtain ⟨μ1, a1, a2, a3⟩ := lay_eq W C hp
    rw [if_neg h, rz_0, bS, if_pos z00, a1, bS]
    simp only [bS]
    exact ⟨μ1, fin μ1, a2.1, a3⟩
theorem served_C {S : St} {d p : Nat} {μ : Mem} (W : WF S) (C : CR S μ) (hd : d < nDy S) (hp : p < nPg S) : ∃ μ', Account_isServed (nI d) (nI p) μ = some (nI (srvB S d p).toNat, μ') ∧ CR S μ' ∧ Fr layW μ μ' := by
  have h16 := W.pg.1
  have h10 := W.dy.1
  obtain ⟨wd, wd4⟩ := W.dy.2.1 d hd
  obtain ⟨c3, c4⟩ := C.dy.2.1 d hd
  have wp := W.pg.2.1 p hp
  have cp := C.pg.2.1 p hp
  have tail : ∃ μ', ((Pages_monthsOf (nI p) μ).bind fun x4 => (mRd μ 103 0 10 (nI d)).bind fun x5 => (B_holdsBit x4 (x5 - (nI 1))).bind fun x6 => if x6 = 0 then (mRz (nI 0)).bind fun z => some (z, μ) else (Pot_isCounted (nI p) μ).bind fun x7 => (if x7 = 0 then ((Pot_lay (nI p) μ).bind fun (x8, μ9) => some (x8, μ9)) else (mRd μ 910 0 16 (nI p)).bind fun x10 => some (x10, μ)).bind fun (x11, μ12) => if x11 = (nI 1) then (mRz (nI 1)).bind fun z => some (z, μ12) else (mRz (nI 0)).bind fun z => some (z, μ12)) = some (nI (onB S d p && ctB S p).toNat, μ') ∧ CR S μ' ∧ Fr layW μ μ' := by
    have hlt := mnS_lt (S := S) (p := p) (k := mT S p)
    rw [months_C W ⟨C.pg, C.th⟩ hp, bS, rd_n (by omega) (by decide), c3, bS, sub_n wd.1, hbit (by omega) (by omega), bS]
    show ∃ μ', (if nI (onB S d p).toNat = 0 then _ else _) = _ ∧ _
    cases h : onB S d p with
    | false => rw [if_pos (show nI false.toNat = 0 from rfl), rz_0, bS, Bool.false_and]; exact ⟨μ, rfl, C, Fr.refl⟩
    | true =>
      rw [if_neg (show ¬ nI true.toNat = 0 from n10), Bool.true_and]
      exact count_C W C hp
  obtain ⟨μ', t1, t2, t3⟩ := tail
  have e807 := C.th.2.1
  have fb := fls_bits W hp
  unfold Account_isServed kj
  simp only []
  rw [rd_n (by omega) (by decide), c4, bS]
  rcases (show sN S 104 0 d = 0 ∨ sN S 104 0 d = 1 by omega) with h4 | h4
  · rw [h4, if_pos z00]
    refine ⟨μ', ?_, t2, t3⟩
    unfold srvB
    rw [h4, show decide ((0 : Nat) = 1) = false from rfl, Bool.false_and, Bool.not_false, Bool.true_and]
    exact t1
  · rw [h4, if_neg n10, rd_n (by omega) (by decide), cp.2.2.1, bS, e807, and_n]
    have h2 : sN S 706 0 p &&& sN S 807 0 0 < 4096 := and_lt wp.2.2.2.1.1
    unfold srvB fsB
    rw [h4, show decide ((1 : Nat) = 1) = true from rfl, Bool.true_and]
    by_cases h : sN S 706 0 p &&& sN S 807 0 0 = 0
    · rw [if_pos ((eq0_n (by omega)).mpr h), fb.mp h]
      rw [show decide ((0 : Nat) = 1) = false from rfl, Bool.not_false, Bool.true_and]
      exact ⟨μ', t1, t2, t3⟩
    · have h1 := flsP_le (S := S) (p := p) (mT S p)
      have : flsP S p (mT S p) = 1 := by have := mt fb.mpr h; omega
      rw [if_neg (fun z => h ((eq0_n (by omega)).mp z)), this, rz_0, bS]
      rw [show decide ((1 : Nat) = 1) = true from rfl, Bool.not_true, Bool.false_and, Bool.and_false]
      exact ⟨μ, rfl, C, Fr.refl⟩
theorem served_M {S : St} {d p : Nat} {ν : Mem} (W : WF S) (R : MR S ν) (hd : d < nDy S) (hp : p < nPg S) : ∃ ν', M_mayBe (nI d) (nI p) ν = some (nI (srvB S d p).toNat, ν') ∧ MR S ν' ∧ Fr fndW ν ν' := by
  have h16 := W.pg.1
  have h10 := W.dy.1
  obtain ⟨wd, wd4⟩ := W.dy.2.1 d hd
  obtain ⟨c3, c4⟩ := R.dy.2.1 d hd
  have hlt := mnS_lt (S := S) (p := p) (k := mT S p)
  have tail : ∃ ν', ((M_findDishes (nI p) ν).bind fun (x7, μ8) => if x7 = 0 then (mRz (nI 0)).bind fun z => some (z, μ8) else if (mI μ8 1342 0 0) = (nI 1) then (mRz (nI 1)).bind fun z => some (z, μ8) else (mRz (nI 0)).bind fun z => some (z, μ8)) = some (nI (ctB S p).toNat, ν') ∧ MR S ν' ∧ Fr fndW ν ν' := by
    by_cases ht : told S p
    · obtain ⟨ν1, b1, b2, b3, b4⟩ := (find_M W R hp).1 ht
      have h5 := dl_le ht
      refine ⟨ν1, ?_, b2, b4⟩
      rw [b1, bS]
      simp only []
      rw [if_neg n10, b3.1]
      unfold ctB
      rw [cnt_told ht]
      by_cases h : nI (dl S p).length = nI 1
      · rw [if_pos h, decide_eq_true h, rz_1, bS]; rfl
      · rw [if_neg h, decide_eq_false h, rz_0, bS]; rfl
    · obtain ⟨ν1, b1, b2, b4⟩ := (find_M W R hp).2 ht
      refine ⟨ν1, ?_, b2, b4⟩
      rw [b1, bS]
      simp only []
      rw [if_pos z00, rz_0, bS]
      unfold ctB
      rw [cnt_not ht]; rfl
  obtain ⟨ν', t1, t2, t3⟩ := tail
  unfold M_mayBe kj
  simp only []
  rw [months_M W ⟨R.pg, R.th⟩ hp, bS, rd_n (by omega) (by decide), c3, bS, sub_n wd.1, mhas (by omega) (by omega), bS]
  show ∃ ν', (if nI (onB S d p).toNat = 0 then _ else _) = _ ∧ _
  unfold srvB
  cases h : onB S d p with
  | false => rw [if_pos (show nI false.toNat = 0 from rfl), rz_0, bS, Bool.false_and]; exact ⟨ν, rfl, R, Fr.refl⟩
  | true =>
    rw [if_neg (show ¬ nI true.toNat = 0 from n10), Bool.true_and, rd_n (by omega) (by decide), c4, bS]
    rcases (show sN S 104 0 d = 0 ∨ sN S 104 0 d = 1 by omega) with h4 | h4
    · rw [h4, if_pos z00]
      refine ⟨ν', ?_, t2, t3⟩
      rw [show decide ((0 : Nat) = 1) = false from rfl, Bool.false_and, Bool.not_false, Bool.true_and]
      exact t1
    · rw [h4, if_neg n10, flesh_M W R hp, bS, show decide ((1 : Nat) = 1) = true from rfl, Bool.true_and]
      cases hf : fsB S p with
      | false => rw [if_pos (show nI false.toNat = 0 from rfl), Bool.not_false, Bool.true_and]; exact ⟨ν', t1, t2, t3⟩
      | true => rw [if_neg (show ¬ nI true.toNat = 0 from n10), rz_0, bS, Bool.not_true, Bool.false_and]; exact ⟨ν, rfl, R, Fr.refl⟩
theorem q_may (x y : Int32) : Cmd (B_may x y) (M_may x y) := by
  intro S μ ν W C R
  unfold B_may M_may
  rcases dy_arg W x with hx | ⟨d, hd, rfl⟩
  · rw [hasD0 C hx, isD0 W R hx, bS, bS, if_pos z00, if_pos z00]; exact ⟨_, _, _, rfl, rfl, C, R⟩
  rw [hasD1 W C hd, isD1 W R hd, bS, bS, if_neg n10, if_neg n10]
  rcases pg_arg W y with hy | ⟨p, hp, rfl⟩
  · rw [hasP0 C hy, isP0 W R hy, bS, bS, if_pos z00, if_pos z00]; exact ⟨_, _, _, rfl, rfl, C, R⟩
  obtain ⟨μ', a1, a2, -⟩ := served_C W C hd hp
  obtain ⟨ν', b1, b2, -⟩ := served_M W R hd hp
  rw [hasP1 W C hp, isP1 W R hp, bS, bS, if_neg n10, if_neg n10, a1, b1, bS, bS]
  simp only []
  cases srvB S d p with
  | false => rw [if_pos (show nI false.toNat = 0 from rfl), if_pos (show nI false.toNat = 0 from rfl)]; exact ⟨_, _, _, rfl, rfl, a2, b2⟩
  | true => rw [if_neg (show ¬ nI true.toNat = 0 from n10), if_neg (show ¬ nI true.toNat = 0 from n10)]; exact ⟨_, _, _, rfl, rfl, a2, b2⟩
