/-! PURE: asks, products, parts of dishes -/
theorem in_pos {x a b : Int32} (h1 : ¬ x < a) (h2 : ¬ b < x) : M_in x a b = some (nI 1) := by unfold M_in; rw [if_neg h1, if_neg h2, rz_1]
theorem in_neg {x a b : Int32} (h : x < a ∨ b < x) : M_in x a b = some (nI 0) := by
  unfold M_in
  by_cases h1 : x < a
  · rw [if_pos h1, rz_0]
  · rw [if_neg h1, if_pos (h.resolve_left h1), rz_0]
theorem within_in : B_isWithin = M_in := rfl
theorem dI_toInt {n : Nat} (h : n < 2147483648) : (dI n).toInt = (n : Int) - 1 := by
  cases n with
  | zero => decide
  | succ n => rw [dI_s, nI_toInt (by omega)]; omega
theorem i0 : (0 : Int32).toInt = 0 := by decide
theorem im1 : (-1 : Int32).toInt = -1 := by decide
theorem in_lt {k n : Nat} (h : k < n) (hn : n ≤ 1000000) : M_in (nI k) (nI 0) (dI n) = some (nI 1) := by
  refine in_pos (nI_pos (by omega)) (fun q => ?_)
  rw [Int32.lt_iff_toInt_lt, dI_toInt (by omega), nI_toInt (by omega)] at q
  omega
theorem in_out {x : Int32} {n : Nat} (h : x < 0 ∨ nI n ≤ x) (hn : n ≤ 1000000) : M_in x (nI 0) (dI n) = some (nI 0) := by
  refine in_neg (h.imp (fun q => q) fun q => ?_)
  rw [Int32.le_iff_toInt_le, nI_toInt (by omega)] at q
  rw [Int32.lt_iff_toInt_lt, dI_toInt (by omega)]
  omega
/-- a number within a .. b, or not -/
theorem in_nat (x : Int32) (a b : Nat) (hab : a ≤ b) (hb : b ≤ 1000000) : M_in x (nI a) (nI b) = some (nI 0) ∨ ∃ k, a ≤ k ∧ k ≤ b ∧ x = nI k ∧ M_in x (nI a) (nI b) = some (nI 1) := by
  by_cases h : x < nI a ∨ nI b < x
  · exact Or.inl (in_neg h)
  · right
    have h1 : ¬ x < nI a := fun q => h (Or.inl q)
    have h2 : ¬ nI b < x := fun q => h (Or.inr q)
    rw [Int32.lt_iff_toInt_lt, nI_toInt (by omega)] at h1 h2
    have h3 : ¬ x < 0 := by rw [Int32.lt_iff_toInt_lt, i0]; omega
    obtain ⟨j, hj, rfl⟩ := nI_of h3
    rw [nI_toInt hj] at h1 h2
    exact ⟨j, by omega, by omega, rfl, in_pos (by rw [lt_n (by omega) (by omega)]; omega) (by rw [lt_n (by omega) (by omega)]; omega)⟩
def outN (x : Int32) (n : Nat) : Prop := x < 0 ∨ nI n ≤ x
theorem has_in {k n : Nat} (hk : k < n) (hn : n ≤ 1000000) : (if nI k < 0 then mRz (nI 0) else if nI k < nI n then mRz (nI 1) else mRz (nI 0)) = some (nI 1) := by
  rw [if_neg (nI_pos (by omega)), if_pos ((lt_n (by omega) (by omega)).mpr hk), rz_1]
theorem has_out {x : Int32} {n : Nat} (h : outN x n) : (if x < 0 then mRz (nI 0) else if x < nI n then mRz (nI 1) else mRz (nI 0)) = some (nI 0) := by
  rcases h with h | h
  · rw [if_pos h, rz_0]
  · rw [if_neg (c := x < nI n) (by rw [Int32.lt_iff_toInt_lt]; rw [Int32.le_iff_toInt_le] at h; omega)]
    split <;> rfl
theorem pgh_in {μ : Mem} {n k : Nat} (h : mI μ 712 0 0 = nI n) (hn : n ≤ 1000000) (hk : k < n) : Pages_has (nI k) μ = some (nI 1) := by unfold Pages_has; rw [h]; exact has_in hk hn
theorem pgh_out {μ : Mem} {n : Nat} {x : Int32} (h : mI μ 712 0 0 = nI n) (hx : outN x n) : Pages_has x μ = some (nI 0) := by unfold Pages_has; rw [h]; exact has_out hx
theorem thh_in {μ : Mem} {n k : Nat} (h : mI μ 808 0 0 = nI n) (hn : n ≤ 1000000) (hk : k < n) : Pantry_has (nI k) μ = some (nI 1) := by unfold Pantry_has; rw [h]; exact has_in hk hn
theorem thh_out {μ : Mem} {n : Nat} {x : Int32} (h : mI μ 808 0 0 = nI n) (hx : outN x n) : Pantry_has x μ = some (nI 0) := by unfold Pantry_has; rw [h]; exact has_out hx
theorem lwh_in {μ : Mem} {n k : Nat} (h : mI μ 504 0 0 = nI n) (hn : n ≤ 1000000) (hk : k < n) : Laws_has (nI k) μ = some (nI 1) := by unfold Laws_has; rw [h]; exact has_in hk hn
theorem lwh_out {μ : Mem} {n : Nat} {x : Int32} (h : mI μ 504 0 0 = nI n) (hx : outN x n) : Laws_has x μ = some (nI 0) := by unfold Laws_has; rw [h]; exact has_out hx
theorem bkh_in {μ : Mem} {n k : Nat} (h : mI μ 206 0 0 = nI n) (hn : n ≤ 1000000) (hk : k < n) : Copies_has (nI k) μ = some (nI 1) := by unfold Copies_has; rw [h]; exact has_in hk hn
theorem bkh_out {μ : Mem} {n : Nat} {x : Int32} (h : mI μ 206 0 0 = nI n) (hx : outN x n) : Copies_has x μ = some (nI 0) := by unfold Copies_has; rw [h]; exact has_out hx
theorem dyh_in {μ : Mem} {n k : Nat} (h : mI μ 106 0 0 = nI n) (hn : n ≤ 1000000) (hk : k < n) : Account_has (nI k) μ = some (nI 1) := by unfold Account_has; rw [h]; exact has_in hk hn
theorem dyh_out {μ : Mem} {n : Nat} {x : Int32} (h : mI μ 106 0 0 = nI n) (hx : outN x n) : Account_has x μ = some (nI 0) := by unfold Account_has; rw [h]; exact has_out hx
theorem mpg_in {μ : Mem} {n k : Nat} (h : mI μ 1322 0 0 = nI n) (hn : n ≤ 1000000) (hk : k < n) : M_isPage (nI k) μ = some (nI 1) := by unfold M_isPage; rw [h, sub1, in_lt hk hn]; rfl
theorem mpg_out {μ : Mem} {n : Nat} {x : Int32} (h : mI μ 1322 0 0 = nI n) (hn : n ≤ 1000000) (hx : outN x n) : M_isPage x μ = some (nI 0) := by unfold M_isPage; rw [h, sub1, in_out hx hn]; rfl
theorem mth_in {μ : Mem} {n k : Nat} (h : mI μ 1314 0 0 = nI n) (hn : n ≤ 1000000) (hk : k < n) : M_isThing (nI k) μ = some (nI 1) := by unfold M_isThing; rw [h, sub1, in_lt hk hn]; rfl
theorem mth_out {μ : Mem} {n : Nat} {x : Int32} (h : mI μ 1314 0 0 = nI n) (hn : n ≤ 1000000) (hx : outN x n) : M_isThing x μ = some (nI 0) := by unfold M_isThing; rw [h, sub1, in_out hx hn]; rfl
theorem mlw_in {μ : Mem} {n k : Nat} (h : mI μ 1330 0 0 = nI n) (hn : n ≤ 1000000) (hk : k < n) : M_isLaw (nI k) μ = some (nI 1) := by unfold M_isLaw; rw [h, sub1, in_lt hk hn]; rfl
theorem mlw_out {μ : Mem} {n : Nat} {x : Int32} (h : mI μ 1330 0 0 = nI n) (hn : n ≤ 1000000) (hx : outN x n) : M_isLaw x μ = some (nI 0) := by unfold M_isLaw; rw [h, sub1, in_out hx hn]; rfl
theorem mdy_in {μ : Mem} {n k : Nat} (h : mI μ 1358 0 0 = nI n) (hn : n ≤ 1000000) (hk : k < n) : M_isDay (nI k) μ = some (nI 1) := by unfold M_isDay; rw [h, sub1, in_lt hk hn]; rfl
theorem mdy_out {μ : Mem} {n : Nat} {x : Int32} (h : mI μ 1358 0 0 = nI n) (hn : n ≤ 1000000) (hx : outN x n) : M_isDay x μ = some (nI 0) := by unfold M_isDay; rw [h, sub1, in_out hx hn]; rfl
theorem hbit {n k : Nat} (hn : n < 2147483648) (hk : k < 32) : B_holdsBit (nI n) (nI k) = some (nI (n.testBit k).toNat) := by
  unfold B_holdsBit
  rw [bit_n hn hk]
  cases n.testBit k
  · rw [if_pos (show nI false.toNat = 0 from rfl)]; rfl
  · rw [if_neg (show ¬ nI true.toNat = 0 by decide)]; rfl
theorem mhas {n k : Nat} (hn : n < 2147483648) (hk : k < 32) : M_has (nI n) (nI k) = some (nI (n.testBit k).toNat) := by
  unfold M_has
  rw [bit_n hn hk]
  cases n.testBit k
  · rw [if_neg (show ¬ nI false.toNat = nI 1 by decide)]; rfl
  · rw [if_pos (show nI true.toNat = nI 1 from rfl)]; rfl
theorem jMin_n {a b : Nat} (ha : a < 2147483648) (hb : b < 2147483648) : jMin (nI a) (nI b) = nI (min a b) := by
  unfold jMin
  by_cases h : b < a
  · rw [if_pos ((lt_n hb ha).mpr h), Nat.min_eq_right (by omega)]
  · rw [if_neg (fun q => h ((lt_n hb ha).mp q)), Nat.min_eq_left (by omega)]
theorem jMax_n {a b : Nat} (ha : a < 2147483648) (hb : b < 2147483648) : jMax (nI a) (nI b) = nI (max a b) := by
  unfold jMax
  by_cases h : a < b
  · rw [if_pos ((lt_n ha hb).mpr h), Nat.max_eq_right (by omega)]
  · rw [if_neg (fun q => h ((lt_n ha hb).mp q)), Nat.max_eq_left (by omega)]
/-! products -/
theorem pr_app (f : Nat → Nat) : ∀ (a b k : Nat), pr f k (a + b) = pr f k a * pr f (k + a) b := by
  intro a
  induction a with
  | zero => intro b k; rw [Nat.zero_add, Nat.add_zero]; exact (Nat.one_mul _).symm
  | succ a ih =>
    intro b k
    rw [show a + 1 + b = (a + b) + 1 by omega]
    show f k * pr f (k + 1) (a + b) = f k * pr f (k + 1) a * pr f (k + (a + 1)) b
    rw [ih, show k + 1 + a = k + (a + 1) by omega, Nat.mul_assoc]
theorem pr_pos {f : Nat → Nat} : ∀ {n k : Nat}, (∀ i, k ≤ i → i < k + n → 0 < f i) → 0 < pr f k n := by
  intro n
  induction n with
  | zero => intro k _; exact Nat.one_pos
  | succ n ih =>
    intro k h
    exact Nat.mul_pos (h k (Nat.le_refl _) (by omega)) (ih fun i h1 h2 => h i (by omega) (by omega))
theorem wd_pos {S : St} (W : WF S) {p k : Nat} (hp : p < nPg S) (hk : k < mT S p) : 0 < wdP S p k ∧ wdP S p k ≤ 99 ∧ 0 < loP S p k ∧ loP S p k + wdP S p k ≤ 100 := by
  obtain ⟨-, h, -⟩ := W.pg.2.1 p hp
  obtain ⟨-, h1, h2, h3, h4⟩ := h k hk
  have h5 := W.ho.1
  unfold wdP loP
  split <;> omega
theorem prt_bd {S : St} (W : WF S) {p k : Nat} (d : Nat) (hp : p < nPg S) (hk : k < mT S p) : 0 < prtP S p d k ∧ prtP S p d k ≤ 99 := by
  obtain ⟨h1, h2, h3, h4⟩ := wd_pos W hp hk
  have : d / strP S p k % wdP S p k < wdP S p k := Nat.mod_lt _ h1
  unfold prtP
  omega
theorem str_s {S : St} {p k : Nat} (hk : k < mT S p) : pr (wdP S p) k (mT S p - k) = wdP S p k * strP S p k := by
  rw [show mT S p - k = (mT S p - (k + 1)) + 1 by omega]
  rfl
theorem part_le {S : St} (W : WF S) {p k : Nat} (hp : p < nPg S) (hk : k ≤ mT S p) : pr (wdP S p) k (mT S p - k) ≤ totP S p ∧ 0 < pr (wdP S p) k (mT S p - k) := by
  have h0 : 0 < pr (wdP S p) k (mT S p - k) := pr_pos fun i h1 h2 => (wd_pos W hp (by omega)).1
  refine ⟨?_, h0⟩
  have := pr_app (wdP S p) k (mT S p - k) 0
  rw [show k + (mT S p - k) = mT S p by omega, Nat.zero_add] at this
  unfold totP
  rw [this]
  exact Nat.le_mul_of_pos_left _ (pr_pos fun i h1 h2 => (wd_pos W hp (by omega)).1)
theorem str_bd {S : St} (W : WF S) {p k : Nat} (hp : p < nPg S) (hk : k < mT S p) (ht : told S p) : 0 < strP S p k ∧ strP S p k ≤ 5000 := by
  have h1 := part_le W hp (show k + 1 ≤ mT S p by omega)
  unfold told at ht
  unfold strP
  omega
theorem tot_pos {S : St} (W : WF S) {p : Nat} (hp : p < nPg S) : 0 < totP S p := pr_pos fun i h1 h2 => (wd_pos W hp (by omega)).1
theorem FU_g : ∃ g, FU = g ∧ 999999 < g := ⟨FU, rfl, by unfold FU; omega⟩
theorem one_le5 : 1 ≤ 500000 := by omega
/-! the frame of a page's dishes -/
theorem frame1 {S : St} {p : Nat} {μ0 : Mem} (W : WF S) (C : C_th S μ0 ∧ C_pg S μ0 ∧ C_ho S μ0) (hp : p < nPg S) :
    ∃ r, Pot_frame_l1 (nI p) FU (nI 1) (dI (mT S p)) μ0 = some r ∧ Fr [914, 915, 916] μ0 r.2 ∧ (told S p → r.1 = nI (totP S p) ∧ ∀ k, k < mT S p → mI r.2 914 0 k = nI (loP S p k) ∧ mI r.2 915 0 k = nI (wdP S p k) ∧ mI r.2 916 0 k = nI (strP S p k)) ∧ (¬ told S p → ∃ A, r.1 = nI A ∧ 5000 < A ∧ A ≤ 500000) := by
  have hw := W.pg.2.1 p hp
  have h16 := W.pg.1
  have cp := C.2.1.2.1 p hp
  have hm8 := hw.1.2
  obtain ⟨g, hg, hg2⟩ := FU_g
  rw [hg]
  refine loopD (fun f v s => Pot_frame_l1 (nI p) f s.1 v s.2) (fun c (s : Int32 × Mem) => c ≤ mT S p ∧ s.1 = nI (pr (wdP S p) c (mT S p - c)) ∧ pr (wdP S p) c (mT S p - c) ≤ 500000 ∧ Fr [914, 915, 916] μ0 s.2 ∧ ∀ k, c ≤ k → k < mT S p → mI s.2 914 0 k = nI (loP S p k) ∧ mI s.2 915 0 k = nI (wdP S p k) ∧ mI s.2 916 0 k = nI (strP S p k)) (fun r => Fr [914, 915, 916] μ0 r.2 ∧ (told S p → r.1 = nI (totP S p) ∧ ∀ k, k < mT S p → mI r.2 914 0 k = nI (loP S p k) ∧ mI r.2 915 0 k = nI (wdP S p k) ∧ mI r.2 916 0 k = nI (strP S p k)) ∧ (¬ told S p → ∃ A, r.1 = nI A ∧ 5000 < A ∧ A ≤ 500000)) ?_ ?_ (mT S p) (nI 1, μ0) g (by omega) ⟨Nat.le_refl _, by rw [Nat.sub_self]; rfl, by rw [Nat.sub_self]; exact one_le5, Fr.refl, fun k h1 h2 => absurd h2 (by omega)⟩
  · rintro f k ⟨A, μ⟩ ⟨hk, hA, hA2, F, hR⟩
    simp only at hA F hR
    have hk' : k < mT S p := by omega
    obtain ⟨q1, q2, q3⟩ := cp.2.1 k hk'
    obtain ⟨w1, w2, w3, w4⟩ := wd_pos W hp hk'
    obtain ⟨-, w5, w6, w7, w8⟩ := hw.2.1 k hk'
    have hm8 := hw.1.2
    have hst : strP S p k = pr (wdP S p) (k + 1) (mT S p - (k + 1)) := rfl
    have hmo := W.ho.1
    rw [← hst] at hA hA2
    subst hA
    show (∃ s', Pot_frame_l1b (nI p) (Pot_frame_l1 (nI p) f) (nI (strP S p k)) (nI k) μ = _ ∧ _) ∨ (∃ r, Pot_frame_l1b (nI p) (Pot_frame_l1 (nI p) f) (nI (strP S p k)) (nI k) μ = _ ∧ _)
    have e704 : mI μ 704 p k = nI (sN S 704 p k) := by rw [F.i 704 (by decide)]; exact q2
    have e705 : mI μ 705 p k = nI (sN S 705 p k) := by rw [F.i 705 (by decide)]; exact q3
    have e903 : mI μ 903 0 0 = nI (sN S 903 0 0) := by rw [F.i 903 (by decide)]; exact C.2.2.1
    by_cases h5 : 5000 < strP S p k
    · right
      refine ⟨(nI (strP S p k), μ), ?_, F, fun q => ?_, fun _ => ⟨_, rfl, h5, hA2⟩⟩
      · unfold Pot_frame_l1b
        rw [if_neg (nI_pos (by omega)), if_pos ((lt_n (by decide) (by omega)).mpr h5)]
      · have := (str_bd W hp hk' q).2
        omega
    · left
      have key : Pot_frame_l1b (nI p) (Pot_frame_l1 (nI p) f) (nI (strP S p k)) (nI k) μ = Pot_frame_l1 (nI p) f (nI (strP S p k * wdP S p k)) (dI k) (mSI (mSI (mSI μ 914 0 k (nI (loP S p k))) 915 0 k (nI (wdP S p k))) 916 0 k (nI (strP S p k))) := by
        unfold Pot_frame_l1b
        rw [if_neg (nI_pos (by omega)), if_neg (fun q => h5 ((lt_n (by decide) (by omega)).mp q)), ix_n (by omega) (by decide)]
        by_cases h0 : sN S 704 p k = 0
        · have e1 : loP S p k = 1 := if_pos h0
          have e2 : wdP S p k = sN S 903 0 0 := if_pos h0
          rw [bS, rd_n (by omega) (by decide), e704, h0, bS, if_neg (show ¬ 0 < nI 0 by decide), bS, if_pos (show nI 0 = 0 from rfl), bS, wr_n (by omega) (by decide), bS, if_pos (show nI 0 = 0 from rfl), bS, iS_v (by decide), e903, wr_n (by omega) (by decide), bS, wr_n (by omega) (by decide), bS, rd_n (by omega) (by decide), iS_v (by decide), iS_eq, bS, mul_n, bS, bS, e1, e2]
          rfl
        · have e1 : loP S p k = sN S 704 p k := if_neg h0
          have e2 : wdP S p k = sN S 705 p k - sN S 704 p k + 1 := if_neg h0
          rw [bS, rd_n (by omega) (by decide), e704, bS, if_pos ((gt0_n (by omega)).mpr (by omega)), bS, if_neg (show ¬ nI 1 = 0 by decide), bS, rd_n (by omega) (by decide), e704, bS, bS, wr_n (by omega) (by decide), bS, if_neg (show ¬ nI 1 = 0 by decide), bS, rd_n (by omega) (by decide), iS_v (by decide), e705, bS, rd_n (by omega) (by decide), iS_eq, bS, sub_n w7, add_n, bS, wr_n (by omega) (by decide), bS, wr_n (by omega) (by decide), bS, rd_n (by omega) (by decide), iS_v (by decide), iS_eq, bS, mul_n, bS, bS, e1, e2]
          rfl
      refine ⟨(nI (strP S p k * wdP S p k), mSI (mSI (mSI μ 914 0 k (nI (loP S p k))) 915 0 k (nI (wdP S p k))) 916 0 k (nI (strP S p k))), key, by omega, ?_, ?_, ?_, ?_⟩
      · show nI _ = nI _
        rw [str_s hk', Nat.mul_comm]
      · rw [str_s hk']
        exact Nat.le_trans (Nat.mul_le_mul w2 (show strP S p k ≤ 5000 by omega)) (by decide)
      · exact fr_si (by simp) (fr_si (by simp) (fr_si (by simp) F))
      · intro j h1 h2
        by_cases hj : j = k
        · subst hj
          exact ⟨by rw [iS_v (by decide), iS_v (by decide), iS_eq], by rw [iS_v (by decide), iS_eq], iS_eq⟩
        · obtain ⟨a1, a2, a3⟩ := hR j (by omega) h2
          exact ⟨by rw [iS_v (by decide), iS_v (by decide), iS_c hj]; exact a1, by rw [iS_v (by decide), iS_c hj, iS_v (by decide)]; exact a2, by rw [iS_c hj, iS_v (by decide), iS_v (by decide)]; exact a3⟩
  · rintro f ⟨A, μ⟩ ⟨hk, hA, hA2, F, hR⟩
    simp only at hA F hR
    subst hA
    refine ⟨(nI (pr (wdP S p) 0 (mT S p - 0)), μ), ?_, F, fun _ => ⟨rfl, fun k hk => hR k (Nat.zero_le _) hk⟩, fun q => ⟨_, rfl, ?_, hA2⟩⟩
    · show Pot_frame_l1b (nI p) (Pot_frame_l1 (nI p) f) (nI _) (-1) μ = _
      unfold Pot_frame_l1b
      rw [if_pos (by decide)]
    · have h9 : pr (wdP S p) 0 (mT S p - 0) = totP S p := rfl
      unfold told at q
      omega
theorem frame2 {S : St} {p : Nat} {μ0 : Mem} (W : WF S) (hp : p < nPg S) (h710 : ∀ a, a < 4 → mI μ0 710 p a = nI (sN S 710 p a)) (x : Int32) :
    ∃ μ', Pot_frame_l2 (nI p) x FU (nI 0) μ0 = some μ' ∧ Fr [918] μ0 μ' ∧ ∀ a, a < 4 → mI μ' 918 0 (4 + a) = nI (sN S 710 p a) := by
  have h16 := W.pg.1
  refine loopE (fun f v s => Pot_frame_l2 (nI p) x f v s) 4 (fun c s => Fr [918] μ0 s ∧ ∀ a, a < c → mI s 918 0 (4 + a) = nI (sN S 710 p a)) (fun r => Fr [918] μ0 r ∧ ∀ a, a < 4 → mI r 918 0 (4 + a) = nI (sN S 710 p a)) ?_ ?_ 4 0 μ0 FU rfl (FU_lt (by decide)) ⟨Fr.refl, fun a h => absurd h (by omega)⟩
  · rintro f k μ hk ⟨F, hR⟩
    left
    refine ⟨_, ?_, fr_si (v := 918) (r := 0) (c := 4 + k) (x := nI (sN S 710 p k)) (by simp) F, ?_⟩
    · show Pot_frame_l2b (nI p) x (Pot_frame_l2 (nI p) x f) (nI k) μ = _
      unfold Pot_frame_l2b
      rw [if_pos ((lt_n (by omega) (by decide)).mpr hk), ix_n (by omega) (by decide), bS, rd_n hk (by decide), F.i 710 (by decide), h710 k hk, bS, add_n, wr_n (by omega) (by decide), bS, bS, add_n]
    · intro a ha
      by_cases e : a = k
      · subst e; rw [iS_eq]
      · rw [iS_c (by omega)]; exact hR a (by omega)
  · rintro f μ ⟨F, hR⟩
    refine ⟨μ, ?_, F, hR⟩
    show Pot_frame_l2b (nI p) x (Pot_frame_l2 (nI p) x f) (nI 4) μ = _
    unfold Pot_frame_l2b
    rw [if_neg (by decide)]
theorem lt47 {S : St} {p d i : Nat} (h4 : 4 ≤ i) (h8 : i < 8) : ltP S p d i = nI (sN S 710 p (i - 4)) := by
  unfold ltP ltF
  rw [if_neg (by omega), if_neg (by omega), if_neg (by omega), if_neg (by omega), if_pos h8]
theorem lt8 {S : St} {p d : Nat} : ltP S p d 8 = if sN S 706 0 p &&& sN S 807 0 0 = 0 then nI 0 else nI 1 := rfl
theorem lt_hi {S : St} {p d e i : Nat} (h4 : 4 ≤ i) : ltP S p d i = ltP S p e i := by
  unfold ltP ltF
  simp only [show i ≠ 0 by omega, show i ≠ 1 by omega, show i ≠ 2 by omega, show i ≠ 3 by omega, if_false]
theorem and_lt {a b n : Nat} (h : a < n) : a &&& b < n := Nat.lt_of_le_of_lt Nat.and_le_left h
theorem frame_eq {S : St} {p : Nat} {μ0 : Mem} (W : WF S) (C : C_th S μ0 ∧ C_pg S μ0 ∧ C_ho S μ0) (hp : p < nPg S) :
    ∃ x μ', Pot_frame (nI p) μ0 = some (x, μ') ∧ Fr [914, 915, 916, 918] μ0 μ' ∧ (told S p → x = nI (totP S p) ∧ ∀ k, k < mT S p → mI μ' 914 0 k = nI (loP S p k) ∧ mI μ' 915 0 k = nI (wdP S p k) ∧ mI μ' 916 0 k = nI (strP S p k)) ∧ (¬ told S p → ∃ A, x = nI A ∧ 5000 < A ∧ A ≤ 500000) ∧ ∀ i, 4 ≤ i → i < 9 → mI μ' 918 0 i = ltP S p 0 i := by
  have h16 := W.pg.1
  have cp := C.2.1.2.1 p hp
  have wp := W.pg.2.1 p hp
  obtain ⟨⟨x, μ1⟩, g1, g2, g3, g4⟩ := frame1 W C hp
  simp only at g2 g3 g4
  obtain ⟨μ2, k1, k2, k3⟩ := frame2 (μ0 := μ1) W hp (by rw [g2.i 710 (by decide)]; exact cp.2.2.2.2.2.2) x
  have hw := wp.2.2.2.1.1
  have hx : sN S 706 0 p &&& sN S 807 0 0 < 4096 := and_lt hw
  have e706 : mI μ2 706 0 p = nI (sN S 706 0 p) := by rw [k2.i 706 (by decide), g2.i 706 (by decide)]; exact cp.2.2.1
  have e807 : mI μ2 807 0 0 = nI (sN S 807 0 0) := by rw [k2.i 807 (by decide), g2.i 807 (by decide)]; exact C.1.2.1
  have key : Pot_frame (nI p) μ0 = some (x, mSI μ2 918 0 8 (ltP S p 0 8)) := by
    unfold Pot_frame
    rw [rd_n (by omega) (by decide), cp.1, bS, sub1, bS, g1, bS]
    simp only []
    rw [k1, bS, rd_n (by omega) (by decide), e706, bS, e807, and_n, lt8]
    by_cases q : sN S 706 0 p &&& sN S 807 0 0 = 0
    · rw [if_pos ((eq0_n (by omega)).mpr q), if_pos q, wr_n (by decide) (by decide), bS]
    · rw [if_neg (fun z => q ((eq0_n (by omega)).mp z)), if_neg q, wr_n (by decide) (by decide), bS]
  refine ⟨x, _, key, fr_si (by simp) ((g2.mono (by simp)).trans (k2.mono (by simp))), fun ht => ⟨(g3 ht).1, fun k hk => ?_⟩, g4, fun i h4 h9 => ?_⟩
  · obtain ⟨a1, a2, a3⟩ := (g3 ht).2 k hk
    rw [iS_v (by decide), iS_v (by decide), iS_v (by decide), k2.i 914 (by decide), k2.i 915 (by decide), k2.i 916 (by decide)]
    exact ⟨a1, a2, a3⟩
  · by_cases e : i = 8
    · subst e; rw [iS_eq]
    · rw [iS_c e, lt47 h4 (by omega)]
      have := k3 (i - 4) (by omega)
      rw [show 4 + (i - 4) = i by omega] at this
      exact this
/-- the parts and letters of a dish stand there -/
def Shw (S : St) (p d : Nat) (μ : Mem) : Prop := (∀ k, k < mT S p → mI μ 917 0 k = nI (prtP S p d k)) ∧ ∀ i, i < 9 → mI μ 918 0 i = ltP S p d i
theorem partsIn_eq {S : St} {p k d : Nat} {μ : Mem} (W : WF S) (hp : p < nPg S) (ht : told S p) (hd : d < totP S p) (hk : k < mT S p) (hr : mI μ 914 0 k = nI (loP S p k) ∧ mI μ 915 0 k = nI (wdP S p k) ∧ mI μ 916 0 k = nI (strP S p k)) : Pot_partsIn (nI d) (nI k) μ = some (nI (prtP S p d k)) := by
  have hm8 := (W.pg.2.1 p hp).1.2
  obtain ⟨r1, r2, r3⟩ := hr
  obtain ⟨w1, w2, w3, w4⟩ := wd_pos W hp hk
  obtain ⟨s1, s2⟩ := str_bd W hp hk ht
  have hd5 : d < 5000 := Nat.lt_of_lt_of_le hd ht
  have hdv : d / strP S p k < 2147483648 := Nat.lt_of_le_of_lt (Nat.div_le_self _ _) (by omega)
  unfold Pot_partsIn
  rw [rd_n (by omega) (by decide), r3, bS, if_pos ((gt0_n (by omega)).mpr s1), rd_n (by omega) (by decide), r2, bS, if_pos ((gt0_n (by omega)).mpr w1), bS, if_neg (show ¬ nI 1 = 0 by decide), rd_n (by omega) (by decide), r1, bS, bS, dv_n (by omega) s1 (by omega), bS, bS, rm_n hdv w1 (by omega), bS, add_n]
  rfl
theorem spread_eq {S : St} {p d : Nat} {μ0 : Mem} (W : WF S) (C : C_th S μ0 ∧ C_pg S μ0) (hp : p < nPg S) (ht : told S p) (h912 : mI μ0 912 0 0 = nI p) (hd : d < totP S p)
    (hr : ∀ k, k < mT S p → mI μ0 914 0 k = nI (loP S p k) ∧ mI μ0 915 0 k = nI (wdP S p k) ∧ mI μ0 916 0 k = nI (strP S p k)) (h918 : ∀ i, 4 ≤ i → i < 9 → mI μ0 918 0 i = ltP S p 0 i) :
    ∃ μ', Pot_spread (nI d) μ0 = some μ' ∧ Fr [917, 918] μ0 μ' ∧ Shw S p d μ' := by
  have h16 := W.pg.1
  have cp := C.2.2.1 p hp
  have wp := W.pg.2.1 p hp
  have hm8 := wp.1.2
  have h12 := W.th.1
  have hd5 : d < 5000 := Nat.lt_of_lt_of_le hd ht
  obtain ⟨⟨a1, a2, a3, a4, μ1⟩, e1, e2, e3, e4, e5, e6, e7⟩ : ∃ r, Pot_spread_l1 (nI d) FU (nI 0) (nI 0) (nI 0) (nI 0) (nI 0) μ0 = some r ∧ Fr [917] μ0 r.2.2.2.2 ∧ (∀ k, k < mT S p → mI r.2.2.2.2 917 0 k = nI (prtP S p d k)) ∧ r.1 = ltP S p d 0 ∧ r.2.1 = ltP S p d 1 ∧ r.2.2.1 = ltP S p d 2 ∧ r.2.2.2.1 = ltP S p d 3 := by
    refine loopE (fun f v (s : Int32 × Int32 × Int32 × Int32 × Mem) => Pot_spread_l1 (nI d) f s.1 s.2.1 s.2.2.1 s.2.2.2.1 v s.2.2.2.2) (mT S p)
      (fun c s => Fr [917] μ0 s.2.2.2.2 ∧ (∀ k, k < c → mI s.2.2.2.2 917 0 k = nI (prtP S p d k)) ∧ s.1 = nI (sumK (fun k => prtP S p d k * sN S 800 0 (sN S 703 p k)) c) ∧ s.2.1 = nI (sumK (fun k => prtP S p d k * sN S 801 0 (sN S 703 p k)) c) ∧ s.2.2.1 = nI (sumK (fun k => prtP S p d k * sN S 802 0 (sN S 703 p k)) c) ∧ s.2.2.2.1 = nI (sumK (prtP S p d) c))
      (fun r => Fr [917] μ0 r.2.2.2.2 ∧ (∀ k, k < mT S p → mI r.2.2.2.2 917 0 k = nI (prtP S p d k)) ∧ r.1 = ltP S p d 0 ∧ r.2.1 = ltP S p d 1 ∧ r.2.2.1 = ltP S p d 2 ∧ r.2.2.2.1 = ltP S p d 3) ?_ ?_ (mT S p) 0 (nI 0, nI 0, nI 0, nI 0, μ0) FU (by omega) (FU_lt (by omega)) ⟨Fr.refl, fun k h => absurd h (by omega), rfl, rfl, rfl, rfl⟩
    · rintro f k ⟨b1, b2, b3, b4, μ⟩ hk ⟨F, hR, q1, q2, q3, q4⟩
      simp only at F hR q1 q2 q3 q4
      subst q1; subst q2; subst q3; subst q4
      left
      obtain ⟨r1, r2, r3⟩ := hr k hk
      obtain ⟨w1, w2, w3, w4⟩ := wd_pos W hp hk
      obtain ⟨s1, s2⟩ := str_bd W hp hk ht
      have t1 := (wp.2.1 k hk).1
      obtain ⟨c1, c2, c3, -⟩ := C.1.2.2.1 _ t1
      have f912 : mI μ 912 0 0 = nI p := by rw [F.i 912 (by decide)]; exact h912
      have f702 : mI μ 702 0 p = nI (mT S p) := by rw [F.i 702 (by decide)]; exact cp.1
      have f703 : mI μ 703 p k = nI (sN S 703 p k) := by rw [F.i 703 (by decide)]; exact (cp.2.1 k hk).1
      have f914 : mI μ 914 0 k = nI (loP S p k) := by rw [F.i 914 (by decide)]; exact r1
      have f915 : mI μ 915 0 k = nI (wdP S p k) := by rw [F.i 915 (by decide)]; exact r2
      have f916 : mI μ 916 0 k = nI (strP S p k) := by rw [F.i 916 (by decide)]; exact r3
      have f800 : mI μ 800 0 (sN S 703 p k) = nI (sN S 800 0 (sN S 703 p k)) := by rw [F.i 800 (by decide)]; exact c1
      have f801 : mI μ 801 0 (sN S 703 p k) = nI (sN S 801 0 (sN S 703 p k)) := by rw [F.i 801 (by decide)]; exact c2
      have f802 : mI μ 802 0 (sN S 703 p k) = nI (sN S 802 0 (sN S 703 p k)) := by rw [F.i 802 (by decide)]; exact c3
      have hdv : d / strP S p k < 2147483648 := Nat.lt_of_le_of_lt (Nat.div_le_self _ _) (by omega)
      refine ⟨(nI (sumK (fun k => prtP S p d k * sN S 800 0 (sN S 703 p k)) (k + 1)), nI (sumK (fun k => prtP S p d k * sN S 801 0 (sN S 703 p k)) (k + 1)), nI (sumK (fun k => prtP S p d k * sN S 802 0 (sN S 703 p k)) (k + 1)), nI (sumK (prtP S p d) (k + 1)), mSI μ 917 0 k (nI (prtP S p d k))), ?_, fr_si (by simp) F, ?_, rfl, rfl, rfl, rfl⟩
      rotate_left
      · intro j hj
        by_cases e : j = k
        · subst e; exact iS_eq
        · exact (iS_c e).trans (hR j (by omega))
      · show Pot_spread_l1b (nI d) (Pot_spread_l1 (nI d) f) (nI _) (nI _) (nI _) (nI _) (nI k) μ = _
        unfold Pot_spread_l1b
        rw [f912, rd_n (by omega) (by decide), f702, bS, if_pos ((lt_n (by omega) (by omega)).mpr hk), ix_n (by omega) (by decide), bS, rd_n (by omega) (by decide), f703, bS, partsIn_eq W hp ht hd hk ⟨f914, f915, f916⟩, bS, wr_n (by omega) (by decide), bS, rd_n (by omega) (by decide), iS_v (by decide), f800, bS, mul_n, add_n, bS, rd_n (by omega) (by decide), iS_v (by decide), f801, bS, mul_n, add_n, bS, rd_n (by omega) (by decide), iS_v (by decide), f802, bS, mul_n, add_n, bS, add_n, bS, add_n, bS]
        rfl
    · rintro f ⟨b1, b2, b3, b4, μ⟩ ⟨F, hR, q1, q2, q3, q4⟩
      simp only at F hR q1 q2 q3 q4
      refine ⟨(b1, b2, b3, b4, μ), ?_, F, hR, q1, q2, q3, q4⟩
      show Pot_spread_l1b (nI d) (Pot_spread_l1 (nI d) f) b1 b2 b3 b4 (nI (mT S p)) μ = _
      unfold Pot_spread_l1b
      rw [F.i 912 (by decide), h912, rd_n (by omega) (by decide), F.i 702 (by decide), cp.1, bS, if_neg (fun q => absurd ((lt_n (by omega) (by omega)).mp q) (by omega))]
  simp only at e2 e3 e4 e5 e6 e7
  refine ⟨mSI (mSI (mSI (mSI μ1 918 0 0 a1) 918 0 1 a2) 918 0 2 a3) 918 0 3 a4, ?_, ?_, ?_⟩
  rotate_left
  · exact (fr_si (v := 918) (r := 0) (c := 3) (x := a4) (by simp) (fr_si (v := 918) (r := 0) (c := 2) (x := a3) (by simp) (fr_si (v := 918) (r := 0) (c := 1) (x := a2) (by simp) (fr_si (v := 918) (r := 0) (c := 0) (x := a1) (by simp) (e2.mono (by simp))))))
  · refine ⟨fun k hk => by rw [iS_v (by decide), iS_v (by decide), iS_v (by decide), iS_v (by decide)]; exact e3 k hk, fun i hi => ?_⟩
    by_cases h3 : i = 3
    · subst h3; rw [iS_eq, e7]
    by_cases h2 : i = 2
    · subst h2; rw [iS_c (by decide), iS_eq, e6]
    by_cases h1 : i = 1
    · subst h1; rw [iS_c (by decide), iS_c (by decide), iS_eq, e5]
    by_cases h0 : i = 0
    · subst h0; rw [iS_c (by decide), iS_c (by decide), iS_c (by decide), iS_eq, e4]
    rw [iS_c h3, iS_c h2, iS_c h1, iS_c h0, e2.i 918 (by decide), h918 i (by omega) hi]
    exact lt_hi (by omega)
  · unfold Pot_spread
    rw [e1, bS]
    simp only []
    rw [wr_n (by decide) (by decide), bS, wr_n (by decide) (by decide), bS, wr_n (by decide) (by decide), bS, wr_n (by decide) (by decide), bS]
