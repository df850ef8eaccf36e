/-! PURE: a new state that agrees with the old one outside some variables -/
def Ag (V : List Nat) (S S' : St) : Prop := ∀ v, v ∉ V → (∀ r c, sN S' v r c = sN S v r c) ∧ ∀ r c, sI S' v r c = sI S v r c
theorem Ag.n {V L : List Nat} {S S' : St} (a : Ag V S S') (h : nIn V L = true) (v : Nat) (hv : v ∈ L) (r c : Nat) : sN S' v r c = sN S v r c := (a v (nIn_of h hv)).1 r c
theorem Ag.i {V L : List Nat} {S S' : St} (a : Ag V S S') (h : nIn V L = true) (v : Nat) (hv : v ∈ L) (r c : Nat) : sI S' v r c = sI S v r c := (a v (nIn_of h hv)).2 r c
theorem cntA_ag {S S' : St} {p a : Nat} (e : ∀ i, sN S' 708 p i = sN S 708 p i) : ∀ n, cntA S' p a n = cntA S p a n := by
  intro n
  induction n with
  | zero => rfl
  | succ n ih => unfold cntA; rw [ih, e]
theorem C_tp.ag {S S' : St} {μ : Mem} {V : List Nat} (h : C_tp S μ) (a : Ag V S S') (d : nIn V [1001, 1000] = true) : C_tp S' μ := by
  revert h
  unfold C_tp nTp
  simp only [a.n d 1001 (by decide), a.n d 1000 (by decide)]
  exact id
theorem M_tp.ag {S S' : St} {μ : Mem} {V : List Nat} (h : M_tp S μ) (a : Ag V S S') (d : nIn V [1001, 1000] = true) : M_tp S' μ := by
  revert h
  unfold M_tp nTp
  simp only [a.n d 1001 (by decide), a.n d 1000 (by decide)]
  exact id
theorem W_tp.ag {S S' : St} {V : List Nat} (h : W_tp S) (a : Ag V S S') (d : nIn V [1001, 1000] = true) : W_tp S' := by
  revert h
  unfold W_tp nTp
  simp only [a.n d 1001 (by decide), a.n d 1000 (by decide)]
  exact id
theorem C_th.ag {S S' : St} {μ : Mem} {V : List Nat} (h : C_th S μ) (a : Ag V S S') (d : nIn V [808, 807, 800, 801, 802, 803, 804, 805, 806] = true) : C_th S' μ := by
  revert h
  unfold C_th nTh
  simp only [a.n d 808 (by decide), a.n d 807 (by decide), a.n d 800 (by decide), a.n d 801 (by decide), a.n d 802 (by decide), a.n d 803 (by decide), a.n d 804 (by decide), a.n d 805 (by decide), a.n d 806 (by decide)]
  exact id
theorem M_th.ag {S S' : St} {μ : Mem} {V : List Nat} (h : M_th S μ) (a : Ag V S S') (d : nIn V [808, 800, 801, 802, 803, 809, 804, 805, 806] = true) : M_th S' μ := by
  revert h
  unfold M_th nTh
  simp only [a.n d 808 (by decide), a.n d 800 (by decide), a.n d 801 (by decide), a.n d 802 (by decide), a.n d 803 (by decide), a.n d 809 (by decide), a.n d 804 (by decide), a.n d 805 (by decide), a.n d 806 (by decide)]
  exact id
theorem W_th.ag {S S' : St} {V : List Nat} (h : W_th S) (a : Ag V S S') (d : nIn V [808, 807, 800, 801, 802, 803, 809, 804, 805, 806] = true) : W_th S' := by
  revert h
  unfold W_th nTh
  simp only [a.n d 808 (by decide), a.n d 807 (by decide), a.n d 800 (by decide), a.n d 801 (by decide), a.n d 802 (by decide), a.n d 803 (by decide), a.n d 809 (by decide), a.n d 804 (by decide), a.n d 805 (by decide), a.n d 806 (by decide)]
  exact id
theorem C_bk.ag {S S' : St} {μ : Mem} {V : List Nat} (h : C_bk S μ) (a : Ag V S S') (d : nIn V [206, 200, 201, 202] = true) : C_bk S' μ := by
  revert h
  unfold C_bk nBk
  simp only [a.n d 206 (by decide), a.i d 200 (by decide), a.i d 201 (by decide), a.n d 202 (by decide)]
  exact id
theorem M_bk.ag {S S' : St} {μ : Mem} {V : List Nat} (h : M_bk S μ) (a : Ag V S S') (d : nIn V [206, 200, 201, 202] = true) : M_bk S' μ := by
  revert h
  unfold M_bk nBk
  simp only [a.n d 206 (by decide), a.i d 200 (by decide), a.i d 201 (by decide), a.n d 202 (by decide)]
  exact id
theorem W_bk.ag {S S' : St} {V : List Nat} (h : W_bk S) (a : Ag V S S') (d : nIn V [206, 200, 201, 202] = true) : W_bk S' := by
  revert h
  unfold W_bk nBk
  simp only [a.n d 206 (by decide), a.i d 200 (by decide), a.i d 201 (by decide), a.n d 202 (by decide)]
  exact id
theorem C_dy.ag {S S' : St} {μ : Mem} {V : List Nat} (h : C_dy S μ) (a : Ag V S S') (d : nIn V [106, 103, 104, 105] = true) : C_dy S' μ := by
  revert h
  unfold C_dy nDy
  simp only [a.n d 106 (by decide), a.n d 103 (by decide), a.n d 104 (by decide), a.n d 105 (by decide)]
  exact id
theorem M_dy.ag {S S' : St} {μ : Mem} {V : List Nat} (h : M_dy S μ) (a : Ag V S S') (d : nIn V [106, 103, 104, 105] = true) : M_dy S' μ := by
  revert h
  unfold M_dy nDy
  simp only [a.n d 106 (by decide), a.n d 103 (by decide), a.n d 104 (by decide), a.n d 105 (by decide)]
  exact id
theorem W_dy.ag {S S' : St} {V : List Nat} (h : W_dy S) (a : Ag V S S') (d : nIn V [106, 103, 104, 105] = true) : W_dy S' := by
  revert h
  unfold W_dy nDy
  simp only [a.n d 106 (by decide), a.n d 103 (by decide), a.n d 104 (by decide), a.n d 105 (by decide)]
  exact id
theorem C_tr.ag {S S' : St} {μ : Mem} {V : List Nat} (h : C_tr S μ) (a : Ag V S S') (d : nIn V [507, 505, 506] = true) : C_tr S' μ := by
  revert h
  unfold C_tr nTr
  simp only [a.n d 507 (by decide), a.i d 505 (by decide), a.i d 506 (by decide)]
  exact id
theorem M_tr.ag {S S' : St} {μ : Mem} {V : List Nat} (h : M_tr S μ) (a : Ag V S S') (d : nIn V [507, 1345, 1346, 1347] = true) : M_tr S' μ := by
  revert h
  unfold M_tr nTr
  simp only [a.n d 507 (by decide), a.n d 1345 (by decide), a.i d 1346 (by decide), a.n d 1347 (by decide)]
  exact id
theorem W_tr.ag {S S' : St} {V : List Nat} (h : W_tr S) (a : Ag V S S') (d : nIn V [507, 1347, 1345, 505, 506, 1346] = true) : W_tr S' := by
  revert h
  unfold W_tr nTr
  simp only [a.n d 507 (by decide), a.n d 1347 (by decide), a.n d 1345 (by decide), a.i d 505 (by decide), a.i d 506 (by decide), a.i d 1346 (by decide)]
  exact id
theorem C_ho.ag {S S' : St} {μ : Mem} {V : List Nat} (h : C_ho S μ) (a : Ag V S S') (d : nIn V [903, 904, 905, 906, 907] = true) : C_ho S' μ := by
  revert h
  unfold C_ho nHo
  simp only [a.n d 903 (by decide), a.n d 904 (by decide), a.n d 905 (by decide), a.i d 906 (by decide), a.i d 907 (by decide)]
  exact id
theorem M_ho.ag {S S' : St} {μ : Mem} {V : List Nat} (h : M_ho S μ) (a : Ag V S S') (d : nIn V [903, 904, 1334, 1335, 1336, 1337] = true) : M_ho S' μ := by
  revert h
  unfold M_ho nHo
  simp only [a.n d 903 (by decide), a.n d 904 (by decide), a.n d 1334 (by decide), a.n d 1335 (by decide), a.i d 1336 (by decide), a.i d 1337 (by decide)]
  exact id
theorem W_ho.ag {S S' : St} {V : List Nat} (h : W_ho S) (a : Ag V S S') (d : nIn V [903, 904, 905, 504, 712, 1334, 1335, 906, 907, 1336, 1337] = true) : W_ho S' := by
  revert h
  unfold W_ho nHo nLw nPg
  simp only [a.n d 903 (by decide), a.n d 904 (by decide), a.n d 905 (by decide), a.n d 504 (by decide), a.n d 712 (by decide), a.n d 1334 (by decide), a.n d 1335 (by decide), a.i d 906 (by decide), a.i d 907 (by decide), a.i d 1336 (by decide), a.i d 1337 (by decide)]
  exact id
theorem C_pg.ag {S S' : St} {μ : Mem} {V : List Nat} (h : C_pg S μ) (a : Ag V S S') (d : nIn V [712, 702, 703, 704, 705, 706, 707, 709, 708, 710, 711] = true) : C_pg S' μ := by
  revert h
  unfold C_pg nPg mT
  simp only [a.n d 712 (by decide), a.n d 702 (by decide), a.n d 703 (by decide), a.n d 704 (by decide), a.n d 705 (by decide), a.n d 706 (by decide), a.n d 707 (by decide), a.n d 709 (by decide), a.n d 708 (by decide), a.n d 710 (by decide), a.n d 711 (by decide)]
  exact id
theorem M_pg.ag {S S' : St} {μ : Mem} {V : List Nat} (h : M_pg S μ) (a : Ag V S S') (d : nIn V [712, 702, 703, 704, 705, 709, 708, 711] = true) : M_pg S' μ := by
  revert h
  unfold M_pg nPg mT
  simp only [a.n d 712 (by decide), a.n d 702 (by decide), a.n d 703 (by decide), a.n d 704 (by decide), a.n d 705 (by decide), a.n d 709 (by decide), a.n d 708 (by decide), a.n d 711 (by decide)]
  exact id
theorem W_pg.ag {S S' : St} {V : List Nat} (h : W_pg S) (a : Ag V S S') (d : nIn V [712, 702, 703, 704, 705, 706, 707, 709, 708, 710, 711, 808] = true) : W_pg S' := by
  have a708 : ∀ p i, sN S' 708 p i = sN S 708 p i := fun p i => a.n d 708 (by decide) p i
  have ac : ∀ p b n, cntA S' p b n = cntA S p b n := fun p b n => cntA_ag (fun i => a708 p i) n
  revert h
  unfold W_pg W_p1 nPg mT nTh
  simp only [a.n d 712 (by decide), a.n d 702 (by decide), a.n d 703 (by decide), a.n d 704 (by decide), a.n d 705 (by decide), a.n d 706 (by decide), a.n d 707 (by decide), a.n d 709 (by decide), a.n d 708 (by decide), a.n d 710 (by decide), a.n d 711 (by decide), a.n d 808 (by decide), ac]
  exact id
theorem C_lw.ag {S S' : St} {μ : Mem} {V : List Nat} (h : C_lw S μ) (a : Ag V S S') (d : nIn V [504] = true) (hL : ∀ l, l < nLw S → sL S' l = sL S l) : C_lw S' μ := by
  have e : nLw S' = nLw S := a.n d 504 (by decide) 0 0
  unfold C_lw
  rw [e]
  exact ⟨h.1, fun l hl => by rw [hL l hl]; exact h.2 l hl⟩
theorem M_lw.ag {S S' : St} {μ : Mem} {V : List Nat} (h : M_lw S μ) (a : Ag V S S') (d : nIn V [504] = true) (hL : ∀ l, l < nLw S → sL S' l = sL S l) : M_lw S' μ := by
  have e : nLw S' = nLw S := a.n d 504 (by decide) 0 0
  unfold M_lw
  rw [e]
  exact ⟨h.1, fun l hl => by rw [hL l hl]; exact h.2 l hl⟩
theorem W_lw.ag {S S' : St} {V : List Nat} (h : W_lw S) (a : Ag V S S') (d : nIn V [504] = true) (hL : ∀ l, l < nLw S → sL S' l = sL S l) : W_lw S' := by
  have e : nLw S' = nLw S := a.n d 504 (by decide) 0 0
  unfold W_lw
  rw [e]
  exact ⟨h.1, fun l hl => by rw [hL l hl]; exact h.2 l hl⟩
/-! dishes of a page, and what they stand on -/
def AgP (S S' : St) (p : Nat) : Prop := sN S' 702 0 p = sN S 702 0 p ∧ (∀ k, sN S' 703 p k = sN S 703 p k ∧ sN S' 704 p k = sN S 704 p k ∧ sN S' 705 p k = sN S 705 p k) ∧ sN S' 706 0 p = sN S 706 0 p ∧ (∀ a, sN S' 710 p a = sN S 710 p a) ∧ sN S' 903 0 0 = sN S 903 0 0 ∧ sN S' 905 0 p = sN S 905 0 p ∧ (∀ l, sI S' 906 p l = sI S 906 p l ∧ sI S' 907 p l = sI S 907 p l) ∧ (∀ k, k < mT S p → sN S' 800 0 (sN S 703 p k) = sN S 800 0 (sN S 703 p k) ∧ sN S' 801 0 (sN S 703 p k) = sN S 801 0 (sN S 703 p k) ∧ sN S' 802 0 (sN S 703 p k) = sN S 802 0 (sN S 703 p k)) ∧ (sN S 706 0 p &&& sN S' 807 0 0 = 0 ↔ sN S 706 0 p &&& sN S 807 0 0 = 0) ∧ ∀ l, (sN S 905 0 p).testBit l = true → sL S' l = sL S l
theorem sumK_congr {f g : Nat → Nat} : ∀ n, (∀ k, k < n → f k = g k) → sumK f n = sumK g n := by
  intro n
  induction n with
  | zero => intro _; rfl
  | succ n ih => intro h; show sumK f n + f n = sumK g n + g n; rw [ih (fun k hk => h k (by omega)), h n (by omega)]
theorem AgP.emT {S S' : St} {p : Nat} (a : AgP S S' p) : mT S' p = mT S p := a.1
theorem AgP.lo {S S' : St} {p : Nat} (a : AgP S S' p) : loP S' p = loP S p := by
  funext k
  unfold loP
  rw [(a.2.1 k).2.1]
theorem AgP.wd {S S' : St} {p : Nat} (a : AgP S S' p) : wdP S' p = wdP S p := by
  funext k
  unfold wdP
  rw [(a.2.1 k).2.1, (a.2.1 k).2.2, a.2.2.2.2.1]
theorem AgP.str {S S' : St} {p : Nat} (a : AgP S S' p) : strP S' p = strP S p := by
  funext k
  unfold strP
  rw [a.wd, a.emT]
theorem AgP.tot {S S' : St} {p : Nat} (a : AgP S S' p) : totP S' p = totP S p := by
  unfold totP
  rw [a.wd, a.emT]
theorem AgP.prt {S S' : St} {p : Nat} (a : AgP S S' p) : prtP S' p = prtP S p := by
  funext d k
  unfold prtP
  rw [a.wd, a.lo, a.str]
theorem AgP.etold {S S' : St} {p : Nat} (a : AgP S S' p) : told S' p = told S p := by
  unfold told
  rw [a.tot]
theorem AgP.lt {S S' : St} {p : Nat} (a : AgP S S' p) (f : Nat → Nat) (i : Nat) : ltF S' p f i = ltF S p f i := by
  have k1 : ∀ v, v = 800 ∨ v = 801 ∨ v = 802 → sumK (fun k => f k * sN S' v 0 (sN S' 703 p k)) (mT S p) = sumK (fun k => f k * sN S v 0 (sN S 703 p k)) (mT S p) := fun v hv => by
    refine sumK_congr _ fun k hk => ?_
    obtain ⟨a1, a2, a3⟩ := a.2.2.2.2.2.2.2.1 k hk
    rw [(a.2.1 k).1]
    rcases hv with rfl | rfl | rfl
    · rw [a1]
    · rw [a2]
    · rw [a3]
  have k2 : (if sN S' 706 0 p &&& sN S' 807 0 0 = 0 then nI 0 else nI 1) = if sN S 706 0 p &&& sN S 807 0 0 = 0 then nI 0 else nI 1 := by
    rw [a.2.2.1]
    have := a.2.2.2.2.2.2.2.2.1
    by_cases h : sN S 706 0 p &&& sN S 807 0 0 = 0
    · rw [if_pos h, if_pos (this.mpr h)]
    · rw [if_neg h, if_neg (fun z => h (this.mp z))]
  unfold ltF
  rw [a.emT, k1 800 (by omega), k1 801 (by omega), k1 802 (by omega), a.2.2.2.1, k2]
theorem AgP.kept {S S' : St} {p : Nat} (a : AgP S S' p) (f : Nat → Nat) : keptB S' p f = keptB S p f := by
  have hl : ltF S' p f = ltF S p f := funext (a.lt f)
  have key : ∀ l, (!(sN S' 905 0 p).testBit l || (decide (sI S' 906 p l ≤ wthF S' p f l) && decide (wthF S' p f l ≤ sI S' 907 p l))) = (!(sN S 905 0 p).testBit l || (decide (sI S 906 p l ≤ wthF S p f l) && decide (wthF S p f l ≤ sI S 907 p l))) := fun l => by
    rw [a.2.2.2.2.2.1]
    cases hb : (sN S 905 0 p).testBit l with
    | false => rw [Bool.not_false, Bool.true_or, Bool.true_or]
    | true =>
      unfold wthF
      rw [(a.2.2.2.2.2.2.1 l).1, (a.2.2.2.2.2.2.1 l).2, hl, a.2.2.2.2.2.2.2.2.2 l hb]
  unfold keptB
  congr 1
  exact funext key
theorem AgP.edl {S S' : St} {p : Nat} (a : AgP S S' p) : dl S' p = dl S p := by
  unfold dl
  rw [a.tot, a.prt, show (fun d => keptB S' p (prtP S p d)) = fun d => keptB S p (prtP S p d) from funext fun d => a.kept _]
theorem AgP.rows {S S' : St} {p : Nat} {μ : Mem} (a : AgP S S' p) (h : Rows S p μ) : Rows S' p μ := by
  unfold Rows ltP
  rw [a.etold, a.edl, a.emT, a.lo, a.wd, a.str, a.prt]
  exact ⟨h.1, fun i h1 h2 => by rw [a.lt]; exact h.2 i h1 h2⟩
theorem AgP.cnt {S S' : St} {p : Nat} {μ : Mem} (a : AgP S S' p) (h : Cnt S p μ) : Cnt S' p μ := by
  unfold Cnt cntI
  rw [a.etold, a.edl, a.emT, a.prt, a.tot]
  exact h
/-- the caches stand, when the pages that there were are as before -/
theorem C_ca.ag {S S' : St} {μ : Mem} (W : WF S) (h : C_ca S μ) (h9 : sN S 908 0 0 < 2147483648) (e9 : sN S' 908 0 0 = sN S 908 0 0) (hn : nPg S ≤ nPg S') (hn' : nPg S' ≤ 16) (ha : ∀ p, p < nPg S → AgP S S' p) : C_ca S' μ := by
  obtain ⟨h1, h2, h3, h4, h5, h6⟩ := h
  unfold C_ca
  rw [e9]
  have old : ∀ p, p < nPg S' → mI μ 909 0 p = nI (sN S 908 0 0) → p < nPg S := fun p hp hq => by
    by_cases hh : p < nPg S
    · exact hh
    · rw [h3 p (by omega) (by omega)] at hq
      exact absurd hq.symm (fun z => (m1_n h9).mp z)
  refine ⟨h1, h2, fun p hp hq => h3 p hp (by omega), ?_, fun p hp hq => (ha p (old p hp hq)).cnt (h5 p (old p hp hq) hq), fun p hp hq hr => (ha p (old p hp hr)).rows (h6 p (old p hp hr) hq hr)⟩
  rcases h4 with h | ⟨s, hs, h⟩
  · exact Or.inl h
  · exact Or.inr ⟨s, by omega, h⟩
/-- the caches are void, when the age has grown -/
theorem C_ca.up {S S' : St} {μ : Mem} (h : C_ca S μ) (h9 : sN S 908 0 0 + 1 < 2147483648) (e9 : sN S' 908 0 0 = sN S 908 0 0 + 1) (hn : nPg S' = nPg S) (hn' : nPg S ≤ 16) : C_ca S' (mSI μ 908 0 0 (nI (sN S 908 0 0 + 1))) := by
  obtain ⟨h1, h2, h3, h4, h5, h6⟩ := h
  have n9 : ∀ p, mI (mSI μ 908 0 0 (nI (sN S 908 0 0 + 1))) 909 0 p = mI μ 909 0 p := fun p => iS_v (by decide)
  have n12 : mI (mSI μ 908 0 0 (nI (sN S 908 0 0 + 1))) 912 0 0 = mI μ 912 0 0 := iS_v (by decide)
  have no : ∀ p, p < nPg S → mI μ 909 0 p = nI (sN S 908 0 0 + 1) → False := fun p hp hq => by
    rcases h2 p (by omega) with h | ⟨b, hb, h⟩
    · rw [h] at hq; exact (m1_n h9).mp hq.symm
    · rw [h] at hq; have := (eq_n (by omega) h9).mp hq; omega
  unfold C_ca
  rw [e9, hn]
  refine ⟨iS_eq, fun p hp => ?_, fun p hp hq => by rw [n9]; exact h3 p hp hq, by rw [n12]; exact h4, fun p hp hq => ?_, fun p hp hq hr => ?_⟩
  · rw [n9]
    rcases h2 p hp with h | ⟨b, hb, h⟩
    · exact Or.inl h
    · exact Or.inr ⟨b, by omega, h⟩
  · rw [n9] at hq; exact absurd hq (no p hp)
  · rw [n9] at hr; exact absurd hr (no p hp)
/-! kin -/
def AgK (S S' : St) (p : Nat) : Prop := sN S' 706 0 p = sN S 706 0 p ∧ sN S' 709 0 p = sN S 709 0 p ∧ ∀ i, sN S' 708 p i = sN S 708 p i
theorem ed_ag {S S' : St} {p q : Nat} (a : AgK S S' p) (b : AgK S S' q) : edP S' p q = edP S p q := by
  have : acE S' p q = acE S p q := by
    funext i j
    unfold acE
    rw [a.2.2, b.2.2]
  unfold edP
  rw [this, a.2.1, b.2.1]
theorem far_ag {S S' : St} {p q : Nat} (a : AgK S S' p) (b : AgK S S' q) : farP S' p q = farP S p q := by
  unfold farP
  rw [ed_ag a b, a.1, b.1]
theorem camP_ag {S S' : St} {p : Nat} (a : ∀ q, q ≤ p → AgK S S' q) : ∀ q, q ≤ p → camP S' p q = camP S p q := by
  intro q
  induction q with
  | zero => intro _; rfl
  | succ q ih =>
    intro hq
    have := ih (by omega)
    unfold camP
    by_cases h0 : q = 0
    · rw [if_pos h0, if_pos h0]
    · have hc := cam_lt (S := S) (p := p) (q := q) (by omega)
      rw [if_neg h0, if_neg h0, this, far_ag (a p (Nat.le_refl _)) (a q (by omega)), far_ag (a p (Nat.le_refl _)) (a _ (by omega))]
theorem camI_ag {S S' : St} {p : Nat} (a : ∀ q, q ≤ p → AgK S S' q) : camI S' p = camI S p := by
  unfold camI
  rw [camP_ag a p (Nat.le_refl _)]
theorem C_kn.ag {S S' : St} {μ : Mem} {V : List Nat} (h : C_kn S μ) (a : Ag V S S') (d : nIn V [706, 708, 709, 712] = true) : C_kn S' μ := by
  have k : ∀ p, AgK S S' p := fun p => ⟨a.n d 706 (by decide) 0 p, a.n d 709 (by decide) 0 p, fun i => a.n d 708 (by decide) p i⟩
  have e : nPg S' = nPg S := a.n d 712 (by decide) 0 0
  unfold C_kn
  rw [e]
  exact ⟨fun p q hp hq => by rw [far_ag (k p) (k q)]; exact h.1 p q hp hq, fun p q hp hq => by rw [ed_ag (k p) (k q)]; exact h.2.1 p q hp hq, fun p hp => by rw [camI_ag fun q _ => k q]; exact h.2.2 p hp⟩
theorem AgP.of {S S' : St} {V : List Nat} (a : Ag V S S') (d : nIn V [702, 703, 704, 705, 706, 710, 800, 801, 802, 807, 903, 905, 906, 907] = true) (hL : sL S' = sL S) (p : Nat) : AgP S S' p :=
  ⟨a.n d 702 (by decide) 0 p, fun k => ⟨a.n d 703 (by decide) p k, a.n d 704 (by decide) p k, a.n d 705 (by decide) p k⟩, a.n d 706 (by decide) 0 p, fun b => a.n d 710 (by decide) p b, a.n d 903 (by decide) 0 0, a.n d 905 (by decide) 0 p, fun l => ⟨a.i d 906 (by decide) p l, a.i d 907 (by decide) p l⟩, fun k _ => ⟨a.n d 800 (by decide) 0 _, a.n d 801 (by decide) 0 _, a.n d 802 (by decide) 0 _⟩, by rw [a.n d 807 (by decide) 0 0], fun l _ => by rw [hL]⟩
/-! a state with one value set -/
def stN (S : St) (v r c x : Nat) : St := (fun a b d => if a = v ∧ b = r ∧ d = c then x else S.1 a b d, S.2)
def stI (S : St) (v r c : Nat) (x : Int32) : St := (S.1, fun a b d => if a = v ∧ b = r ∧ d = c then x else S.2.1 a b d, S.2.2)
theorem sN_N {S : St} {v r c x a b d : Nat} : sN (stN S v r c x) a b d = if a = v ∧ b = r ∧ d = c then x else sN S a b d := rfl
theorem sI_N {S : St} {v r c x a b d : Nat} : sI (stN S v r c x) a b d = sI S a b d := rfl
theorem sN_I {S : St} {v r c a b d : Nat} {x : Int32} : sN (stI S v r c x) a b d = sN S a b d := rfl
theorem sI_I {S : St} {v r c a b d : Nat} {x : Int32} : sI (stI S v r c x) a b d = if a = v ∧ b = r ∧ d = c then x else sI S a b d := rfl
theorem Ag.rfl {V : List Nat} {S : St} : Ag V S S := fun _ _ => ⟨fun _ _ => Eq.refl _, fun _ _ => Eq.refl _⟩
theorem Ag.sn {V : List Nat} {S S' : St} {v r c x : Nat} (hv : v ∈ V) (a : Ag V S S') : Ag V S (stN S' v r c x) := fun w hw => ⟨fun r' c' => by rw [sN_N, if_neg (fun (z : w = v ∧ r' = r ∧ c' = c) => hw (z.1 ▸ hv))]; exact (a w hw).1 r' c', (a w hw).2⟩
theorem Ag.si {V : List Nat} {S S' : St} {v r c : Nat} {x : Int32} (hv : v ∈ V) (a : Ag V S S') : Ag V S (stI S' v r c x) := fun w hw => ⟨(a w hw).1, fun r' c' => by rw [sI_I, if_neg (fun (z : w = v ∧ r' = r ∧ c' = c) => hw (z.1 ▸ hv))]; exact (a w hw).2 r' c'⟩
theorem n_eq {S : St} {v r c x : Nat} : sN (stN S v r c x) v r c = x := by rw [sN_N, if_pos ⟨rfl, rfl, rfl⟩]
theorem n_v {S : St} {v r c x a b d : Nat} (h : a ≠ v) : sN (stN S v r c x) a b d = sN S a b d := by rw [sN_N, if_neg (fun q => h q.1)]
theorem n_r {S : St} {v r c x a b d : Nat} (h : b ≠ r) : sN (stN S v r c x) a b d = sN S a b d := by rw [sN_N, if_neg (fun q => h q.2.1)]
theorem n_c {S : St} {v r c x a b d : Nat} (h : d ≠ c) : sN (stN S v r c x) a b d = sN S a b d := by rw [sN_N, if_neg (fun q => h q.2.2)]
theorem i_eq {S : St} {v r c : Nat} {x : Int32} : sI (stI S v r c x) v r c = x := by rw [sI_I, if_pos ⟨rfl, rfl, rfl⟩]
theorem i_v {S : St} {v r c a b d : Nat} {x : Int32} (h : a ≠ v) : sI (stI S v r c x) a b d = sI S a b d := by rw [sI_I, if_neg (fun q => h q.1)]
theorem i_c {S : St} {v r c a b d : Nat} {x : Int32} (h : d ≠ c) : sI (stI S v r c x) a b d = sI S a b d := by rw [sI_I, if_neg (fun q => h q.2.2)]
