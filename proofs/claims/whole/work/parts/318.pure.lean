/-! PURE: months, page, leaves, twice, count; how far pages are -/
theorem pc_eq (n : Nat) : J_bitCount (nI n) = some (nI (pcN n)) ∧ pcN n < 64 := by
  have h : ∃ x, J_bitCount (nI n) = some (x &&& nI 63) := ⟨_, rfl⟩
  obtain ⟨x, hx⟩ := h
  obtain ⟨j, hj, e⟩ := pk_andE x (m := nI 63) 6 (by decide)
  unfold pcN
  rw [hx]
  show some (x &&& nI 63) = some (nI (nv (x &&& nI 63))) ∧ nv (x &&& nI 63) < 64
  rw [e, nv_nI (by omega)]
  exact ⟨rfl, hj⟩
theorem bits_M (n : Nat) : M_bits (nI n) = some (nI (pcN n)) := by
  unfold M_bits; rw [(pc_eq n).1, bS]
def mnS (S : St) (p : Nat) : Nat → Nat
  | 0 => 4095
  | k + 1 => mnS S p k &&& sN S 803 0 (sN S 703 p k)
theorem mnS_lt {S : St} {p : Nat} : ∀ {k : Nat}, mnS S p k < 4096 := by
  intro k
  induction k with
  | zero => show 4095 < 4096; omega
  | succ k ih => exact and_lt ih
theorem months_C {S : St} {p : Nat} {μ : Mem} (W : WF S) (C : C_pg S μ ∧ C_th S μ) (hp : p < nPg S) : Pages_monthsOf (nI p) μ = some (nI (mnS S p (mT S p))) := by
  have h16 := W.pg.1
  have h12 := W.th.1
  have wp := W.pg.2.1 p hp
  have hm8 := wp.1.2
  have cp := C.1.2.1 p hp
  obtain ⟨r, e, hr⟩ : ∃ r, Pages_monthsOf_l1 (nI p) μ FU (nI 4095) (nI 0) = some r ∧ r = nI (mnS S p (mT S p)) := by
    refine loopE (fun f v (s : Int32) => Pages_monthsOf_l1 (nI p) μ f s v) (mT S p) (fun c s => s = nI (mnS S p c)) (fun r => r = nI (mnS S p (mT S p))) ?_ ?_ (mT S p) 0 (nI 4095) FU (by omega) (FU_lt (by omega)) rfl
    · rintro f k s hk rfl
      left
      have t1 := (wp.2.1 k hk).1
      refine ⟨nI (mnS S p (k + 1)), ?_, rfl⟩
      show Pages_monthsOf_l1b (nI p) μ (Pages_monthsOf_l1 (nI p) μ f) (nI _) (nI k) = _
      unfold Pages_monthsOf_l1b
      rw [rd_n (by omega) (by decide), cp.1, bS, if_pos ((lt_n (by omega) (by omega)).mpr hk), ix_n (by omega) (by decide), bS, rd_n (by omega) (by decide), (cp.2.1 k hk).1, bS, rd_n (by omega) (by decide), (C.2.2.2.1 _ t1).2.2.2, bS, and_n, bS, bS, add_n]
      rfl
    · rintro f s rfl
      refine ⟨_, ?_, rfl⟩
      show Pages_monthsOf_l1b (nI p) μ (Pages_monthsOf_l1 (nI p) μ f) (nI _) (nI (mT S p)) = _
      unfold Pages_monthsOf_l1b
      rw [rd_n (by omega) (by decide), cp.1, bS, if_neg (fun q => absurd ((lt_n (by omega) (by omega)).mp q) (by omega))]
  unfold Pages_monthsOf
  rw [e, bS, hr]
theorem months_M {S : St} {p : Nat} {ν : Mem} (W : WF S) (R : M_pg S ν ∧ M_th S ν) (hp : p < nPg S) : M_monthsOf (nI p) ν = some (nI (mnS S p (mT S p))) := by
  have h16 := W.pg.1
  have h12 := W.th.1
  have wp := W.pg.2.1 p hp
  have hm8 := wp.1.2
  have cp := R.1.2 p hp
  obtain ⟨r, e, hr⟩ : ∃ r, M_monthsOf_l1 (nI p) ν FU (nI 4095) (nI 0) = some r ∧ r = nI (mnS S p (mT S p)) := by
    refine loopE (fun f v (s : Int32) => M_monthsOf_l1 (nI p) ν f s v) (mT S p) (fun c s => s = nI (mnS S p c)) (fun r => r = nI (mnS S p (mT S p))) ?_ ?_ (mT S p) 0 (nI 4095) FU (by omega) (FU_lt (by omega)) rfl
    · rintro f k s hk rfl
      left
      have t1 := (wp.2.1 k hk).1
      refine ⟨nI (mnS S p (k + 1)), ?_, rfl⟩
      show M_monthsOf_l1b (nI p) ν (M_monthsOf_l1 (nI p) ν f) (nI _) (nI k) = _
      unfold M_monthsOf_l1b
      rw [rd_n (by omega) (by decide), cp.1, bS, if_pos ((lt_n (by omega) (by omega)).mpr hk), mul_n, add_n, rd_n (by omega) (by decide), (cp.2.1 k hk).1, bS, rd_n (by omega) (by decide), (R.2.2.1 _ t1).2.2.2.1, bS, and_n, bS, bS, add_n]
      rfl
    · rintro f s rfl
      refine ⟨_, ?_, rfl⟩
      show M_monthsOf_l1b (nI p) ν (M_monthsOf_l1 (nI p) ν f) (nI _) (nI (mT S p)) = _
      unfold M_monthsOf_l1b
      rw [rd_n (by omega) (by decide), cp.1, bS, if_neg (fun q => absurd ((lt_n (by omega) (by omega)).mp q) (by omega))]
  unfold M_monthsOf
  rw [e, bS, hr]
theorem q_months (x : Int32) : CmdP (B_months x) (M_months x) := by
  intro S μ ν W C R
  unfold B_months M_months
  rcases pg_arg W x with hx | ⟨p, hp, rfl⟩
  · rw [hasP0 C hx, isP0 W R hx, bS, bS, if_pos (by decide), if_pos (by decide)]; exact ⟨_, rfl, rfl⟩
  · rw [hasP1 W C hp, isP1 W R hp, bS, bS, if_neg (by decide), if_neg (by decide), months_C W ⟨C.pg, C.th⟩ hp, months_M W ⟨R.pg, R.th⟩ hp]
    exact ⟨_, rfl, rfl⟩
theorem q_count (x : Int32) : CmdP (B_count x) (M_count x) := by
  intro S μ ν W C R
  unfold B_count M_count
  rw [C.pg.1, C.lw.1, C.th.1, C.ho.2.1, C.tr.1, C.bk.1, C.dy.1, C.tp.1, C.ho.1, R.pg.1, R.lw.1, R.th.1, R.ho.2.1, R.tr.1, R.bk.1, R.dy.1, R.tp.1, R.ho.1]
  split
  · exact ⟨_, rfl, rfl⟩
  · split
    · exact ⟨_, rfl, rfl⟩
    · split
      · exact ⟨_, rfl, rfl⟩
      · split
        · exact ⟨_, rfl, rfl⟩
        · split
          · exact ⟨_, rfl, rfl⟩
          · split
            · exact ⟨_, rfl, rfl⟩
            · split
              · exact ⟨_, rfl, rfl⟩
              · split
                · exact ⟨_, rfl, rfl⟩
                · split
                  · exact ⟨_, rfl, rfl⟩
                  · exact ⟨_, rfl, rfl⟩
theorem writer_arg (x : Int32) : (B_isWriter x = some (nI 0) ∧ M_in x (nI 0) (nI 5) = some (nI 0)) ∨ ∃ w, w ≤ 5 ∧ x = nI w ∧ B_isWriter x = some (nI 1) ∧ M_in x (nI 0) (nI 5) = some (nI 1) := by
  unfold B_isWriter
  rw [within_in]
  rcases in_nat x 0 5 (by decide) (by decide) with h | ⟨y, h1, h2, h3, h4⟩
  · left; rw [h, bS]; exact ⟨rfl, rfl⟩
  · right; refine ⟨y, h2, h3, ?_⟩; rw [h4, bS]; exact ⟨rfl, rfl⟩
/-- pages of a writer with a thing, left out or not -/
def lvN (S : St) (w t o : Nat) : Nat → Nat
  | 0 => 0
  | p + 1 => lvN S w t o p + (if sN S 711 0 p = w ∧ (sN S 706 0 p).testBit t = true ∧ ((sN S 707 0 p).testBit t).toNat = 1 - o then 1 else 0)
theorem n10 : ¬ nI 1 = 0 := by decide
theorem z00 : nI 0 = 0 := rfl
theorem q_leaves (x y z : Int32) : CmdP (B_leaves x y z) (M_leaves x y z) := by
  intro S μ ν W C R
  have h16 := W.pg.1
  have h12 := W.th.1
  unfold B_leaves M_leaves
  rcases writer_arg x with ⟨h1, h2⟩ | ⟨w, hw, rfl, h1, h2⟩
  · rw [h1, h2, bS, bS, if_pos z00, if_pos z00]; exact ⟨_, rfl, rfl⟩
  · rw [h1, h2, bS, bS, if_neg n10, if_neg n10]
    rcases th_arg W y with hy | ⟨t, ht, rfl⟩
    · rw [hasT0 C hy, isT0 W R hy, bS, bS, if_pos z00, if_pos z00]; exact ⟨_, rfl, rfl⟩
    · rw [hasT1 W C ht, isT1 W R ht, bS, bS, if_neg n10, if_neg n10, within_in]
      rcases inT z with hz | ⟨o, ho, rfl, hz⟩
      · rw [hz, bS, bS, if_pos z00, if_pos z00]; exact ⟨_, rfl, rfl⟩
      · rw [hz, bS, bS, if_neg n10, if_neg n10]
        have kC : Pages_timesLeft (nI w) (nI t) (nI (1 - o)) μ = some (nI (lvN S w t o (nPg S))) := by
          obtain ⟨r, e, hr⟩ : ∃ r, Pages_timesLeft_l1 (nI w) (nI t) (nI (1 - o)) μ FU (nI 0) (nI 0) = some r ∧ r = nI (lvN S w t o (nPg S)) := by
            refine loopE (fun f v (s : Int32) => Pages_timesLeft_l1 (nI w) (nI t) (nI (1 - o)) μ f s v) (nPg S) (fun c s => s = nI (lvN S w t o c)) (fun r => r = nI (lvN S w t o (nPg S))) ?_ ?_ (nPg S) 0 (nI 0) FU (by omega) (FU_lt (by omega)) rfl
            · rintro f p s hp rfl
              left
              have wp := W.pg.2.1 p hp
              have cp := C.pg.2.1 p hp
              have hwr := wp.2.2.2.2.2.2.2.2
              refine ⟨nI (lvN S w t o (p + 1)), ?_, rfl⟩
              show Pages_timesLeft_l1b (nI w) (nI t) (nI (1 - o)) μ (Pages_timesLeft_l1 (nI w) (nI t) (nI (1 - o)) μ f) (nI _) (nI p) = _
              unfold Pages_timesLeft_l1b
              have hu : lvN S w t o (p + 1) = lvN S w t o p + (if sN S 711 0 p = w ∧ (sN S 706 0 p).testBit t = true ∧ ((sN S 707 0 p).testBit t).toNat = 1 - o then 1 else 0) := rfl
              rw [C.pg.1, if_pos ((lt_n (by omega) (by omega)).mpr hp), rd_n (by omega) (by decide), C.pg.2.2 p (by omega), bS]
              by_cases q1 : sN S 711 0 p = w
              · rw [if_pos (by rw [q1]), rd_n (by omega) (by decide), cp.2.2.1, bS, hbit (by have := wp.2.2.2.1.1; omega) (by omega), bS]
                cases q2 : (sN S 706 0 p).testBit t with
                | false => rw [if_pos (show nI false.toNat = 0 from rfl), bS, if_pos (show nI 0 = 0 from rfl), bS, bS, add_n, hu, if_neg (fun z => by rw [q2] at z; exact nomatch z.2.1)]; rfl
                | true =>
                  rw [if_neg (show ¬ nI true.toNat = 0 by decide), bS, if_neg (show ¬ nI 1 = 0 by decide), rd_n (by omega) (by decide), cp.2.2.2.1, bS, hbit (by have := wp.2.2.2.2.1.1; omega) (by omega), bS]
                  have hb1 : ((sN S 707 0 p).testBit t).toNat ≤ 1 := by cases (sN S 707 0 p).testBit t <;> decide
                  by_cases q3 : ((sN S 707 0 p).testBit t).toNat = 1 - o
                  · rw [if_pos (by rw [q3]), bS, bS, bS, add_n, add_n, hu, if_pos ⟨q1, q2, q3⟩]
                  · rw [if_neg (fun z => q3 ((eq_n (by omega) (by omega)).mp z)), bS, bS, add_n, hu, if_neg (fun z => q3 z.2.2)]; rfl
              · rw [if_neg (fun z => q1 ((eq_n (by omega) (by omega)).mp z)), bS, if_pos (show nI 0 = 0 from rfl), bS, bS, add_n, hu, if_neg (fun z => q1 z.1)]; rfl
            · rintro f s rfl
              refine ⟨_, ?_, rfl⟩
              show Pages_timesLeft_l1b (nI w) (nI t) (nI (1 - o)) μ (Pages_timesLeft_l1 (nI w) (nI t) (nI (1 - o)) μ f) (nI _) (nI (nPg S)) = _
              unfold Pages_timesLeft_l1b
              rw [C.pg.1, if_neg (fun q => absurd ((lt_n (by omega) (by omega)).mp q) (by omega))]
          unfold Pages_timesLeft
          rw [e, bS, hr]
        have kM : M_leaves_l1 (nI w) (nI t) (nI o) ν FU (nI 0) (nI 0) = some (nI (lvN S w t o (nPg S))) := by
          obtain ⟨r, e, hr⟩ : ∃ r, M_leaves_l1 (nI w) (nI t) (nI o) ν FU (nI 0) (nI 0) = some r ∧ r = nI (lvN S w t o (nPg S)) := by
            refine loopE (fun f v (s : Int32) => M_leaves_l1 (nI w) (nI t) (nI o) ν f s v) (nPg S) (fun c s => s = nI (lvN S w t o c)) (fun r => r = nI (lvN S w t o (nPg S))) ?_ ?_ (nPg S) 0 (nI 0) FU (by omega) (FU_lt (by omega)) rfl
            · rintro f p s hp rfl
              left
              have wp := W.pg.2.1 p hp
              have cp := R.pg.2 p hp
              have hwr := wp.2.2.2.2.2.2.2.2
              refine ⟨nI (lvN S w t o (p + 1)), ?_, rfl⟩
              show M_leaves_l1b (nI w) (nI t) (nI o) ν (M_leaves_l1 (nI w) (nI t) (nI o) ν f) (nI _) (nI p) = _
              unfold M_leaves_l1b
              have hu : lvN S w t o (p + 1) = lvN S w t o p + (if sN S 711 0 p = w ∧ (sN S 706 0 p).testBit t = true ∧ ((sN S 707 0 p).testBit t).toNat = 1 - o then 1 else 0) := rfl
              rw [R.pg.1, if_pos ((lt_n (by omega) (by omega)).mpr hp), rd_n (by omega) (by decide), cp.2.2.2.2, bS]
              by_cases q1 : sN S 711 0 p = w
              · rw [if_pos (by rw [q1]), things_M W R.pg hp, bS, mhas (by have := wp.2.2.2.1.1; omega) (by omega), bS]
                cases q2 : (sN S 706 0 p).testBit t with
                | false => rw [if_pos (show nI false.toNat = 0 from rfl), bS, add_n, bS, bS, add_n, hu, if_neg (fun z => by rw [q2] at z; exact nomatch z.2.1)]
                | true =>
                  rw [if_neg (show ¬ nI true.toNat = 0 by decide), left_M W R.pg hp, bS, mhas (by have := wp.2.2.2.2.1.1; omega) (by omega), bS]
                  have hb1 : ((sN S 707 0 p).testBit t).toNat ≤ 1 := by cases (sN S 707 0 p).testBit t <;> decide
                  have ho1 : (if nI o = 0 then some (nI 1) else some (nI 0)) = some (nI (1 - o)) := by
                    by_cases q : o = 0
                    · rw [q]; rfl
                    · rw [show o = 1 by omega]; rfl
                  rw [ho1, bS]
                  by_cases q3 : ((sN S 707 0 p).testBit t).toNat = 1 - o
                  · rw [if_pos (by rw [q3]), bS, add_n, bS, bS, add_n, hu, if_pos ⟨q1, q2, q3⟩]
                  · rw [if_neg (fun z => q3 ((eq_n (by omega) (by omega)).mp z)), bS, add_n, bS, bS, add_n, hu, if_neg (fun z => q3 z.2.2)]
              · rw [if_neg (fun z => q1 ((eq_n (by omega) (by omega)).mp z)), bS, add_n, bS, bS, add_n, hu, if_neg (fun z => q1 z.1)]
            · rintro f s rfl
              refine ⟨_, ?_, rfl⟩
              show M_leaves_l1b (nI w) (nI t) (nI o) ν (M_leaves_l1 (nI w) (nI t) (nI o) ν f) (nI _) (nI (nPg S)) = _
              unfold M_leaves_l1b
              rw [R.pg.1, if_neg (fun q => absurd ((lt_n (by omega) (by omega)).mp q) (by omega))]
          rw [e, hr]
        rw [kM]
        by_cases q : o = 0
        · subst q
          rw [if_pos z00, show nI 1 = nI (1 - 0) from rfl, kC, bS]; exact ⟨_, rfl, rfl⟩
        · have : o = 1 := by omega
          subst this
          rw [if_neg n10, show nI 0 = nI (1 - 1) from rfl, kC, bS]; exact ⟨_, rfl, rfl⟩
/-! twice -/
def twC (S : St) (w i j : Nat) : Nat := if sN S 711 0 i = w ∧ sN S 711 0 j = w ∧ sN S 706 0 i = sN S 706 0 j ∧ sN S 707 0 i ≠ sN S 707 0 j then 1 else 0
theorem twC_comm {S : St} {w i j : Nat} : twC S w i j = twC S w j i := by
  unfold twC
  by_cases h : sN S 711 0 i = w ∧ sN S 711 0 j = w ∧ sN S 706 0 i = sN S 706 0 j ∧ sN S 707 0 i ≠ sN S 707 0 j
  · rw [if_pos h, if_pos ⟨h.2.1, h.1, h.2.2.1.symm, fun q => h.2.2.2 q.symm⟩]
  · rw [if_neg h, if_neg (fun z => h ⟨z.2.1, z.1, z.2.2.1.symm, fun q => z.2.2.2 q.symm⟩)]
/-- from i + 1 up to n -/
def sumG (g : Nat → Nat) (k : Nat) : Nat → Nat
  | 0 => 0
  | m + 1 => sumG g k m + g (k + m)
theorem tw_sum (c : Nat → Nat → Nat) : ∀ n, sumG (fun i => sumG (c i) (i + 1) (n - (i + 1))) 0 n = sumG (fun p => sumG (fun q => c q p) 0 p) 0 n := by
  have key : ∀ n m, m ≤ n → sumG (fun i => sumG (c i) (i + 1) (n + 1 - (i + 1))) 0 m = sumG (fun i => sumG (c i) (i + 1) (n - (i + 1))) 0 m + sumG (fun q => c q n) 0 m := by
    intro n m
    induction m with
    | zero => intro _; rfl
    | succ m ih =>
      intro h
      show sumG _ 0 m + sumG (c (0 + m)) (0 + m + 1) (n + 1 - (0 + m + 1)) = (sumG _ 0 m + sumG (c (0 + m)) (0 + m + 1) (n - (0 + m + 1))) + (sumG _ 0 m + c (0 + m) n)
      rw [ih (by omega), show n + 1 - (0 + m + 1) = (n - (0 + m + 1)) + 1 by omega]
      show _ + (sumG _ _ (n - (0 + m + 1)) + c (0 + m) (0 + m + 1 + (n - (0 + m + 1)))) = _
      rw [show 0 + m + 1 + (n - (0 + m + 1)) = n by omega]
      omega
  intro n
  induction n with
  | zero => rfl
  | succ n ih =>
    show sumG _ 0 n + sumG (c (0 + n)) (0 + n + 1) (n + 1 - (0 + n + 1)) = sumG _ 0 n + sumG (fun q => c q (0 + n)) 0 (0 + n)
    rw [key n n (Nat.le_refl _), ih, show n + 1 - (0 + n + 1) = 0 by omega, Nat.zero_add]
    rfl
theorem sumG_congr {g h : Nat → Nat} {k : Nat} : ∀ {m : Nat}, (∀ i, k ≤ i → i < k + m → g i = h i) → sumG g k m = sumG h k m := by
  intro m
  induction m with
  | zero => intro _; rfl
  | succ m ih =>
    intro hh
    show sumG g k m + g (k + m) = sumG h k m + h (k + m)
    rw [ih fun i a b => hh i a (by omega), hh (k + m) (by omega) (by omega)]
theorem q_twice (x : Int32) : CmdP (B_twice x) (M_twice x) := by
  intro S μ ν W C R
  have h16 := W.pg.1
  unfold B_twice M_twice
  rcases writer_arg x with ⟨h1, h2⟩ | ⟨w, hw, rfl, h1, h2⟩
  · rw [h1, h2, bS, bS, if_pos (by decide), if_pos (by decide)]; exact ⟨_, rfl, rfl⟩
  · rw [h1, h2, bS, bS, if_neg (by decide), if_neg (by decide)]
    have bd : ∀ p, p < nPg S → sN S 711 0 p ≤ 5 ∧ sN S 706 0 p < 4096 ∧ sN S 707 0 p < 4096 := fun p hp => by
      have wp := W.pg.2.1 p hp
      exact ⟨wp.2.2.2.2.2.2.2.2, wp.2.2.2.1.1, wp.2.2.2.2.1.1⟩
    have kC : ∃ r, Pages_unlikePairs_l1 (nI w) μ FU (nI 0) (nI 0) = some r ∧ r = nI (sumG (fun i => sumG (twC S w i) (i + 1) (nPg S - (i + 1))) 0 (nPg S)) := by
      refine loopE (fun f v (s : Int32) => Pages_unlikePairs_l1 (nI w) μ f s v) (nPg S) (fun c s => s = nI (sumG (fun i => sumG (twC S w i) (i + 1) (nPg S - (i + 1))) 0 c)) (fun r => r = nI (sumG (fun i => sumG (twC S w i) (i + 1) (nPg S - (i + 1))) 0 (nPg S))) ?_ ?_ (nPg S) 0 (nI 0) FU (by omega) (FU_lt (by omega)) rfl
      · rintro f i s hi rfl
        left
        obtain ⟨r, e, hr⟩ : ∃ r, Pages_unlikePairs_l2 (nI w) (nI i) μ FU (nI (sumG (fun i => sumG (twC S w i) (i + 1) (nPg S - (i + 1))) 0 i)) (nI (i + 1)) = some r ∧ r = nI (sumG (fun i => sumG (twC S w i) (i + 1) (nPg S - (i + 1))) 0 i + sumG (twC S w i) (i + 1) (nPg S - (i + 1))) := by
          generalize sumG (fun i => sumG (twC S w i) (i + 1) (nPg S - (i + 1))) 0 i = a
          refine loopE (fun f v (s : Int32) => Pages_unlikePairs_l2 (nI w) (nI i) μ f s v) (nPg S) (fun c s => i + 1 ≤ c ∧ s = nI (a + sumG (twC S w i) (i + 1) (c - (i + 1)))) (fun r => r = nI (a + sumG (twC S w i) (i + 1) (nPg S - (i + 1)))) ?_ ?_ (nPg S - (i + 1)) (i + 1) (nI a) FU (by omega) (FU_lt (by omega)) ⟨Nat.le_refl _, by rw [Nat.sub_self]; rfl⟩
          · rintro f j s hj ⟨hij, rfl⟩
            left
            obtain ⟨b1, b2, b3⟩ := bd i hi
            obtain ⟨b4, b5, b6⟩ := bd j hj
            have ci := C.pg.2.1 i hi
            have cj := C.pg.2.1 j hj
            refine ⟨nI (a + sumG (twC S w i) (i + 1) (j + 1 - (i + 1))), ?_, by omega, rfl⟩
            have hu : sumG (twC S w i) (i + 1) (j + 1 - (i + 1)) = sumG (twC S w i) (i + 1) (j - (i + 1)) + twC S w i j := by
              rw [show j + 1 - (i + 1) = (j - (i + 1)) + 1 by omega]
              show _ + twC S w i (i + 1 + (j - (i + 1))) = _
              rw [show i + 1 + (j - (i + 1)) = j by omega]
            show Pages_unlikePairs_l2b (nI w) (nI i) μ (Pages_unlikePairs_l2 (nI w) (nI i) μ f) (nI _) (nI j) = _
            unfold Pages_unlikePairs_l2b
            rw [hu, C.pg.1, if_pos ((lt_n (by omega) (by omega)).mpr hj), rd_n (by omega) (by decide), C.pg.2.2 i (by omega), bS]
            by_cases q1 : sN S 711 0 i = w
            · rw [if_pos (by rw [q1]), rd_n (by omega) (by decide), C.pg.2.2 j (by omega), bS]
              by_cases q2 : sN S 711 0 j = w
              · rw [if_pos (by rw [q2]), bS, if_neg (show ¬ nI 1 = 0 by decide), rd_n (by omega) (by decide), ci.2.2.1, bS, rd_n (by omega) (by decide), cj.2.2.1, bS]
                by_cases q3 : sN S 706 0 i = sN S 706 0 j
                · rw [if_pos (by rw [q3]), rd_n (by omega) (by decide), ci.2.2.2.1, bS, rd_n (by omega) (by decide), cj.2.2.2.1, bS]
                  by_cases q4 : sN S 707 0 i = sN S 707 0 j
                  · rw [if_pos (by rw [q4]), bS, bS, add_n, show twC S w i j = 0 from if_neg (fun z => z.2.2.2 q4), Nat.add_zero (sumG (twC S w i) (i + 1) (j - (i + 1)))]
                  · rw [if_neg (fun z => q4 ((eq_n (by omega) (by omega)).mp z)), bS, bS, bS, add_n, add_n, show twC S w i j = 1 from if_pos ⟨q1, q2, q3, q4⟩, Nat.add_assoc]
                · rw [if_neg (fun z => q3 ((eq_n (by omega) (by omega)).mp z)), bS, bS, add_n, show twC S w i j = 0 from if_neg (fun z => q3 z.2.2.1), Nat.add_zero (sumG (twC S w i) (i + 1) (j - (i + 1)))]
              · rw [if_neg (fun z => q2 ((eq_n (by omega) (by omega)).mp z)), bS, if_pos (show nI 0 = 0 from rfl), bS, bS, add_n, show twC S w i j = 0 from if_neg (fun z => q2 z.2.1), Nat.add_zero (sumG (twC S w i) (i + 1) (j - (i + 1)))]
            · rw [if_neg (fun z => q1 ((eq_n (by omega) (by omega)).mp z)), bS, if_pos (show nI 0 = 0 from rfl), bS, bS, add_n, show twC S w i j = 0 from if_neg (fun z => q1 z.1), Nat.add_zero (sumG (twC S w i) (i + 1) (j - (i + 1)))]
          · rintro f s ⟨hij, rfl⟩
            refine ⟨_, ?_, rfl⟩
            show Pages_unlikePairs_l2b (nI w) (nI i) μ (Pages_unlikePairs_l2 (nI w) (nI i) μ f) (nI _) (nI (nPg S)) = _
            unfold Pages_unlikePairs_l2b
            rw [C.pg.1, if_neg (fun q => absurd ((lt_n (by omega) (by omega)).mp q) (by omega))]
        refine ⟨r, ?_, ?_⟩
        · show Pages_unlikePairs_l1b (nI w) μ (Pages_unlikePairs_l1 (nI w) μ f) (nI _) (nI i) = _
          unfold Pages_unlikePairs_l1b
          rw [C.pg.1, if_pos ((lt_n (by omega) (by omega)).mpr hi), bS, add_n, e, bS, bS]
        · rw [hr]
          show nI (_ + sumG (twC S w i) (i + 1) (nPg S - (i + 1))) = nI (_ + sumG (twC S w (0 + i)) (0 + i + 1) (nPg S - (0 + i + 1)))
          rw [Nat.zero_add]
      · rintro f s rfl
        refine ⟨_, ?_, rfl⟩
        show Pages_unlikePairs_l1b (nI w) μ (Pages_unlikePairs_l1 (nI w) μ f) (nI _) (nI (nPg S)) = _
        unfold Pages_unlikePairs_l1b
        rw [C.pg.1, if_neg (fun q => absurd ((lt_n (by omega) (by omega)).mp q) (by omega))]
    have kM : ∃ r, M_twice_l1 (nI w) ν FU (nI 0) (nI 0) = some r ∧ r = nI (sumG (fun p => sumG (twC S w p) 0 p) 0 (nPg S)) := by
      refine loopE (fun f v (s : Int32) => M_twice_l1 (nI w) ν f s v) (nPg S) (fun c s => s = nI (sumG (fun p => sumG (twC S w p) 0 p) 0 c)) (fun r => r = nI (sumG (fun p => sumG (twC S w p) 0 p) 0 (nPg S))) ?_ ?_ (nPg S) 0 (nI 0) FU (by omega) (FU_lt (by omega)) rfl
      · rintro f i s hi rfl
        left
        obtain ⟨r, e, hr⟩ : ∃ r, M_twice_l2 (nI w) (nI i) ν FU (nI (sumG (fun p => sumG (twC S w p) 0 p) 0 i)) (nI 0) = some r ∧ r = nI (sumG (fun p => sumG (twC S w p) 0 p) 0 i + sumG (twC S w i) 0 i) := by
          generalize sumG (fun p => sumG (twC S w p) 0 p) 0 i = a
          refine loopE (fun f v (s : Int32) => M_twice_l2 (nI w) (nI i) ν f s v) i (fun c s => s = nI (a + sumG (twC S w i) 0 c)) (fun r => r = nI (a + sumG (twC S w i) 0 i)) ?_ ?_ i 0 (nI a) FU (by omega) (FU_lt (by omega)) rfl
          · rintro f j s hj rfl
            left
            have hjn : j < nPg S := by omega
            obtain ⟨b1, b2, b3⟩ := bd i hi
            obtain ⟨b4, b5, b6⟩ := bd j hjn
            have ci := R.pg.2 i hi
            have cj := R.pg.2 j hjn
            refine ⟨nI (a + sumG (twC S w i) 0 (j + 1)), ?_, rfl⟩
            have hu : sumG (twC S w i) 0 (j + 1) = sumG (twC S w i) 0 j + twC S w i j := by
              show _ + twC S w i (0 + j) = _
              rw [Nat.zero_add]
            show M_twice_l2b (nI w) (nI i) ν (M_twice_l2 (nI w) (nI i) ν f) (nI _) (nI j) = _
            unfold M_twice_l2b
            rw [hu, if_pos ((lt_n (by omega) (by omega)).mpr hj), rd_n (by omega) (by decide), ci.2.2.2.2, bS]
            by_cases q1 : sN S 711 0 i = w
            · rw [if_pos (by rw [q1]), rd_n (by omega) (by decide), cj.2.2.2.2, bS]
              by_cases q2 : sN S 711 0 j = w
              · rw [if_pos (by rw [q2]), things_M W R.pg hi, bS, things_M W R.pg hjn, bS]
                by_cases q3 : sN S 706 0 i = sN S 706 0 j
                · rw [if_pos (by rw [q3]), left_M W R.pg hi, bS, left_M W R.pg hjn, bS]
                  by_cases q4 : sN S 707 0 i = sN S 707 0 j
                  · rw [if_pos (by rw [q4]), bS, add_n, bS, bS, add_n, show twC S w i j = 0 from if_neg (fun z => z.2.2.2 q4), Nat.add_assoc]
                  · rw [if_neg (fun z => q4 ((eq_n (by omega) (by omega)).mp z)), bS, add_n, bS, bS, add_n, show twC S w i j = 1 from if_pos ⟨q1, q2, q3, q4⟩, Nat.add_assoc]
                · rw [if_neg (fun z => q3 ((eq_n (by omega) (by omega)).mp z)), bS, add_n, bS, bS, add_n, show twC S w i j = 0 from if_neg (fun z => q3 z.2.2.1), Nat.add_assoc]
              · rw [if_neg (fun z => q2 ((eq_n (by omega) (by omega)).mp z)), bS, add_n, bS, bS, add_n, show twC S w i j = 0 from if_neg (fun z => q2 z.2.1), Nat.add_assoc]
            · rw [if_neg (fun z => q1 ((eq_n (by omega) (by omega)).mp z)), bS, add_n, bS, bS, add_n, show twC S w i j = 0 from if_neg (fun z => q1 z.1), Nat.add_assoc]
          · rintro f s rfl
            refine ⟨_, ?_, rfl⟩
            show M_twice_l2b (nI w) (nI i) ν (M_twice_l2 (nI w) (nI i) ν f) (nI _) (nI i) = _
            unfold M_twice_l2b
            rw [if_neg (fun q => absurd ((lt_n (by omega) (by omega)).mp q) (by omega))]
        refine ⟨r, ?_, ?_⟩
        · show M_twice_l1b (nI w) ν (M_twice_l1 (nI w) ν f) (nI _) (nI i) = _
          unfold M_twice_l1b
          rw [R.pg.1, if_pos ((lt_n (by omega) (by omega)).mpr hi), e, bS, bS, add_n]
        · rw [hr]
          show nI (_ + sumG (twC S w i) 0 i) = nI (_ + sumG (twC S w (0 + i)) 0 (0 + i))
          rw [Nat.zero_add]
      · rintro f s rfl
        refine ⟨_, ?_, rfl⟩
        show M_twice_l1b (nI w) ν (M_twice_l1 (nI w) ν f) (nI _) (nI (nPg S)) = _
        unfold M_twice_l1b
        rw [R.pg.1, if_neg (fun q => absurd ((lt_n (by omega) (by omega)).mp q) (by omega))]
    obtain ⟨r, e, hr⟩ := kC
    obtain ⟨r', e', hr'⟩ := kM
    have hs : sumG (fun p => sumG (fun q => twC S w q p) 0 p) 0 (nPg S) = sumG (fun p => sumG (twC S w p) 0 p) 0 (nPg S) := sumG_congr fun p _ _ => sumG_congr fun q _ _ => twC_comm
    rw [tw_sum, hs, ← hr'] at hr
    unfold Pages_unlikePairs
    rw [e, e', bS, bS, bS, hr]
    exact ⟨_, rfl, rfl⟩
