/-! PURE: lacking, enough, softer -/
def pof (S : St) (p d t : Nat) : Nat := match plS S p t with
  | none => 0
  | some k => prtP S p d k
theorem pof_C {S : St} {p d t : Nat} {μ : Mem} (W : WF S) (h : On S p μ) (hs : Shw S p d μ) (ht : t < nTh S) : Pot_partsOf (nI t) μ = some (nI (pof S p d t)) := by
  have hp := h.2.1
  have hm8 := (W.pg.2.1 p hp).1.2
  obtain ⟨o, a1, a2⟩ := place_C W h.1.pg hp (nI t)
  rw [partsOf_C W h hs a2]
  unfold pof
  rcases plS_of W hp ht a2 with ⟨rfl, h2⟩ | ⟨k, hk, rfl, -, h2⟩
  · rw [if_pos rfl, h2]
  · rw [if_neg (fun q => (m1_n (by omega)).mp q), h2, nv_nI (by omega), hs.1 k hk]
theorem pof_bd {S : St} {p d t : Nat} (W : WF S) (hp : p < nPg S) : pof S p d t ≤ 99 := by
  unfold pof
  split
  · omega
  · rename_i k hk
    exact (prt_bd W d hp (List.mem_range.mp (List.mem_of_find?_eq_some hk))).2
theorem pof_at {S : St} {p d k : Nat} (W : WF S) (hp : p < nPg S) (hk : k < mT S p) : pof S p d (sN S 703 p k) = prtP S p d k := by
  unfold pof
  rw [plS_some W hp hk rfl]
theorem pof_pos {S : St} {p d t : Nat} (W : WF S) (h : 0 < pof S p d t) : ∃ k, k < mT S p ∧ sN S 703 p k = t ∧ pof S p d t = prtP S p d k := by
  unfold pof at *
  cases h1 : plS S p t with
  | none => rw [h1] at h; exact absurd h (by simp)
  | some k =>
    have h2 := List.find?_some h1
    simp at h2
    exact ⟨k, List.mem_range.mp (List.mem_of_find?_eq_some h1), h2, rfl⟩
theorem stock_bd {S : St} {d t : Nat} (W : WF S) (hd : d < nDy S) (ht : t < 12) : sN S 105 d t ≤ 999 := W.dy.2.2 d t (by have := W.dy.1; omega) ht
theorem few_C {S : St} {p d y n : Nat} {μ : Mem} (W : WF S) (h : On S p μ) (hs : Shw S p d μ) (hy : y < nDy S) (hn : n ≤ 99) :
    Account_tooFew (nI y) (nI n) μ = some (nI (orF (fun t => decide (sN S 105 y t < pof S p d t * n)) (fun t => t) (nTh S))) := by
  have h12 := W.th.1
  have h10 := W.dy.1
  have hp := h.2.1
  obtain ⟨r, e, hr⟩ : ∃ r, Account_tooFew_l1 (nI y) (nI n) μ FU (nI 0) (nI 0) = some r ∧ r = nI (orF (fun t => decide (sN S 105 y t < pof S p d t * n)) (fun t => t) (nTh S)) := by
    refine loopE (fun f v (s : Int32) => Account_tooFew_l1 (nI y) (nI n) μ f s v) (nTh S) (fun c s => s = nI (orF (fun t => decide (sN S 105 y t < pof S p d t * n)) (fun t => t) c)) (fun r => r = nI (orF (fun t => decide (sN S 105 y t < pof S p d t * n)) (fun t => t) (nTh S))) ?_ ?_ (nTh S) 0 (nI 0) FU (by omega) (FU_lt (by omega)) rfl
    · rintro f t s ht rfl
      left
      have h1 := pof_bd (d := d) (t := t) W hp
      have h2 := stock_bd W hy (show t < 12 by omega)
      have h3 : pof S p d t * n ≤ 99 * 99 := Nat.mul_le_mul h1 hn
      refine ⟨nI (orF (fun t => decide (sN S 105 y t < pof S p d t * n)) (fun t => t) (t + 1)), ?_, rfl⟩
      show Account_tooFew_l1b (nI y) (nI n) μ (Account_tooFew_l1 (nI y) (nI n) μ f) (nI _) (nI t) = _
      unfold Account_tooFew_l1b
      have hu : orF (fun t => decide (sN S 105 y t < pof S p d t * n)) (fun t => t) (t + 1) = if decide (sN S 105 y t < pof S p d t * n) = true then orF (fun t => decide (sN S 105 y t < pof S p d t * n)) (fun t => t) t ||| 2 ^ t else orF (fun t => decide (sN S 105 y t < pof S p d t * n)) (fun t => t) t := rfl
      rw [h.1.th.1, if_pos ((lt_n (by omega) (by omega)).mpr ht), pof_C W h hs ht, bS, ix_n (by omega) (by decide), bS, rd_n (by omega) (by decide), h.1.dy.2.2 y t (by omega) (by omega), bS, mul_n]
      by_cases q : sN S 105 y t < pof S p d t * n
      · rw [if_pos ((lt_n (by omega) (by omega)).mpr q), bit1 (by omega), or_n, bS, bS, bS, add_n, hu, if_pos (decide_eq_true q)]
      · rw [if_neg (fun z => q ((lt_n (by omega) (by omega)).mp z)), bS, bS, add_n, hu, if_neg (by simpa using q)]
    · rintro f s rfl
      refine ⟨_, ?_, rfl⟩
      show Account_tooFew_l1b (nI y) (nI n) μ (Account_tooFew_l1 (nI y) (nI n) μ f) (nI _) (nI (nTh S)) = _
      unfold Account_tooFew_l1b
      rw [h.1.th.1, if_neg (fun q => absurd ((lt_n (by omega) (by omega)).mp q) (by omega))]
  unfold Account_tooFew
  rw [e, bS, hr]
def lkN (S : St) (p d y n : Nat) : Nat := orF (fun k => decide (sN S 105 y (sN S 703 p k) < prtP S p d k * n)) (sN S 703 p) (mT S p)
theorem lack_M {S : St} {p d y n : Nat} {ν : Mem} (W : WF S) (R : MR S ν) (hp : p < nPg S) (hW : ∀ k, k < mT S p → mI ν 1340 0 k = nI (prtP S p d k)) (hy : y < nDy S) (hn : n ≤ 99) :
    M_lackingBy (nI y) (nI p) (nI n) ν = some (nI (lkN S p d y n)) := by
  have h12 := W.th.1
  have h10 := W.dy.1
  have h16 := W.pg.1
  have wp := W.pg.2.1 p hp
  have hm8 := wp.1.2
  have cp := R.pg.2 p hp
  obtain ⟨r, e, hr⟩ : ∃ r, M_lackingBy_l1 (nI y) (nI p) (nI n) ν FU (nI 0) (nI 0) = some r ∧ r = nI (lkN S p d y n) := by
    refine loopE (fun f v (s : Int32) => M_lackingBy_l1 (nI y) (nI p) (nI n) ν f s v) (mT S p) (fun c s => s = nI (orF (fun k => decide (sN S 105 y (sN S 703 p k) < prtP S p d k * n)) (sN S 703 p) c)) (fun r => r = nI (lkN S p d y n)) ?_ ?_ (mT S p) 0 (nI 0) FU (by omega) (FU_lt (by omega)) rfl
    · rintro f k s hk rfl
      left
      have t1 := (wp.2.1 k hk).1
      have h1 := (prt_bd W d hp hk).2
      have h2 := stock_bd W hy (show sN S 703 p k < 12 by omega)
      have h3 : prtP S p d k * n ≤ 99 * 99 := Nat.mul_le_mul h1 hn
      refine ⟨nI (orF (fun k => decide (sN S 105 y (sN S 703 p k) < prtP S p d k * n)) (sN S 703 p) (k + 1)), ?_, rfl⟩
      show M_lackingBy_l1b (nI y) (nI p) (nI n) ν (M_lackingBy_l1 (nI y) (nI p) (nI n) ν f) (nI _) (nI k) = _
      unfold M_lackingBy_l1b
      have hu : orF (fun k => decide (sN S 105 y (sN S 703 p k) < prtP S p d k * n)) (sN S 703 p) (k + 1) = if decide (sN S 105 y (sN S 703 p k) < prtP S p d k * n) = true then orF (fun k => decide (sN S 105 y (sN S 703 p k) < prtP S p d k * n)) (sN S 703 p) k ||| 2 ^ sN S 703 p k else orF (fun k => decide (sN S 105 y (sN S 703 p k) < prtP S p d k * n)) (sN S 703 p) k := rfl
      rw [rd_n (by omega) (by decide), cp.1, bS, if_pos ((lt_n (by omega) (by omega)).mpr hk), mul_n, add_n, rd_n (by omega) (by decide), (cp.2.1 k hk).1, bS, rd_n (by omega) (by decide), hW k hk, bS, mul_n, add_n, rd_n (by omega) (by decide), R.dy.2.2 y _ (by omega) (by omega), bS, mul_n]
      by_cases q : sN S 105 y (sN S 703 p k) < prtP S p d k * n
      · rw [if_pos ((lt_n (by omega) (by omega)).mpr q), bit1 (by omega), bS, or_n, bS, bS, add_n, hu, if_pos (decide_eq_true q)]
      · rw [if_neg (fun z => q ((lt_n (by omega) (by omega)).mp z)), bS, or_n, bS, bS, add_n, hu, if_neg (by simpa using q), Nat.or_zero]
    · rintro f s rfl
      refine ⟨_, ?_, rfl⟩
      show M_lackingBy_l1b (nI y) (nI p) (nI n) ν (M_lackingBy_l1 (nI y) (nI p) (nI n) ν f) (nI _) (nI (mT S p)) = _
      unfold M_lackingBy_l1b
      rw [rd_n (by omega) (by decide), cp.1, bS, if_neg (fun q => absurd ((lt_n (by omega) (by omega)).mp q) (by omega))]
      rfl
  unfold M_lackingBy
  rw [e, bS, hr]
theorem few_lack {S : St} {p d y n : Nat} (W : WF S) (hp : p < nPg S) : orF (fun t => decide (sN S 105 y t < pof S p d t * n)) (fun t => t) (nTh S) = lkN S p d y n := by
  have wp := W.pg.2.1 p hp
  refine bits_eq fun t => ?_
  unfold lkN
  rw [orF_iff, orF_iff]
  constructor
  · rintro ⟨t, h1, h2, rfl⟩
    have h2 := of_decide_eq_true h2
    obtain ⟨k, k1, k2, k3⟩ := pof_pos (p := p) (d := d) (t := t) W (by
      rcases Nat.eq_zero_or_pos (pof S p d t) with h | h
      · rw [h, Nat.zero_mul] at h2; omega
      · exact h)
    exact ⟨k, k1, decide_eq_true (by rw [k2, ← k3]; exact h2), k2⟩
  · rintro ⟨k, k1, k2, rfl⟩
    refine ⟨_, (wp.2.1 k k1).1, ?_, rfl⟩
    rw [pof_at W hp k1]; exact k2
theorem q_lacking (x y z u : Int32) : Cmd (B_lacking x y z u) (M_lacking x y z u) := by
  intro S μ ν W C R
  unfold B_lacking M_lacking
  rcases dy_arg W x with hx | ⟨dy, hdy, rfl⟩
  · rw [hasD0 C hx, isD0 W R hx, bS, bS, if_pos (by decide), if_pos (by decide)]; exact ⟨_, _, _, rfl, rfl, C, R⟩
  · rw [hasD1 W C hdy, isD1 W R hdy, bS, bS, if_neg (by decide), if_neg (by decide), within_in]
    rcases in_nat u 1 99 (by decide) (by decide) with he | ⟨n, n1, n2, rfl, he⟩
    · rw [he, bS, bS, if_pos (by decide), if_pos (by decide)]; exact ⟨_, _, _, rfl, rfl, C, R⟩
    · rw [he, bS, bS, if_neg (by decide), if_neg (by decide)]
      refine q_parts (fC := fun μ4 => (Account_tooFew (nI dy) (nI n) μ4).bind fun x5 => some (x5, μ4)) (fM := fun μ7 => (M_lackingBy (nI dy) y (nI n) μ7).bind fun x8 => some (x8, μ7)) W C R ?_
      rintro p i d μ ν hd hO hS hR hW
      obtain ⟨hp, rfl, -, -, -⟩ := hd
      simp only [few_C W hO hS hdy n2, lack_M W hR hp hW hdy n2, bS, few_lack W hp]
      exact ⟨_, _, _, rfl, rfl, hO.1, hR⟩
/-! enough -/
def mfN (S : St) (p d y : Nat) : Nat → Nat
  | 0 => 99
  | t + 1 => if 0 < pof S p d t then min (mfN S p d y t) (sN S 105 y t / pof S p d t) else mfN S p d y t
theorem mfN_le {S : St} {p d y : Nat} : ∀ {t : Nat}, mfN S p d y t ≤ 99 := by
  intro t
  induction t with
  | zero => exact Nat.le_refl _
  | succ t ih => unfold mfN; split <;> omega
theorem mfN_iff {S : St} {p d y n : Nat} : ∀ {t : Nat}, n ≤ mfN S p d y t ↔ n ≤ 99 ∧ ∀ t', t' < t → pof S p d t' * n ≤ sN S 105 y t' := by
  intro t
  induction t with
  | zero => exact ⟨fun h => ⟨h, fun t' h' => absurd h' (Nat.not_lt_zero t')⟩, fun h => h.1⟩
  | succ t ih =>
    unfold mfN
    by_cases h : 0 < pof S p d t
    · rw [if_pos h, Nat.le_min, ih, Nat.le_div_iff_mul_le h]
      constructor
      · rintro ⟨⟨a, b⟩, c⟩
        refine ⟨a, fun t' ht' => ?_⟩
        by_cases e : t' = t
        · subst e; rw [Nat.mul_comm]; exact c
        · exact b t' (by omega)
      · rintro ⟨a, b⟩
        refine ⟨⟨a, fun t' ht' => b t' (by omega)⟩, ?_⟩
        rw [Nat.mul_comm]; exact b t (by omega)
    · rw [if_neg h, ih]
      constructor
      · rintro ⟨a, b⟩
        refine ⟨a, fun t' ht' => ?_⟩
        by_cases e : t' = t
        · subst e; rw [show pof S p d t' = 0 by omega, Nat.zero_mul]; exact Nat.zero_le _
        · exact b t' (by omega)
      · rintro ⟨a, b⟩
        exact ⟨a, fun t' ht' => b t' (by omega)⟩
theorem mess_C {S : St} {p d y : Nat} {μ : Mem} (W : WF S) (h : On S p μ) (hs : Shw S p d μ) (hy : y < nDy S) : Account_messesFrom (nI y) μ = some (nI (mfN S p d y (nTh S))) := by
  have h12 := W.th.1
  have h10 := W.dy.1
  have hp := h.2.1
  obtain ⟨r, e, hr⟩ : ∃ r, Account_messesFrom_l1 (nI y) μ FU (nI 99) (nI 0) = some r ∧ r = nI (mfN S p d y (nTh S)) := by
    refine loopE (fun f v (s : Int32) => Account_messesFrom_l1 (nI y) μ f s v) (nTh S) (fun c s => s = nI (mfN S p d y c)) (fun r => r = nI (mfN S p d y (nTh S))) ?_ ?_ (nTh S) 0 (nI 99) FU (by omega) (FU_lt (by omega)) rfl
    · rintro f t s ht rfl
      left
      have h1 := pof_bd (d := d) (t := t) W hp
      have h2 := stock_bd W hy (show t < 12 by omega)
      have h3 := mfN_le (S := S) (p := p) (d := d) (y := y) (t := t)
      have h4 : sN S 105 y t / pof S p d t ≤ sN S 105 y t := Nat.div_le_self _ _
      refine ⟨nI (mfN S p d y (t + 1)), ?_, rfl⟩
      show Account_messesFrom_l1b (nI y) μ (Account_messesFrom_l1 (nI y) μ f) (nI _) (nI t) = _
      unfold Account_messesFrom_l1b
      have hu : mfN S p d y (t + 1) = if 0 < pof S p d t then min (mfN S p d y t) (sN S 105 y t / pof S p d t) else mfN S p d y t := rfl
      rw [h.1.th.1, if_pos ((lt_n (by omega) (by omega)).mpr ht), pof_C W h hs ht, bS]
      by_cases q : 0 < pof S p d t
      · rw [if_pos ((gt0_n (by omega)).mpr q), ix_n (by omega) (by decide), bS, rd_n (by omega) (by decide), h.1.dy.2.2 y t (by omega) (by omega), bS, dv_n (by omega) q (by omega), bS, jMin_n (by omega) (Nat.lt_of_le_of_lt h4 (by omega)), bS, bS, bS, add_n, hu, if_pos q]
      · rw [if_neg (fun z => q ((gt0_n (by omega)).mp z)), bS, bS, add_n, hu, if_neg q]
    · rintro f s rfl
      refine ⟨_, ?_, rfl⟩
      show Account_messesFrom_l1b (nI y) μ (Account_messesFrom_l1 (nI y) μ f) (nI _) (nI (nTh S)) = _
      unfold Account_messesFrom_l1b
      rw [h.1.th.1, if_neg (fun q => absurd ((lt_n (by omega) (by omega)).mp q) (by omega))]
  unfold Account_messesFrom
  rw [e, bS, hr]
theorem lk_zero {S : St} {p d y n : Nat} (W : WF S) (hp : p < nPg S) : lkN S p d y n = 0 ↔ ∀ t, t < nTh S → pof S p d t * n ≤ sN S 105 y t := by
  rw [← few_lack W hp]
  constructor
  · intro h t ht
    rcases Nat.lt_or_ge (sN S 105 y t) (pof S p d t * n) with q | q
    · have := (orF_iff (c := fun t => decide (sN S 105 y t < pof S p d t * n)) (b := fun t => t) (t := t) (n := nTh S)).mpr ⟨t, ht, decide_eq_true q, rfl⟩
      rw [h, Nat.zero_testBit] at this
      exact nomatch this
    · exact q
  · intro h
    refine bits_eq fun t => ?_
    rw [orF_iff, Nat.zero_testBit]
    constructor
    · rintro ⟨t, h1, h2, -⟩
      have := of_decide_eq_true h2
      have := h t h1
      omega
    · intro q; exact nomatch q
theorem en_M {S : St} {p d y : Nat} {ν : Mem} (W : WF S) (R : MR S ν) (hp : p < nPg S) (hW : ∀ k, k < mT S p → mI ν 1340 0 k = nI (prtP S p d k)) (hy : y < nDy S) : M_enough_l1 (nI y) (nI p) ν FU (nI 0) = some (nI (mfN S p d y (nTh S))) := by
  have h99 := mfN_le (S := S) (p := p) (d := d) (y := y) (t := nTh S)
  obtain ⟨r, e, hr⟩ : ∃ r, M_enough_l1 (nI y) (nI p) ν FU (nI 0) = some r ∧ r = nI (mfN S p d y (nTh S)) := by
    refine loopE (fun f v (_ : Unit) => M_enough_l1 (nI y) (nI p) ν f v) 99 (fun c _ => c ≤ mfN S p d y (nTh S)) (fun r => r = nI (mfN S p d y (nTh S))) ?_ ?_ 99 0 () FU rfl (FU_lt (by decide)) (Nat.zero_le _)
    · rintro f n - hn hI
      show (∃ s', M_enough_l1b (nI y) (nI p) ν (M_enough_l1 (nI y) (nI p) ν f) (nI n) = _ ∧ _) ∨ (∃ r, M_enough_l1b (nI y) (nI p) ν (M_enough_l1 (nI y) (nI p) ν f) (nI n) = _ ∧ _)
      have hlk : lkN S p d y (n + 1) < 4096 := Nat.lt_pow_two_of_testBit _ (n := 12) fun t ht => by
        cases hb : (lkN S p d y (n + 1)).testBit t with
        | false => rfl
        | true =>
          obtain ⟨k, k1, -, k2⟩ := orF_iff.mp hb
          have := ((W.pg.2.1 p hp).2.1 k k1).1
          have := W.th.1
          omega
      unfold M_enough_l1b
      rw [if_pos ((lt_n (by omega) (by decide)).mpr hn), add_n, lack_M W R hp hW hy (by omega), bS]
      by_cases q : lkN S p d y (n + 1) = 0
      · left
        rw [if_pos ((eq0_n (by omega)).mpr q), bS]
        exact ⟨(), rfl, mfN_iff.mpr ⟨by omega, (lk_zero W hp).mp q⟩⟩
      · right
        rw [if_neg (fun z => q ((eq0_n (by omega)).mp z))]
        refine ⟨_, rfl, ?_⟩
        have : ¬ n + 1 ≤ mfN S p d y (nTh S) := fun z => q ((lk_zero W hp).mpr (mfN_iff.mp z).2)
        rw [show mfN S p d y (nTh S) = n by omega]
    · rintro f - hI
      refine ⟨nI 99, ?_, by rw [show mfN S p d y (nTh S) = 99 by omega]⟩
      show M_enough_l1b (nI y) (nI p) ν (M_enough_l1 (nI y) (nI p) ν f) (nI 99) = _
      unfold M_enough_l1b
      rw [if_neg (by decide)]
  rw [e, hr]
theorem q_enough (x y z : Int32) : Cmd (B_enough x y z) (M_enough x y z) := by
  intro S μ ν W C R
  unfold B_enough M_enough
  rcases dy_arg W x with hx | ⟨dy, hdy, rfl⟩
  · rw [hasD0 C hx, isD0 W R hx, bS, bS, if_pos (by decide), if_pos (by decide)]; exact ⟨_, _, _, rfl, rfl, C, R⟩
  · rw [hasD1 W C hdy, isD1 W R hdy, bS, bS, if_neg (by decide), if_neg (by decide)]
    refine q_parts (fC := fun μ3 => (Account_messesFrom (nI dy) μ3).bind fun x4 => some (x4, μ3)) (fM := fun μ6 => (M_enough_l1 (nI dy) y μ6 FU (nI 0)).bind fun x7 => some (x7, μ6)) W C R ?_
    rintro p i d μ ν hd hO hS hR hW
    obtain ⟨hp, rfl, -, -, -⟩ := hd
    simp only [mess_C W hO hS hdy, en_M W hR hp hW hdy, bS]
    exact ⟨_, _, _, rfl, rfl, hO.1, hR⟩
/-! softer -/
def cmI (a b : Int32) : Int32 := if a < b then -1 else if a = b then nI 0 else nI 1
theorem cmp_eq (a b : Int32) : J_compare a b = some (cmI a b) := by
  unfold J_compare cmI
  split
  · rfl
  · split <;> rfl
def sfI (S : St) (p l m i : Nat) (k : Nat) (a : Int32) : Int32 := a + cmI (wthP S p (dx S p i) l) (wthP S p (dx S p k) l) * cmI (wthP S p (dx S p i) m) (wthP S p (dx S p k) m)
theorem lead2_C {S : St} {p l m i : Nat} {μ : Mem} {a1 a2 a3 : Int32} (hi : i < 300) (h : ∀ k, k ≤ i → mI μ 1106 0 k = wthP S p (dx S p k) l ∧ mI μ 1107 0 k = wthP S p (dx S p k) m) (acc : Int32) :
    Taster_lead_l2 a1 a2 a3 (nI i) μ FU acc (nI 0) = some (fo (sfI S p l m i) 0 i acc) := by
  obtain ⟨r, e, hr⟩ : ∃ r, Taster_lead_l2 a1 a2 a3 (nI i) μ FU acc (nI 0) = some r ∧ r = fo (sfI S p l m i) 0 i acc := by
    refine loopE (fun f v (s : Int32) => Taster_lead_l2 a1 a2 a3 (nI i) μ f s v) i (fun c s => fo (sfI S p l m i) c (i - c) s = fo (sfI S p l m i) 0 i acc) (fun r => r = fo (sfI S p l m i) 0 i acc) ?_ ?_ i 0 acc FU (by omega) (FU_lt (by omega)) (by rw [Nat.sub_zero])
    · rintro f k s hk hI
      left
      obtain ⟨e1, e2⟩ := h i (Nat.le_refl _)
      obtain ⟨e3, e4⟩ := h k (by omega)
      refine ⟨sfI S p l m i k s, ?_, ?_⟩
      · show Taster_lead_l2b a1 a2 a3 (nI i) μ (Taster_lead_l2 a1 a2 a3 (nI i) μ f) s (nI k) = _
        unfold Taster_lead_l2b
        rw [if_pos ((lt_n (by omega) (by omega)).mpr hk), rd_n (by omega) (by decide), e1, bS, rd_n (by omega) (by decide), e3, bS, cmp_eq, bS, rd_n (by omega) (by decide), e2, bS, rd_n (by omega) (by decide), e4, bS, cmp_eq, bS, bS, bS, add_n]
        rfl
      · rw [← hI, fo_s (show 0 < i - k by omega), show i - k - 1 = i - (k + 1) by omega]
    · rintro f s hI
      refine ⟨s, ?_, by rw [← hI, Nat.sub_self]; rfl⟩
      show Taster_lead_l2b a1 a2 a3 (nI i) μ (Taster_lead_l2 a1 a2 a3 (nI i) μ f) s (nI i) = _
      unfold Taster_lead_l2b
      rw [if_neg (fun q => absurd ((lt_n (by omega) (by omega)).mp q) (by omega))]
  rw [e, hr]
theorem lead2_M {S : St} {p l m i : Nat} {μ : Mem} {a1 a2 a3 : Int32} (hi : i < 300) (h : ∀ k, k ≤ i → mI μ 1380 0 k = wthP S p (dx S p k) l ∧ mI μ 1381 0 k = wthP S p (dx S p k) m) (acc : Int32) :
    M_softer_l2 a1 a2 a3 (nI i) μ FU acc (nI 0) = some (fo (sfI S p l m i) 0 i acc) := by
  obtain ⟨r, e, hr⟩ : ∃ r, M_softer_l2 a1 a2 a3 (nI i) μ FU acc (nI 0) = some r ∧ r = fo (sfI S p l m i) 0 i acc := by
    refine loopE (fun f v (s : Int32) => M_softer_l2 a1 a2 a3 (nI i) μ f s v) i (fun c s => fo (sfI S p l m i) c (i - c) s = fo (sfI S p l m i) 0 i acc) (fun r => r = fo (sfI S p l m i) 0 i acc) ?_ ?_ i 0 acc FU (by omega) (FU_lt (by omega)) (by rw [Nat.sub_zero])
    · rintro f k s hk hI
      left
      obtain ⟨e1, e2⟩ := h i (Nat.le_refl _)
      obtain ⟨e3, e4⟩ := h k (by omega)
      refine ⟨sfI S p l m i k s, ?_, ?_⟩
      · show M_softer_l2b a1 a2 a3 (nI i) μ (M_softer_l2 a1 a2 a3 (nI i) μ f) s (nI k) = _
        unfold M_softer_l2b
        rw [if_pos ((lt_n (by omega) (by omega)).mpr hk), rd_n (by omega) (by decide), e1, bS, rd_n (by omega) (by decide), e3, bS, cmp_eq, bS, rd_n (by omega) (by decide), e2, bS, rd_n (by omega) (by decide), e4, bS, cmp_eq, bS, bS, bS, add_n]
        rfl
      · rw [← hI, fo_s (show 0 < i - k by omega), show i - k - 1 = i - (k + 1) by omega]
    · rintro f s hI
      refine ⟨s, ?_, by rw [← hI, Nat.sub_self]; rfl⟩
      show M_softer_l2b a1 a2 a3 (nI i) μ (M_softer_l2 a1 a2 a3 (nI i) μ f) s (nI i) = _
      unfold M_softer_l2b
      rw [if_neg (fun q => absurd ((lt_n (by omega) (by omega)).mp q) (by omega))]
  rw [e, hr]
theorem q_softer (x y z : Int32) : Cmd (B_softer x y z) (M_softer x y z) := by
  intro S μ ν W C R
  unfold B_softer M_softer
  rcases law_arg W y with hy | ⟨l, hl, rfl⟩
  · rw [hasL0 C hy, isL0 W R hy, bS, bS, if_pos (by decide), if_pos (by decide)]; exact ⟨_, _, _, rfl, rfl, C, R⟩
  · rw [hasL1 W C hl, isL1 W R hl, bS, bS, if_neg (by decide), if_neg (by decide)]
    rcases law_arg W z with hz | ⟨m, hm, rfl⟩
    · rw [hasL0 C hz, isL0 W R hz, bS, bS, if_pos (by decide), if_pos (by decide)]; exact ⟨_, _, _, rfl, rfl, C, R⟩
    · rw [hasL1 W C hm, isL1 W R hm, bS, bS, if_neg (by decide), if_neg (by decide)]
      rcases pg_arg W x with hx | ⟨p, hp, rfl⟩
      · rw [laid_out C hx, told_out W R hx, bS, bS]; simp only []; rw [if_pos (by decide), if_pos (by decide)]; exact ⟨_, _, _, rfl, rfl, C, R⟩
      · obtain ⟨μ1, a1, a2, -⟩ := laid_eq W C hp
        rw [a1, bS]
        simp only []
        by_cases ht : told S p
        · obtain ⟨ν1, b1, b2, b3, -⟩ := told_yes W R hp ht
          have h5 := dl_le ht
          rw [cnt_told ht, b1, bS]
          simp only []
          rw [if_neg (nI_pos (by omega)), if_neg (c := nI 1 = 0) (by decide), b3.1]
          by_cases h3 : 300 < (dl S p).length
          · rw [if_pos ((lt_n (by decide) (by omega)).mpr h3), if_pos ((lt_n (by decide) (by omega)).mpr h3)]; exact ⟨_, _, _, rfl, rfl, a2.1, b2⟩
          · rw [if_neg (fun q => h3 ((lt_n (by decide) (by omega)).mp q)), if_neg (fun q => h3 ((lt_n (by decide) (by omega)).mp q))]
            let g : Nat → Int32 → Int32 := fun i a => fo (sfI S p l m i) 0 i a
            obtain ⟨μ3, e1, e2, -⟩ := C_over (S := S) (p := p) (fun f i (s : Int32 × Mem) => Taster_lead_l1 (nI l) (nI m) (nI (dl S p).length) f s.1 i s.2) g (fun a μ => (a, μ)) (fun i _ μ => ∀ k, k < i → mI μ 1106 0 k = wthP S p (dx S p k) l ∧ mI μ 1107 0 k = wthP S p (dx S p k) m) ht (by
              rintro f i acc μ hi hd hO hJ
              obtain ⟨μ1, c1, c2, c3, c4⟩ := show_eq W hO ht hd
              obtain ⟨μ2, d1, d2, d3⟩ := shw_val W c2 c3 hl
              have F1 : Fr [1106] μ2 (mSI μ2 1106 0 i (wthP S p (dx S p i) l)) := fr_si (by simp) Fr.refl
              have hS2 : Shw S p (dx S p i) (mSI μ2 1106 0 i (wthP S p (dx S p i) l)) := ⟨fun k hk => by rw [F1.i 917 (by decide), d3.i 917 (by decide)]; exact c3.1 k hk, fun k hk => by rw [F1.i 918 (by decide), d3.i 918 (by decide)]; exact c3.2 k hk⟩
              obtain ⟨μ3, f1, f2, f3⟩ := shw_val W (d2.fr F1 (by decide)) hS2 hm
              have F4 : Fr [1107] μ3 (mSI μ3 1107 0 i (wthP S p (dx S p i) m)) := fr_si (by simp) Fr.refl
              have hJ2 : ∀ k, k < i + 1 → mI (mSI μ3 1107 0 i (wthP S p (dx S p i) m)) 1106 0 k = wthP S p (dx S p k) l ∧ mI (mSI μ3 1107 0 i (wthP S p (dx S p i) m)) 1107 0 k = wthP S p (dx S p k) m := by
                intro k hk
                rw [iS_v (by decide), f3.i 1106 (by decide)]
                by_cases e : k = i
                · subst e; exact ⟨iS_eq, iS_eq⟩
                · rw [iS_c e, iS_c e, d3.i 1106 (by decide), c4.i 1106 (by decide), f3.i 1107 (by decide), F1.i 1107 (by decide), d3.i 1107 (by decide), c4.i 1107 (by decide)]
                  exact hJ k (by omega)
              refine ⟨mSI μ3 1107 0 i (wthP S p (dx S p i) m), ?_, f2.fr F4 (by decide), hJ2⟩
              show Taster_lead_l1b (nI l) (nI m) (nI (dl S p).length) (Taster_lead_l1 (nI l) (nI m) (nI (dl S p).length) f) acc (nI i) μ = _
              unfold Taster_lead_l1b
              rw [if_pos ((lt_n (by omega) (by omega)).mpr hi), c1, bS, d1, bS]
              simp only []
              rw [wr_n (by omega) (by decide), bS, f1, bS]
              simp only []
              rw [wr_n (by omega) (by decide), bS, lead2_C (S := S) (p := p) (l := l) (m := m) (i := i) (by omega) (fun k hk => hJ2 k (by omega)) acc, bS, bS, add_n]) (by
              rintro f acc μ hO
              show Taster_lead_l1b (nI l) (nI m) (nI (dl S p).length) (Taster_lead_l1 (nI l) (nI m) (nI (dl S p).length) f) acc (nI _) μ = _
              unfold Taster_lead_l1b
              rw [if_neg (fun q => absurd ((lt_n (by omega) (by omega)).mp q) (by omega))]) (k := 0) (acc := nI 0) (Nat.zero_le _) a2 (fun k hk => absurd hk (by omega))
            obtain ⟨ν3, f1, f2, -, -⟩ := M_over (S := S) (p := p) (fun f i (s : Int32 × Mem) => M_softer_l1 (nI p) (nI l) (nI m) f s.1 i s.2) g (fun a μ => (a, μ)) (fun i _ ν => ∀ k, k < i → mI ν 1380 0 k = wthP S p (dx S p k) l ∧ mI ν 1381 0 k = wthP S p (dx S p k) m) ht (by
              rintro f i acc ν hi hd hR hF hJ
              obtain ⟨ν1, c1, c2, c3, c5, c4⟩ := go_M W hR hp ht hF hd
              obtain ⟨ν2, d1, d2, d3⟩ := wnt_val W c2 c5 hl
              have F1 : Fr [1380] ν2 (mSI ν2 1380 0 i (wthP S p (dx S p i) l)) := fr_si (by simp) Fr.refl
              have hS2 : Wnt S p (dx S p i) (mSI ν2 1380 0 i (wthP S p (dx S p i) l)) := ⟨fun k hk => by rw [F1.i 1340 (by decide), d3.i 1340 (by decide)]; exact c5.1 k hk, fun k hk => by rw [F1.i 1332 (by decide), d3.i 1332 (by decide)]; exact c5.2 k hk⟩
              obtain ⟨ν3, f1, f2, f3⟩ := wnt_val W (d2.fr F1 (by decide)) hS2 hm
              have F4 : Fr [1381] ν3 (mSI ν3 1381 0 i (wthP S p (dx S p i) m)) := fr_si (by simp) Fr.refl
              have hJ2 : ∀ k, k < i + 1 → mI (mSI ν3 1381 0 i (wthP S p (dx S p i) m)) 1380 0 k = wthP S p (dx S p k) l ∧ mI (mSI ν3 1381 0 i (wthP S p (dx S p i) m)) 1381 0 k = wthP S p (dx S p k) m := by
                intro k hk
                rw [iS_v (by decide), f3.i 1380 (by decide)]
                by_cases e : k = i
                · subst e; exact ⟨iS_eq, iS_eq⟩
                · rw [iS_c e, iS_c e, d3.i 1380 (by decide), c4.i 1380 (by decide), f3.i 1381 (by decide), F1.i 1381 (by decide), d3.i 1381 (by decide), c4.i 1381 (by decide)]
                  exact hJ k (by omega)
              have FF : Fr [1333, 1380, 1381] ν1 (mSI ν3 1381 0 i (wthP S p (dx S p i) m)) := ((d3.mono (by simp)).trans (F1.mono (by simp))).trans ((f3.mono (by simp)).trans (F4.mono (by simp)))
              refine ⟨mSI ν3 1381 0 i (wthP S p (dx S p i) m), ?_, f2.fr F4 (by decide), ⟨by rw [FF.i 1342 (by decide)]; exact c3.1, by rw [FF.i 1341 (by decide)]; exact c3.2⟩, hJ2⟩
              show M_softer_l1b (nI p) (nI l) (nI m) (M_softer_l1 (nI p) (nI l) (nI m) f) acc (nI i) ν = _
              unfold M_softer_l1b
              rw [hF.1, if_pos ((lt_n (by omega) (by omega)).mpr hi), c1, bS, d1, bS]
              simp only []
              rw [wr_n (by omega) (by decide), bS, f1, bS]
              simp only []
              rw [wr_n (by omega) (by decide), bS, lead2_M (S := S) (p := p) (l := l) (m := m) (i := i) (by omega) (fun k hk => hJ2 k (by omega)) acc, bS, bS, add_n]) (by
              rintro f acc ν hR hF
              show M_softer_l1b (nI p) (nI l) (nI m) (M_softer_l1 (nI p) (nI l) (nI m) f) acc (nI _) ν = _
              unfold M_softer_l1b
              rw [hF.1, if_neg (fun q => absurd ((lt_n (by omega) (by omega)).mp q) (by omega))]) (k := 0) (acc := nI 0) (Nat.zero_le _) b2 b3 (fun k hk => absurd hk (by omega))
            unfold Taster_lead
            rw [shown_n W a2 ht, bS, jMin_n (by omega) (by decide), bS, show min (dl S p).length 300 = (dl S p).length by omega]
            simp only [show Taster_lead_l1 (nI l) (nI m) (nI (dl S p).length) FU (nI 0) (nI 0) μ1 = _ from e1, show M_softer_l1 (nI p) (nI l) (nI m) FU (nI 0) (nI 0) ν1 = _ from f1, bS]
            exact ⟨_, _, _, rfl, rfl, e2.1, f2⟩
        · obtain ⟨ν1, b1, b2⟩ := told_not W R hp ht
          rw [cnt_not ht, b1, bS]
          simp only []
          rw [if_pos (by decide), if_pos (by decide)]
          exact ⟨_, _, _, rfl, rfl, a2.1, b2⟩
