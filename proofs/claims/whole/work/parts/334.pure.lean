/-! PURE: menus in the reference -/
theorem fpt_le {S : St} {p t : Nat} (W : WF S) (hp : p < nPg S) (hb : ∀ d k, k < mT S p → prtP S p d k ≤ 99) : fpt S p t ≤ 99 := by
  unfold fpt
  split
  · rename_i k hk
    have := List.mem_of_find?_eq_some hk
    exact hb _ k (List.mem_range.mp this)
  · omega
theorem prt_99 {S : St} {p : Nat} (W : WF S) (hp : p < nPg S) (d k : Nat) (hk : k < mT S p) : prtP S p d k ≤ 99 := by
  have wp := W.pg.2.1 p hp
  obtain ⟨-, w2, w3, w4, w5⟩ := wp.2.1 k hk
  have hm := W.ho.1
  unfold prtP loP wdP
  by_cases h : sN S 704 p k = 0
  · rw [if_pos h, if_pos h]
    have := Nat.mod_lt (d / strP S p k) (show 0 < sN S 903 0 0 by omega)
    omega
  · rw [if_neg h, if_neg h]
    have := Nat.mod_lt (d / strP S p k) (show 0 < sN S 705 p k - sN S 704 p k + 1 by omega)
    omega
theorem mN_le {S : St} {d a i t : Nat} (W : WF S) (hi : i < mm S a) : mN S d a i t ≤ 99 := by
  unfold mN
  split
  · exact fpt_le W (mq_lt hi).1 (prt_99 W (mq_lt hi).1)
  · omega
theorem us_le {S : St} {d a : Nat} {x : Nat → Nat} {t : Nat} (W : WF S) : ∀ {k : Nat}, k ≤ mm S a → (∀ i, i < k → x i ≤ 9) → usN S d a x t k ≤ 891 * k := by
  intro k
  induction k with
  | zero => intro _ _; exact Nat.zero_le _
  | succ k ih =>
    intro hk h
    have h1 := ih (by omega) (fun i hi => h i (by omega))
    have h2 := mN_le (d := d) (t := t) W (show k < mm S a by omega)
    have h3 := h k (by omega)
    have h4 : mN S d a k t * x k ≤ 99 * 9 := Nat.mul_le_mul h2 h3
    show usN S d a x t k + mN S d a k t * x k ≤ _
    omega
def R_mn (S : St) (d a : Nat) (ν : Mem) : Prop := mI ν 1364 0 0 = nI (mm S a) ∧ mI ν 1365 0 0 = nI (mG S a) ∧ ∀ i, i < mm S a → mI ν 1359 0 i = nI (mq S a i) ∧ mI ν 1360 0 i = nI (srvB S d (mq S a i)).toNat ∧ ∀ t, t < 12 → mI ν 1361 0 (12 * i + t) = nI (mN S d a i t)
def R_x (S : St) (a : Nat) (x : Nat → Nat) (ν : Mem) : Prop := ∀ i, i < mm S a → mI ν 1362 0 i = nI (x i)
theorem in_sub {b u k : Nat} (hb : b < 1000000) (hu : u < 1000000) (hk : k < 1000000) : M_in (nI b - nI u) (nI 0) (nI k) = some (nI (decide (u ≤ b) && decide (b - u ≤ k)).toNat) := by
  by_cases h : u ≤ b
  · rw [sub_n h, decide_eq_true h, Bool.true_and]
    by_cases h2 : b - u ≤ k
    · rw [decide_eq_true h2, in_pos (fun z => absurd ((lt_n (by omega) (by omega)).mp z) (by omega)) (fun z => absurd ((lt_n (by omega) (by omega)).mp z) (by omega))]; rfl
    · rw [decide_eq_false h2, in_neg (Or.inr ((lt_n (by omega) (by omega)).mpr (by omega)))]; rfl
  · rw [decide_eq_false h, Bool.false_and, in_neg (Or.inl ?_)]
    · rfl
    · have e1 := nI_toInt (n := b) (by omega)
      have e2 := nI_toInt (n := u) (by omega)
      have e3 : ((b : Int) - u).bmod (2 ^ 32) = b - u := Int.bmod_eq_of_le (by omega) (by omega)
      have e4 : (nI 0).toInt = 0 := by decide
      rw [Int32.lt_iff_toInt_lt, Int32.toInt_sub, e1, e2, e3, e4]
      omega
