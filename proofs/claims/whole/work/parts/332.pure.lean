/-! PURE: menus, what is asked and what is counted -/
def mpg (S : St) (a : Nat) : List Nat := (List.range (nPg S)).filter fun p => a.testBit p
def mq (S : St) (a i : Nat) : Nat := (mpg S a).getD i 0
def mm (S : St) (a : Nat) : Nat := (mpg S a).length
def mcap (S : St) (d a i : Nat) : Nat := if srvB S d (mq S a i) then 9 else 0
/-- the parts of a thing on a page's first dish -/
def fpt (S : St) (p t : Nat) : Nat := match plS S p t with
  | some k => prtP S p (dx S p 0) k
  | none => 0
def mN (S : St) (d a i t : Nat) : Nat := if srvB S d (mq S a i) then fpt S (mq S a i) t else 0
def mG (S : St) (a : Nat) : Nat := (mpg S a).foldl (fun g p => g ||| sN S 706 0 p) 0
theorem mq_lt {S : St} {a i : Nat} (h : i < mm S a) : mq S a i < nPg S ∧ a.testBit (mq S a i) = true := by
  unfold mq
  have hm : (mpg S a)[i] ∈ mpg S a := List.getElem_mem h
  rw [List.getD_eq_getElem?_getD, List.getElem?_eq_getElem h]
  have := List.mem_filter.mp hm
  exact ⟨List.mem_range.mp this.1, this.2⟩
theorem filt_len {a : Nat} : ∀ n, ((List.range n).filter fun p => a.testBit p).length = bcN a n := by
  intro n
  induction n with
  | zero => rfl
  | succ n ih =>
    rw [List.range_succ, List.filter_append, List.length_append, ih]
    show _ = bcN a n + (a.testBit n).toNat
    cases h : a.testBit n <;> simp [h]
theorem bcN_hi {a n : Nat} (h : a < 2 ^ n) : ∀ k, bcN a (n + k) = bcN a n := by
  intro k
  induction k with
  | zero => rfl
  | succ k ih =>
    show bcN a (n + k) + (a.testBit (n + k)).toNat = _
    rw [ih, Nat.testBit_lt_two_pow (Nat.lt_of_lt_of_le h (Nat.pow_le_pow_right (by decide) (by omega)))]; rfl
theorem mm_pc {S : St} {a : Nat} (W : WF S) (h : a < 2 ^ nPg S) : mm S a = pcN a := by
  have h16 := W.pg.1
  have h2 : a < 65536 := Nat.lt_of_lt_of_le h (Nat.pow_le_pow_right (n := 2) (by decide) h16)
  unfold mm mpg
  rw [filt_len, pc_bc h2, show 16 = nPg S + (16 - nPg S) by omega, bcN_hi h]
/-- what is left of a thing after the first k places -/
def usN (S : St) (d a : Nat) (x : Nat → Nat) (t : Nat) : Nat → Nat
  | 0 => 0
  | k + 1 => usN S d a x t k + mN S d a k t * x k
theorem us_mono {S : St} {d a : Nat} {x : Nat → Nat} {t : Nat} : ∀ {k j : Nat}, k ≤ j → usN S d a x t k ≤ usN S d a x t j := by
  intro k j h
  induction j with
  | zero => rw [Nat.le_zero.mp h]; exact Nat.le_refl _
  | succ j ih =>
    by_cases e : k = j + 1
    · rw [e]; exact Nat.le_refl _
    · exact Nat.le_trans (ih (by omega)) (Nat.le_add_right _ _)
theorem us_congr {S : St} {d a : Nat} {x y : Nat → Nat} {t : Nat} : ∀ {k : Nat}, (∀ i, i < k → x i = y i) → usN S d a x t k = usN S d a y t k := by
  intro k
  induction k with
  | zero => intro _; rfl
  | succ k ih => intro h; show usN S d a x t k + mN S d a k t * x k = usN S d a y t k + mN S d a k t * y k; rw [ih (fun i hi => h i (by omega)), h k (by omega)]
/-- a vector is a menu: of no thing of the pages more than there is, and of none too much left -/
def isMn (S : St) (d a K : Nat) (x : Nat → Nat) : Bool := (List.range (nTh S)).all fun t => !(mG S a).testBit t || (decide (usN S d a x t (mm S a) ≤ sN S 105 d t) && decide (sN S 105 d t - usN S d a x t (mm S a) ≤ K))
theorem isMn_iff {S : St} {d a K : Nat} {x : Nat → Nat} : isMn S d a K x = true ↔ ∀ t, t < nTh S → (mG S a).testBit t = true → usN S d a x t (mm S a) ≤ sN S 105 d t ∧ sN S 105 d t - usN S d a x t (mm S a) ≤ K := by
  unfold isMn
  rw [List.all_eq_true]
  constructor
  · intro h t ht hb
    have := h t (List.mem_range.mpr ht)
    rw [hb] at this
    simp at this
    omega
  · intro h t ht
    have := h t (List.mem_range.mp ht)
    cases hb : (mG S a).testBit t with
    | false => rfl
    | true => have := this hb; simp; omega
