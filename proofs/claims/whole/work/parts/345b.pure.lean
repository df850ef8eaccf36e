/-! PURE: menus that are alike but for the last page, as one fold -/
theorem fo_last {A : Type} {g : Nat → A → A} : ∀ {m k : Nat} {a : A}, fo g k (m + 1) a = g (k + m) (fo g k m a) := by
  intro m
  induction m with
  | zero => intro k a; rfl
  | succ m ih =>
    intro k a
    show fo g (k + 1) (m + 1) (g k a) = _
    rw [ih, show k + 1 + m = k + (m + 1) by omega]
    rfl
theorem fo_id {A : Type} {g : Nat → A → A} {a : A} : ∀ {m k : Nat}, (∀ i, k ≤ i → i < k + m → g i a = a) → fo g k m a = a := by
  intro m
  induction m with
  | zero => intro k _; rfl
  | succ m ih =>
    intro k h
    show fo g (k + 1) m (g k a) = a
    rw [h k (Nat.le_refl _) (by omega)]
    exact ih fun i h1 h2 => h i (by omega) (by omega)
theorem fo_app {A : Type} {g : Nat → A → A} {n : Nat} : ∀ {m k : Nat} {a : A}, fo g k (m + n) a = fo g (k + m) n (fo g k m a) := by
  intro m
  induction m with
  | zero => intro k a; rw [Nat.zero_add]; rfl
  | succ m ih =>
    intro k a
    rw [show m + 1 + n = (m + n) + 1 by omega]
    show fo g (k + 1) (m + n) (g k a) = _
    rw [ih, show k + 1 + m = k + (m + 1) by omega]
    rfl
theorem any_congr {S : St} {a : Nat} {x y : Nat → Nat} : ∀ {k : Nat}, (∀ i, i < k → x i = y i) → anyN S a x k = anyN S a y k := by
  intro k
  induction k with
  | zero => intro _; rfl
  | succ k ih =>
    intro h
    show anyN S a x k ||| (if 0 < x k then 2 ^ mq S a k else 0) = anyN S a y k ||| (if 0 < y k then 2 ^ mq S a k else 0)
    rw [ih (fun i hi => h i (by omega)), h k (by omega)]
theorem tot_congr {x y : Nat → Nat} : ∀ {k : Nat}, (∀ i, i < k → x i = y i) → totN x k = totN y k := by
  intro k
  induction k with
  | zero => intro _; rfl
  | succ k ih => intro h; show totN x k + x k = totN y k + y k; rw [ih (fun i hi => h i (by omega)), h k (by omega)]
theorem upX_lt {x : Nat → Nat} {k v i : Nat} (h : i < k) : upX x k v i = x i := by unfold upX; rw [if_neg (by omega)]
theorem upX_eq {x : Nat → Nat} {k v : Nat} : upX x k v k = v := by unfold upX; rw [if_pos rfl]
/-- the pages used, with v messes of the last -/
def avN (S : St) (a k : Nat) (x : Nat → Nat) (v : Nat) : Nat := anyN S a x k ||| (if 0 < v then 2 ^ mq S a k else 0)
theorem any_up {S : St} {a k v : Nat} {x : Nat → Nat} (hk : k + 1 = mm S a) : anyN S a (upX x k v) (mm S a) = avN S a k x v := by
  rw [← hk]
  show anyN S a (upX x k v) k ||| (if 0 < upX x k v k then 2 ^ mq S a k else 0) = _
  rw [any_congr (x := upX x k v) (y := x) (k := k) (fun i hi => upX_lt hi), upX_eq]
  rfl
theorem tot_up {S : St} {a k v : Nat} {x : Nat → Nat} (hk : k + 1 = mm S a) : totN (upX x k v) (mm S a) = totN x k + v := by
  rw [← hk]
  show totN (upX x k v) k + upX x k v k = _
  rw [tot_congr (x := upX x k v) (y := x) (k := k) (fun i hi => upX_lt hi), upX_eq]
theorem av_and {S : St} {a k u v : Nat} {x : Nat → Nat} (h : u < v) : avN S a k x u &&& avN S a k x v = avN S a k x u := by
  unfold avN
  rw [if_pos (show 0 < v by omega)]
  apply Nat.eq_of_testBit_eq
  intro i
  by_cases hu : 0 < u
  · rw [if_pos hu, Nat.and_self]
  · rw [if_neg hu, Nat.testBit_and, Nat.testBit_or, Nat.testBit_or, Nat.zero_testBit]
    cases (anyN S a x k).testBit i <;> simp
theorem av_or {S : St} {a k u v : Nat} {x : Nat → Nat} (h : u < v) : avN S a k x u ||| avN S a k x v = avN S a k x v := by
  unfold avN
  rw [if_pos (show 0 < v by omega)]
  apply Nat.eq_of_testBit_eq
  intro i
  by_cases hu : 0 < u
  · rw [if_pos hu, Nat.or_self]
  · rw [if_neg hu, Nat.testBit_or, Nat.testBit_or, Nat.testBit_or, Nat.zero_testBit]
    cases (anyN S a x k).testBit i <;> simp
/-- what j + 1 menus more make of the count, from u messes of the last page on -/
def blkP (S : St) (d a k : Nat) (tg : Int32) (x : Nat → Nat) (u j : Nat) (c e : AcT) : Prop :=
  e.1.1 = c.1.1 + j + 1 ∧ e.1.2.1 = (if c.1.1 = 0 then avN S a k x u else c.1.2.1 &&& avN S a k x u) ∧ e.1.2.2.1 = c.1.2.2.1 ||| avN S a k x (u + j) ∧
  e.1.2.2.2.1 = (if c.1.1 = 0 then totN x k + u else min c.1.2.2.2.1 (totN x k + u)) ∧ e.1.2.2.2.2 = (if c.1.1 = 0 then totN x k + (u + j) else max c.1.2.2.2.2 (totN x k + (u + j))) ∧
  e.2.1 = lnS (c.1.1 + j) (ovN S d a k x 12 - (u + j) * eaN S d a k 12) c ∧
  (∀ i, i ≤ j → tg = nI (c.1.1 + i) → e.2.2.1 = ovN S d a k x 12 - (u + i) * eaN S d a k 12 ∧ e.2.2.2 = upX x k (u + i)) ∧
  ((∀ i, i ≤ j → ¬ tg = nI (c.1.1 + i)) → e.2.2 = c.2.2)
theorem blk_ok {S : St} {d a k r : Nat} {tg : Int32} {x : Nat → Nat} {c : AcT} (W : WF S) (hd : d < nDy S) (h5 : mm S a ≤ 5) (hk : k + 1 = mm S a) (hr9 : r ≤ 9) (hx : ∀ i, i < k → x i ≤ 9) (hr : ∀ t, t < 12 → usN S d a x t k + mN S d a k t * r ≤ sN S 105 d t) (hE : 0 < r → 0 < eaN S d a k 12) (o : AcOk c) (u : Nat) :
    ∀ j, u + j ≤ r → c.1.1 + j + 1 ≤ 900000 → blkP S d a k tg x u j c (fo (fun v e => noteS S d a tg (upX x k v) e) u (j + 1) c) ∧ AcOk (fo (fun v e => noteS S d a tg (upX x k v) e) u (j + 1) c) := by
  have h12 := W.th.1
  have hw : ∀ v, v ≤ r → wsN S d a (upX x k v) (nTh S) = ovN S d a k x 12 - v * eaN S d a k 12 ∧ v * eaN S d a k 12 ≤ ovN S d a k x 12 := by
    intro v hv
    have h1 := ws_up (d := d) (x := x) (v := v) hk (fun t ht => by
      have h2 := hr t ht
      have h3 : mN S d a k t * v ≤ mN S d a k t * r := Nat.mul_le_mul_left _ hv
      omega) (T := 12) (Nat.le_refl _)
    have h2 := ws_12 (d := d) (a := a) (x := upX x k v) W (12 - nTh S)
    rw [show nTh S + (12 - nTh S) = 12 by omega] at h2
    rw [← h2]
    omega
  have hx9 : ∀ v, v ≤ r → ∀ i, i < mm S a → upX x k v i ≤ 9 := by
    intro v hv i hi
    by_cases e : i = k
    · subst e; rw [upX_eq]; omega
    · rw [upX_lt (by omega)]; exact hx i (by omega)
  intro j
  induction j with
  | zero =>
    intro hj hc
    show blkP S d a k tg x u 0 c (noteS S d a tg (upX x k u) c) ∧ AcOk (noteS S d a tg (upX x k u) c)
    refine ⟨?_, note_ok W hd h5 (hx9 u (by omega)) o (by omega)⟩
    unfold blkP noteS
    simp only []
    rw [any_up hk, tot_up hk, (hw u (by omega)).1]
    refine ⟨by first | trivial | rfl, by first | trivial | rfl, by first | trivial | rfl, by first | trivial | rfl, by first | trivial | rfl, by first | trivial | rfl, fun i hi ht => ?_, fun h => ?_⟩
    · have : i = 0 := by omega
      subst this
      have h1 : nI c.1.1 = tg := ht.symm
      rw [if_pos h1, if_pos h1]
      exact ⟨rfl, rfl⟩
    · have h1 : ¬ nI c.1.1 = tg := fun z => h 0 (Nat.le_refl _) z.symm
      rw [if_neg h1, if_neg h1] <;> rfl
  | succ j ih =>
    intro hj hc
    obtain ⟨⟨b1, b2, b3, b4, b5, b6, b7, b8⟩, oj⟩ := ih (by omega) (by omega)
    rw [fo_last (m := j + 1)]
    obtain ⟨e, he⟩ : ∃ e, e = fo (fun v e => noteS S d a tg (upX x k v) e) u (j + 1) c := ⟨_, rfl⟩
    rw [← he] at b1 b2 b3 b4 b5 b6 b7 b8 oj ⊢
    show blkP S d a k tg x u (j + 1) c (noteS S d a tg (upX x k (u + (j + 1))) e) ∧ AcOk (noteS S d a tg (upX x k (u + (j + 1))) e)
    refine ⟨?_, note_ok W hd h5 (hx9 _ (by omega)) oj (by omega)⟩
    obtain ⟨w1, w1'⟩ := hw (u + (j + 1)) (by omega)
    obtain ⟨-, w2'⟩ := hw (u + j) (by omega)
    have hE' := hE (by omega)
    have hs : (u + (j + 1)) * eaN S d a k 12 = (u + j) * eaN S d a k 12 + eaN S d a k 12 := by rw [show u + (j + 1) = (u + j) + 1 by omega, Nat.succ_mul]
    have n0 : ¬ e.1.1 = 0 := by omega
    unfold blkP noteS
    simp only []
    rw [any_up hk, tot_up hk, w1, if_neg n0, if_neg n0, if_neg n0, b2, b3, b4, b5]
    obtain ⟨E, hEE⟩ : ∃ E, E = eaN S d a k 12 := ⟨_, rfl⟩
    obtain ⟨O, hO⟩ : ∃ O, O = ovN S d a k x 12 := ⟨_, rfl⟩
    rw [← hEE] at b6 b7 hE' w1' w2' hs ⊢
    rw [← hO] at b6 b7 w1' w2' ⊢
    refine ⟨by omega, ?_, ?_, ?_, ?_, ?_, fun i hi ht => ?_, fun h => ?_⟩
    · by_cases h0 : c.1.1 = 0
      · simp only [if_pos h0]; exact av_and (by omega)
      · simp only [if_neg h0]; rw [Nat.and_assoc, av_and (by omega)]
    · rw [Nat.or_assoc, av_or (by omega)]
    · by_cases h0 : c.1.1 = 0
      · simp only [if_pos h0]; omega
      · simp only [if_neg h0]; omega
    · by_cases h0 : c.1.1 = 0
      · simp only [if_pos h0]; omega
      · simp only [if_neg h0]; omega
    · rw [b6, b1]
      unfold lnS
      by_cases h0 : c.1.1 = 0 ∨ O - (u + j) * E < c.2.1.2.2
      · rw [if_pos h0]
        have h1 : c.1.1 = 0 ∨ O - (u + (j + 1)) * E < c.2.1.2.2 := h0.elim Or.inl fun z => Or.inr (by omega)
        rw [if_pos h1, if_pos (show c.1.1 + j + 1 = 0 ∨ O - (u + (j + 1)) * E < ((1, c.1.1 + j, O - (u + j) * E) : Nat × Nat × Nat).2.2 from Or.inr (by show O - (u + (j + 1)) * E < O - (u + j) * E; omega))] <;> rfl
      · rw [if_neg h0]
        by_cases h2 : O - (u + j) * E = c.2.1.2.2
        · have h1 : c.1.1 = 0 ∨ O - (u + (j + 1)) * E < c.2.1.2.2 := Or.inr (by omega)
          rw [if_pos h2, if_pos h1, if_pos (show c.1.1 + j + 1 = 0 ∨ O - (u + (j + 1)) * E < ((c.2.1.1 + 1, c.2.1.2.1, c.2.1.2.2) : Nat × Nat × Nat).2.2 from Or.inr (by show O - (u + (j + 1)) * E < c.2.1.2.2; omega))] <;> rfl
        · rw [if_neg h2]
          have hc0 : ¬ c.1.1 = 0 := fun z => h0 (Or.inl z)
          by_cases h3 : O - (u + (j + 1)) * E < c.2.1.2.2
          · rw [if_pos (show c.1.1 + j + 1 = 0 ∨ O - (u + (j + 1)) * E < c.2.1.2.2 from Or.inr h3), if_pos (show c.1.1 = 0 ∨ O - (u + (j + 1)) * E < c.2.1.2.2 from Or.inr h3)] <;> rfl
          · rw [if_neg (show ¬ (c.1.1 + j + 1 = 0 ∨ O - (u + (j + 1)) * E < c.2.1.2.2) from fun z => z.elim (Nat.succ_ne_zero _) h3), if_neg (show ¬ (c.1.1 = 0 ∨ O - (u + (j + 1)) * E < c.2.1.2.2) from fun z => z.elim hc0 h3)]
    · by_cases e1 : i = j + 1
      · subst e1
        have : nI e.1.1 = tg := (congrArg nI b1).trans ht.symm
        rw [if_pos this, if_pos this]
        exact ⟨rfl, rfl⟩
      · have : ¬ nI e.1.1 = tg := by
          rw [ht, b1]
          intro z
          have := (eq_n (by omega) (by omega)).mp z
          omega
        rw [if_neg this, if_neg this]
        exact b7 i (by omega) ht
    · have : ¬ nI e.1.1 = tg := fun z => h (j + 1) (Nat.le_refl _) (z.symm.trans (congrArg nI b1))
      rw [if_neg this, if_neg this]
      exact b8 fun i hi => h i (by omega)
