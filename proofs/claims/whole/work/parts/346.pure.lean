/-! PURE: the class counts a menu, the whole step; it chooses -/
theorem nml_C {S : St} {d a K : Nat} {tg : Int32} {x : Nat → Nat} {μ : Mem} (W : WF S) (h5 : mm S a ≤ 5) (L : C_mn S d a K tg μ) (hx : ∀ i, i < mm S a → mI μ 608 0 i = nI (x i) ∧ x i ≤ 9) : Menus_noteMenu_l1 μ FU (nI 0) (nI 0) (nI 0) = some (nI (anyN S a x (mm S a)), nI (totN x (mm S a))) := by
  have h16 := W.pg.1
  obtain ⟨⟨u, v⟩, e1, e2, e3⟩ : ∃ r : Int32 × Int32, Menus_noteMenu_l1 μ FU (nI 0) (nI 0) (nI 0) = some r ∧ r.1 = nI (anyN S a x (mm S a)) ∧ r.2 = nI (totN x (mm S a)) := by
    refine loopE (fun f v (s : Int32 × Int32) => Menus_noteMenu_l1 μ f s.1 s.2 v) (mm S a) (fun k s => s.1 = nI (anyN S a x k) ∧ s.2 = nI (totN x k)) _ ?_ ?_ (mm S a) 0 (nI 0, nI 0) FU (by omega) (FU_lt (by omega)) ⟨rfl, rfl⟩
    · rintro f k ⟨u, v⟩ hk ⟨h1, h2⟩
      simp only at h1 h2
      subst h1 h2
      left
      have hq := (mq_lt (S := S) (a := a) hk).1
      obtain ⟨hx1, hx2⟩ := hx k hk
      have p1 : (if 0 < nI (x k) then (mRd μ 603 0 5 (nI k)).bind fun x4 => (some (nI (anyN S a x k) ||| ((nI 1) <<< (x4 &&& 31)))).bind fun x5 => some x5 else some (nI (anyN S a x k))) = some (nI (anyN S a x k ||| (if 0 < x k then 2 ^ mq S a k else 0))) := by
        have : 2 ^ mq S a k < 65536 := Nat.pow_lt_pow_right (a := 2) (m := mq S a k) (n := 16) (by decide) (by omega)
        by_cases h : 0 < x k
        · rw [if_pos ((gt0_n (by omega)).mpr h), if_pos h, rd_n (by omega) (by decide), (L.2.2.2.2.1 k hk).1, bS, shl_n (by omega) (by omega), Nat.one_mul, or_n, bS]
        · rw [if_neg (fun z => h ((gt0_n (by omega)).mp z)), if_neg h, Nat.or_zero]
      refine ⟨(nI (anyN S a x (k + 1)), nI (totN x (k + 1))), ?_, rfl, rfl⟩
      show Menus_noteMenu_l1b μ (Menus_noteMenu_l1 μ f) (nI (anyN S a x k)) (nI (totN x k)) (nI k) = _
      unfold Menus_noteMenu_l1b
      rw [L.1, if_pos ((lt_n (by omega) (by omega)).mpr hk), rd_n (by omega) (by decide), hx1, bS, add_n, bS, bS, p1, bS, bS, add_n]
      rfl
    · rintro f ⟨u, v⟩ ⟨h1, h2⟩
      refine ⟨(u, v), ?_, h1, h2⟩
      show Menus_noteMenu_l1b μ (Menus_noteMenu_l1 μ f) u v (nI (mm S a)) = _
      unfold Menus_noteMenu_l1b
      rw [L.1, if_neg (fun z => absurd ((lt_n (by omega) (by omega)).mp z) (by omega))]
  simp only at e2 e3
  subst e2 e3
  exact e1
theorem noteMenu_C {S : St} {d a K : Nat} {tg : Int32} {x : Nat → Nat} {c : AcT} {μ : Mem} (W : WF S) (hd : d < nDy S) (h5 : mm S a ≤ 5) (L : C_mn S d a K tg μ) (P : C_sp S d (fun t => usN S d a x t (mm S a)) μ) (hU : ∀ t, t < 12 → usN S d a x t (mm S a) ≤ sN S 105 d t) (hx : ∀ i, i < mm S a → mI μ 608 0 i = nI (x i) ∧ x i ≤ 9) (A : C_ac S a tg c μ) (o : AcOk c) :
    ∃ μ', Menus_noteMenu μ = some μ' ∧ Fr [609, 610, 615] μ μ' ∧ C_ac S a tg (noteS S d a tg x c) μ' := by
  have hany := any_lt (x := x) W.pg.1 (Nat.le_refl (mm S a))
  have htot := tot_le fun i hi => (hx i hi).2
  have hl := nml_C W h5 L hx
  have o' := o
  obtain ⟨o1, o2, o3, o4, o5, o6, o7, o8⟩ := o
  obtain ⟨A1, A2, A3, A4, A5, A6, A7⟩ := A
  unfold Menus_noteMenu
  rw [hl, bS]
  simp only []
  rw [rd_n (by decide) (by decide), A1, bS, add_n, wr_n (by decide) (by decide), bS]
  obtain ⟨s1, hs1⟩ : ∃ s, s = mSI μ 610 0 0 (nI (c.1.1 + 1)) := ⟨_, rfl⟩
  obtain ⟨-, q1, p1⟩ := st_rc hs1
  rw [← hs1]
  have k1 : (if nI c.1.1 = 0 then some (nI (anyN S a x (mm S a))) else (mRd s1 610 0 8 (nI 1)).bind fun x5 => some (x5 &&& nI (anyN S a x (mm S a)))) = some (nI (if c.1.1 = 0 then anyN S a x (mm S a) else c.1.2.1 &&& anyN S a x (mm S a))) := by
    by_cases h : c.1.1 = 0
    · rw [if_pos ((eq0_n (by omega)).mpr h), if_pos h]
    · rw [if_neg (fun z => h ((eq0_n (by omega)).mp z)), if_neg h, rd_n (by decide) (by decide), q1 1 (by decide), A2, bS, and_n]
  rw [k1, bS, wr_n (by decide) (by decide), bS]
  obtain ⟨s2, hs2⟩ : ∃ s, s = mSI s1 610 0 1 (nI (if c.1.1 = 0 then anyN S a x (mm S a) else c.1.2.1 &&& anyN S a x (mm S a))) := ⟨_, rfl⟩
  obtain ⟨-, q2, p2⟩ := st_rc hs2
  rw [← hs2, rd_n (by decide) (by decide), q2 2 (by decide), q1 2 (by decide), A3, bS, or_n, wr_n (by decide) (by decide), bS]
  obtain ⟨s3, hs3⟩ : ∃ s, s = mSI s2 610 0 2 (nI (c.1.2.2.1 ||| anyN S a x (mm S a))) := ⟨_, rfl⟩
  obtain ⟨-, q3, p3⟩ := st_rc hs3
  rw [← hs3]
  have k2 : (if nI c.1.1 = 0 then some (nI (totN x (mm S a))) else (mRd s3 610 0 8 (nI 3)).bind fun x10 => some (jMin x10 (nI (totN x (mm S a))))) = some (nI (if c.1.1 = 0 then totN x (mm S a) else min c.1.2.2.2.1 (totN x (mm S a)))) := by
    by_cases h : c.1.1 = 0
    · rw [if_pos ((eq0_n (by omega)).mpr h), if_pos h]
    · rw [if_neg (fun z => h ((eq0_n (by omega)).mp z)), if_neg h, rd_n (by decide) (by decide), q3 3 (by decide), q2 3 (by decide), q1 3 (by decide), A4, bS, if_neg h, jMin_n (by omega) (by omega)]
  rw [k2, bS, wr_n (by decide) (by decide), bS]
  obtain ⟨s4, hs4⟩ : ∃ s, s = mSI s3 610 0 3 (nI (if c.1.1 = 0 then totN x (mm S a) else min c.1.2.2.2.1 (totN x (mm S a)))) := ⟨_, rfl⟩
  obtain ⟨-, q4, p4⟩ := st_rc hs4
  have k3 : jMax (if c.1.1 = 0 then -1 else nI c.1.2.2.2.2) (nI (totN x (mm S a))) = nI (if c.1.1 = 0 then totN x (mm S a) else max c.1.2.2.2.2 (totN x (mm S a))) := by
    by_cases h : c.1.1 = 0
    · rw [if_pos h, if_pos h]; exact if_pos (neg1_lt (by omega))
    · rw [if_neg h, if_neg h, jMax_n (by omega) (by omega)]
  rw [← hs4, rd_n (by decide) (by decide), q4 4 (by decide), q3 4 (by decide), q2 4 (by decide), q1 4 (by decide), A5, bS, k3, wr_n (by decide) (by decide), bS]
  obtain ⟨s5, hs5⟩ : ∃ s, s = mSI s4 610 0 4 (nI (if c.1.1 = 0 then totN x (mm S a) else max c.1.2.2.2.2 (totN x (mm S a)))) := ⟨_, rfl⟩
  obtain ⟨-, q5, p5⟩ := st_rc hs5
  rw [← hs5]
  have F5 : Fr [610] μ s5 := by
    rw [hs5, hs4, hs3, hs2, hs1]
    exact fr_si (by simp) (fr_si (by simp) (fr_si (by simp) (fr_si (by simp) (fr_si (by simp) Fr.refl))))
  have r5 : ∀ e, 5 ≤ e → mI s5 610 0 e = mI μ 610 0 e := fun e he => by rw [q5 e (by omega), q4 e (by omega), q3 e (by omega), q2 e (by omega), q1 e (by omega)]
  obtain ⟨s6, b1, b2, b3, b4, b5⟩ := noteWaste_C (x := x) (c := c) W hd h5 (L.W F5 (by decide)) (fun t ht => by rw [F5.i 607 (by decide)]; exact P t ht) hU (fun i hi => by rw [F5.i 608 (by decide)]; exact (hx i hi).1) (fun h => by rw [r5 7 (by decide), r5 6 (by decide), r5 5 (by decide)]; exact A6 h) (fun j hj ht => by rw [F5.i 615 (by decide), F5.i 609 (by decide)]; exact A7 j hj ht) o'
  rw [b1, bS]
  refine ⟨s6, rfl, (F5.mono (by simp)).trans b2, ?_, ?_, ?_, ?_, ?_, fun _ => b4, b5⟩
  · rw [b3 0 (by decide), q5 0 (by decide), q4 0 (by decide), q3 0 (by decide), q2 0 (by decide), p1]; rfl
  · rw [b3 1 (by decide), q5 1 (by decide), q4 1 (by decide), q3 1 (by decide), p2]; rfl
  · rw [b3 2 (by decide), q5 2 (by decide), q4 2 (by decide), p3]; rfl
  · refine Eq.trans ?_ (if_neg (Nat.succ_ne_zero c.1.1)).symm
    rw [b3 3 (by decide), q5 3 (by decide), p4]; rfl
  · refine Eq.trans ?_ (if_neg (Nat.succ_ne_zero c.1.1)).symm
    rw [b3 4 (by decide), p5]; rfl
theorem fo_id {A : Type} {g : Nat → A → A} {a : A} : ∀ {m k : Nat}, (∀ i, k ≤ i → i < k + m → g i a = a) → fo g k m a = a := by
  intro m
  induction m with
  | zero => intro k _; rfl
  | succ m ih =>
    intro k h
    show fo g (k + 1) m (g k a) = a
    rw [h k (Nat.le_refl _) (by omega)]
    exact ih fun i h1 h2 => h i (by omega) (by omega)
theorem us_aft {S : St} {d a t : Nat} {x : Nat → Nat} {k : Nat} (hx : ∀ i, k ≤ i → i < mm S a → x i ≤ mcap S d a i) : ∀ {j : Nat}, k + j ≤ mm S a → usN S d a x t (mm S a) ≤ usN S d a x t (mm S a - j) + aft S d a t j := by
  intro j
  induction j with
  | zero => intro _; exact Nat.le_refl _
  | succ j ih =>
    intro h
    have h1 := ih (by omega)
    have h2 := hx (mm S a - (j + 1)) (by omega) (by omega)
    have e : mm S a - j = mm S a - (j + 1) + 1 := by omega
    rw [e] at h1
    have h3 : usN S d a x t (mm S a - (j + 1) + 1) = usN S d a x t (mm S a - (j + 1)) + mN S d a (mm S a - (j + 1)) t * x (mm S a - (j + 1)) := rfl
    have h4 : mN S d a (mm S a - (j + 1)) t * x (mm S a - (j + 1)) ≤ mN S d a (mm S a - (j + 1)) t * mcap S d a (mm S a - (j + 1)) := Nat.mul_le_mul_left _ h2
    rw [Nat.mul_comm _ (mcap S d a _)] at h4
    show _ ≤ _ + (_ + aft S d a t j)
    omega
theorem up_us {S : St} {d a t k v : Nat} {x : Nat → Nat} : usN S d a (upX x k v) t (k + 1) = usN S d a x t k + v * mN S d a k t := by
  show usN S d a (upX x k v) t k + mN S d a k t * upX x k v k = _
  rw [us_congr (y := x) (fun i hi => by unfold upX; rw [if_neg (by omega)])]
  unfold upX
  rw [if_pos rfl, Nat.mul_comm]
/-- no room: no menu comes of it -/
theorem dead1 {S : St} {d a K k m v t : Nat} {tg : Int32} {x : Nat → Nat} (W : WF S) (hk : k + (m + 1) = mm S a) (ht : t < 12) (hu : usN S d a x t k ≤ sN S 105 d t) (h : sN S 105 d t < usN S d a x t k + mN S d a k t * v) (c : AcT) : skS (mcap S d a) (leafS S d a K tg) m (k + 1) (upX x k v) c = c := by
  refine sk_id (fun x' hc c => ?_) c
  unfold leafS
  have hn : 0 < mN S d a k t := by
    rcases Nat.eq_zero_or_pos (mN S d a k t) with e | e
    · rw [e, Nat.zero_mul] at h; omega
    · exact e
  have hb := mN_bit W (show k < mm S a by omega) hn
  rw [if_neg fun z => ?_]
  have h1 := (isMn_iff.mp z t (mG_th W hb) hb).1
  have h2 : usN S d a x' t (k + 1) ≤ usN S d a x' t (mm S a) := us_mono (by omega)
  rw [us_congr (y := upX x k v) (fun i hi => hc.1 i hi), up_us, Nat.mul_comm] at h2
  omega
/-- it can't be used up: no menu comes of it -/
theorem dead2 {S : St} {d a K k m t : Nat} {tg : Int32} {x : Nat → Nat} (W : WF S) (hk : k + m = mm S a) (hb : (mG S a).testBit t = true) (h : usN S d a x t k + aft S d a t (mm S a - k) + K < sN S 105 d t) (c : AcT) : skS (mcap S d a) (leafS S d a K tg) m k x c = c := by
  refine sk_id (fun x' hc c => ?_) c
  unfold leafS
  rw [if_neg fun z => ?_]
  have h1 := (isMn_iff.mp z t (mG_th W hb) hb).2
  have h2 := us_aft (t := t) (fun i h1 h2 => hc.2 i h1 (by omega)) (show k + (mm S a - k) ≤ mm S a by omega)
  rw [show mm S a - (mm S a - k) = k by omega, us_congr (y := x) (fun i hi => hc.1 i hi)] at h2
  omega
