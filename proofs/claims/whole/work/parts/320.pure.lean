/-! PURE: the least tree -/
def clS (J : Nat → Bool) (d : Nat → Nat) : Nat → Option Nat
  | 0 => none
  | q + 1 => if J q then clS J d q else match clS J d q with
    | none => some q
    | some b => if d q < d b then some q else some b
def oI : Option Nat → Int32
  | none => -1
  | some b => nI b
theorem cl_some {J : Nat → Bool} {d : Nat → Nat} : ∀ {q b : Nat}, clS J d q = some b → b < q ∧ J b = false := by
  intro q
  induction q with
  | zero => intro b h; exact nomatch h
  | succ q ih =>
    intro b h
    unfold clS at h
    cases hj : J q with
    | true => rw [hj, if_pos rfl] at h; have := ih h; exact ⟨by omega, this.2⟩
    | false =>
      rw [hj, if_neg (by decide)] at h
      cases hc : clS J d q with
      | none => rw [hc] at h; simp only [Option.some.injEq] at h; subst h; exact ⟨by omega, hj⟩
      | some c =>
        rw [hc] at h
        simp only at h
        have := ih hc
        split at h
        · simp only [Option.some.injEq] at h; subst h; exact ⟨by omega, hj⟩
        · simp only [Option.some.injEq] at h; subst h; exact ⟨by omega, this.2⟩
theorem cl_none {J : Nat → Bool} {d : Nat → Nat} : ∀ {q : Nat}, clS J d q = none → ∀ c, c < q → J c = true := by
  intro q
  induction q with
  | zero => intro _ c h; omega
  | succ q ih =>
    intro h c hc
    unfold clS at h
    cases hj : J q with
    | true =>
      rw [hj, if_pos rfl] at h
      by_cases e : c = q
      · subst e; exact hj
      · exact ih h c (by omega)
    | false =>
      rw [hj, if_neg (by decide)] at h
      cases hc2 : clS J d q with
      | none => rw [hc2] at h; exact nomatch h
      | some b => rw [hc2] at h; simp only at h; split at h <;> exact nomatch h
def cnJ (J : Nat → Bool) : Nat → Nat
  | 0 => 0
  | q + 1 => cnJ J q + (J q).toNat
def upJ (J : Nat → Bool) (b : Nat) : Nat → Bool := fun q => if q = b then true else J q
theorem cnJ_all {J : Nat → Bool} : ∀ {n : Nat}, (∀ c, c < n → J c = true) → cnJ J n = n := by
  intro n
  induction n with
  | zero => intro _; rfl
  | succ n ih => intro h; show cnJ J n + (J n).toNat = n + 1; rw [ih (fun c hc => h c (by omega)), h n (by omega)]; rfl
theorem cnJ_up {J : Nat → Bool} {b : Nat} (hb : J b = false) : ∀ {n : Nat}, cnJ (upJ J b) n = cnJ J n + if b < n then 1 else 0 := by
  intro n
  induction n with
  | zero => rw [if_neg (by omega)]; rfl
  | succ n ih =>
    show cnJ (upJ J b) n + (upJ J b n).toNat = cnJ J n + (J n).toNat + _
    rw [ih]
    unfold upJ
    by_cases e : n = b
    · subst e
      rw [if_neg (by omega), if_pos rfl, if_pos (by omega), hb]; rfl
    · rw [if_neg e]
      by_cases h : b < n
      · rw [if_pos h, if_pos (by omega)]; omega
      · rw [if_neg h, if_neg (by omega)]; omega
def C_j (S : St) (J : Nat → Bool) (d : Nat → Nat) (μ : Mem) : Prop := ∀ q, q < nPg S → mI μ 306 0 q = nI (J q).toNat ∧ mI μ 305 0 q = nI (d q)
def M_j (S : St) (J : Nat → Bool) (d : Nat → Nat) (ν : Mem) : Prop := ∀ q, q < nPg S → mI ν 1378 0 q = if J q then -1 else nI (d q)
theorem closest_C {S : St} {J : Nat → Bool} {d : Nat → Nat} {μ : Mem} (W : WF S) (C : CR S μ) (D : C_j S J d μ) (hd : ∀ q, q < nPg S → d q ≤ 300) : Kin_closest μ = some (oI (clS J d (nPg S))) := by
  have h16 := W.pg.1
  obtain ⟨r, e1, e2⟩ : ∃ s, Kin_closest_l1 μ FU (-1) (nI 0) = some s ∧ s = oI (clS J d (nPg S)) := by
    refine loopE (fun f v (s : Int32) => Kin_closest_l1 μ f s v) (nPg S) (fun c s => s = oI (clS J d c)) (fun s => s = oI (clS J d (nPg S))) ?_ ?_ (nPg S) 0 (-1) FU (by omega) (FU_lt (by omega)) rfl
    · rintro f q s hq rfl
      left
      refine ⟨oI (clS J d (q + 1)), ?_, rfl⟩
      obtain ⟨d1, d2⟩ := D q hq
      have hu : clS J d (q + 1) = if J q then clS J d q else match clS J d q with
        | none => some q
        | some b => if d q < d b then some q else some b := rfl
      show Kin_closest_l1b μ (Kin_closest_l1 μ f) (oI (clS J d q)) (nI q) = _
      unfold Kin_closest_l1b
      rw [C.pg.1, if_pos ((lt_n (by omega) (by omega)).mpr hq), rd_n (by omega) (by decide), d1, bS, hu]
      cases hj : J q with
      | true => rw [if_neg (show ¬ nI true.toNat = 0 from n10), bS, bS, add_n, if_pos rfl]
      | false =>
        rw [if_pos (show nI false.toNat = 0 from rfl), if_neg (c := false = true) (by decide)]
        cases hc : clS J d q with
        | none => rw [if_pos (show oI none = -1 from rfl), bS, bS, add_n]; rfl
        | some b =>
          have hb := cl_some hc
          have hd1 := hd q hq
          have hd2 := hd b (by omega)
          rw [show oI (some b) = nI b from rfl, if_neg (fun z => (m1_n (by omega)).mp z), rd_n (by omega) (by decide), d2, bS, rd_n (by omega) (by decide), (D b (by omega)).2, bS]
          simp only []
          by_cases hl : d q < d b
          · rw [if_pos ((lt_n (by omega) (by omega)).mpr hl), bS, bS, add_n, if_pos hl]; rfl
          · rw [if_neg (fun z => hl ((lt_n (by omega) (by omega)).mp z)), bS, bS, add_n, if_neg hl]; rfl
    · rintro f s hs
      refine ⟨s, ?_, hs⟩
      show Kin_closest_l1b μ (Kin_closest_l1 μ f) s (nI (nPg S)) = _
      unfold Kin_closest_l1b
      rw [C.pg.1, if_neg (fun z => absurd ((lt_n (by omega) (by omega)).mp z) (by omega))]
  unfold Kin_closest
  rw [e1, bS, e2]
theorem closest_M {S : St} {J : Nat → Bool} {d : Nat → Nat} {ν : Mem} {v1 v2 : Int32} (W : WF S) (R : MR S ν) (D : M_j S J d ν) (hd : ∀ q, q < nPg S → d q ≤ 300) : M_tree_l3 v1 v2 ν FU (-1) (nI 0) = some (oI (clS J d (nPg S))) := by
  have h16 := W.pg.1
  obtain ⟨r, e1, e2⟩ : ∃ s, M_tree_l3 v1 v2 ν FU (-1) (nI 0) = some s ∧ s = oI (clS J d (nPg S)) := by
    refine loopE (fun f v (s : Int32) => M_tree_l3 v1 v2 ν f s v) (nPg S) (fun c s => s = oI (clS J d c)) (fun s => s = oI (clS J d (nPg S))) ?_ ?_ (nPg S) 0 (-1) FU (by omega) (FU_lt (by omega)) rfl
    · rintro f q s hq rfl
      left
      refine ⟨oI (clS J d (q + 1)), ?_, rfl⟩
      have d1 := D q hq
      have hu : clS J d (q + 1) = if J q then clS J d q else match clS J d q with
        | none => some q
        | some b => if d q < d b then some q else some b := rfl
      have hd1 := hd q hq
      show M_tree_l3b v1 v2 ν (M_tree_l3 v1 v2 ν f) (oI (clS J d q)) (nI q) = _
      unfold M_tree_l3b
      rw [R.pg.1, if_pos ((lt_n (by omega) (by omega)).mpr hq), rd_n (by omega) (by decide), d1, hu]
      cases hj : J q with
      | true => rw [if_pos (c := true = true) rfl, bS, if_pos rfl, bS, bS, add_n, if_pos rfl]
      | false =>
        rw [if_neg (c := false = true) (by decide), bS, if_neg (fun z => (m1_n (by omega)).mp z), if_neg (c := false = true) (by decide)]
        cases hc : clS J d q with
        | none => rw [if_pos (show oI none = -1 from rfl), bS, bS, add_n]; rfl
        | some b =>
          have hb := cl_some hc
          have hd2 := hd b (by omega)
          have db := D b (by omega)
          rw [hb.2, if_neg (by decide)] at db
          rw [show oI (some b) = nI b from rfl, if_neg (fun z => (m1_n (by omega)).mp z), bS, rd_n (by omega) (by decide), db, bS]
          simp only []
          by_cases hl : d q < d b
          · rw [if_pos ((lt_n (by omega) (by omega)).mpr hl), bS, bS, add_n, if_pos hl]; rfl
          · rw [if_neg (fun z => hl ((lt_n (by omega) (by omega)).mp z)), bS, bS, add_n, if_neg hl]; rfl
    · rintro f s hs
      refine ⟨s, ?_, hs⟩
      show M_tree_l3b v1 v2 ν (M_tree_l3 v1 v2 ν f) s (nI (nPg S)) = _
      unfold M_tree_l3b
      rw [R.pg.1, if_neg (fun z => absurd ((lt_n (by omega) (by omega)).mp z) (by omega))]
  rw [e1, e2]
def upD (S : St) (d : Nat → Nat) (b : Nat) : Nat → Nat := fun q => min (d q) (farP S b q)
theorem take_C {S : St} {J : Nat → Bool} {d : Nat → Nat} {μ : Mem} {b : Nat} (W : WF S) (C : CR S μ) (D : C_j S J d μ) (hd : ∀ q, q < nPg S → d q ≤ 300) (hb : b < nPg S) : ∃ μ', Kin_take (nI b) μ = some μ' ∧ CR S μ' ∧ C_j S (upJ J b) (upD S d b) μ' := by
  have h16 := W.pg.1
  have F0 : Fr [305, 306] μ (mSI μ 306 0 b (nI 1)) := fr_si (by simp) Fr.refl
  obtain ⟨μ1, e1, F1, K1⟩ : ∃ s, Kin_take_l1 (nI b) FU (nI 0) (mSI μ 306 0 b (nI 1)) = some s ∧ Fr [305, 306] μ s ∧ C_j S (upJ J b) (upD S d b) s := by
    refine loopE (fun f v s => Kin_take_l1 (nI b) f v s) (nPg S) (fun c s => Fr [305, 306] μ s ∧ ∀ q, q < nPg S → mI s 306 0 q = nI (upJ J b q).toNat ∧ mI s 305 0 q = nI (if q < c then upD S d b q else d q)) (fun s => Fr [305, 306] μ s ∧ C_j S (upJ J b) (upD S d b) s) ?_ ?_ (nPg S) 0 (mSI μ 306 0 b (nI 1)) FU (by omega) (FU_lt (by omega)) ⟨F0, fun q hq => ⟨?_, ?_⟩⟩
    · rintro f k s hk ⟨F, hI⟩
      left
      have Cs := C.fr F (by decide)
      have b1 := hd k hk
      have b2 := far_bd W hb hk
      have k1 := (hI k hk).2
      rw [if_neg (by omega)] at k1
      refine ⟨mSI s 305 0 k (nI (upD S d b k)), ?_, fr_si (by simp) F, fun q hq => ⟨?_, ?_⟩⟩
      · show Kin_take_l1b (nI b) (Kin_take_l1 (nI b) f) (nI k) s = _
        unfold Kin_take_l1b
        rw [Cs.pg.1, if_pos ((lt_n (by omega) (by omega)).mpr hk), rd_n (by omega) (by decide), k1, bS, ix_n (by omega) (by decide), bS, rd_n (by omega) (by decide), Cs.kn.1 b k hb hk, bS, jMin_n (by omega) (by omega), wr_n (by omega) (by decide), bS, bS, add_n]
        rfl
      · rw [iS_v (by decide)]; exact (hI q hq).1
      · by_cases e : q = k
        · subst e; rw [iS_eq, if_pos (by omega)]
        · rw [iS_c e, (hI q hq).2]
          by_cases h : q < k
          · rw [if_pos h, if_pos (by omega)]
          · rw [if_neg h, if_neg (by omega)]
    · rintro f s ⟨F, hI⟩
      have Cs := C.fr F (by decide)
      refine ⟨s, ?_, F, fun q hq => ⟨(hI q hq).1, ?_⟩⟩
      · show Kin_take_l1b (nI b) (Kin_take_l1 (nI b) f) (nI (nPg S)) s = _
        unfold Kin_take_l1b
        rw [Cs.pg.1, if_neg (fun z => absurd ((lt_n (by omega) (by omega)).mp z) (by omega))]
      · rw [(hI q hq).2, if_pos hq]
    · unfold upJ
      by_cases e : q = b
      · subst e; rw [iS_eq, if_pos rfl]; rfl
      · rw [iS_c e, if_neg e]; exact (D q hq).1
    · rw [iS_v (by decide), if_neg (by omega)]; exact (D q hq).2
  refine ⟨μ1, ?_, C.fr F1 (by decide), K1⟩
  unfold Kin_take
  rw [wz_n (by omega) (by decide) (show nI 1 = 0 ∨ nI 1 = 1 from Or.inr rfl), bS, e1, bS]
theorem take_M {S : St} {J : Nat → Bool} {d : Nat → Nat} {ν : Mem} {b : Nat} {v1 v2 : Int32} (W : WF S) (R : MR S ν) (D : M_j S J d ν) (hd : ∀ q, q < nPg S → d q ≤ 300) (hb : b < nPg S) : ∃ ν', M_tree_l4 v1 v2 (nI b) FU (nI 0) (mSI ν 1378 0 b (-1)) = some ν' ∧ MR S ν' ∧ M_j S (upJ J b) (upD S d b) ν' := by
  have h16 := W.pg.1
  have F0 : Fr [1377, 1378] ν (mSI ν 1378 0 b (-1)) := fr_si (by simp) Fr.refl
  obtain ⟨ν1, e1, F1, K1⟩ : ∃ s, M_tree_l4 v1 v2 (nI b) FU (nI 0) (mSI ν 1378 0 b (-1)) = some s ∧ Fr [1377, 1378] ν s ∧ M_j S (upJ J b) (upD S d b) s := by
    refine loopE (fun f v s => M_tree_l4 v1 v2 (nI b) f v s) (nPg S) (fun c s => Fr [1377, 1378] ν s ∧ ∀ q, q < nPg S → mI s 1378 0 q = if upJ J b q then -1 else nI (if q < c then upD S d b q else d q)) (fun s => Fr [1377, 1378] ν s ∧ M_j S (upJ J b) (upD S d b) s) ?_ ?_ (nPg S) 0 (mSI ν 1378 0 b (-1)) FU (by omega) (FU_lt (by omega)) ⟨F0, fun q hq => ?_⟩
    · rintro f k s hk ⟨F, hI⟩
      left
      have Rs := R.fr F (by decide)
      have b1 := hd k hk
      have b2 := far_bd W hb hk
      have k1 := hI k hk
      cases hj : upJ J b k with
      | true =>
        rw [hj, if_pos rfl] at k1
        refine ⟨mSI s 1378 0 k (-1), ?_, fr_si (by simp) F, fun q hq => ?_⟩
        · show M_tree_l4b v1 v2 (nI b) (M_tree_l4 v1 v2 (nI b) f) (nI k) s = _
          unfold M_tree_l4b
          rw [Rs.pg.1, if_pos ((lt_n (by omega) (by omega)).mpr hk), rd_n (by omega) (by decide), k1, bS, if_pos rfl, bS]
          simp only []
          rw [wr_n (by omega) (by decide), bS, bS, add_n]
        · by_cases e : q = k
          · subst e; rw [iS_eq, hj, if_pos rfl]
          · rw [iS_c e, hI q hq]
            by_cases h : q < k
            · rw [if_pos h, if_pos (show q < k + 1 by omega)]
            · rw [if_neg h, if_neg (show ¬ q < k + 1 by omega)]
      | false =>
        rw [hj, if_neg (by decide), if_neg (by omega)] at k1
        obtain ⟨s1, a1, a2, a3⟩ := far_M W Rs hb hk
        refine ⟨mSI s1 1378 0 k (nI (upD S d b k)), ?_, fr_si (by simp) (F.trans (a3.mono (by simp))), fun q hq => ?_⟩
        · show M_tree_l4b v1 v2 (nI b) (M_tree_l4 v1 v2 (nI b) f) (nI k) s = _
          unfold M_tree_l4b
          rw [Rs.pg.1, if_pos ((lt_n (by omega) (by omega)).mpr hk), rd_n (by omega) (by decide), k1, bS, if_neg (fun z => (m1_n (by omega)).mp z), bS, a1, bS]
          simp only []
          rw [jMin_n (by omega) (by omega), bS]
          simp only []
          rw [wr_n (by omega) (by decide), bS, bS, add_n]
          rfl
        · by_cases e : q = k
          · subst e; rw [iS_eq, hj, if_neg (by decide), if_pos (by omega)]
          · rw [iS_c e, a3.i 1378 (by decide), hI q hq]
            by_cases h : q < k
            · rw [if_pos h, if_pos (show q < k + 1 by omega)]
            · rw [if_neg h, if_neg (show ¬ q < k + 1 by omega)]
    · rintro f s ⟨F, hI⟩
      have Rs := R.fr F (by decide)
      refine ⟨s, ?_, F, fun q hq => ?_⟩
      · show M_tree_l4b v1 v2 (nI b) (M_tree_l4 v1 v2 (nI b) f) (nI (nPg S)) s = _
        unfold M_tree_l4b
        rw [Rs.pg.1, if_neg (fun z => absurd ((lt_n (by omega) (by omega)).mp z) (by omega))]
      · rw [hI q hq, if_pos hq]
    · unfold upJ
      by_cases e : q = b
      · subst e; rw [iS_eq, if_pos rfl, if_pos rfl]
      · rw [iS_c e, if_neg e, D q hq, if_neg (show ¬ q < 0 by omega)]
  exact ⟨ν1, e1, R.fr F1 (by decide), K1⟩
def j0 (q : Nat) : Bool := decide (q = 0)
theorem first_C {S : St} {μ : Mem} (W : WF S) (C : CR S μ) : ∃ μ', Kin_leastJoin_l1 FU (nI 0) μ = some μ' ∧ CR S μ' ∧ C_j S j0 (farP S 0) μ' := by
  have h16 := W.pg.1
  obtain ⟨μ1, e1, F1, K1⟩ : ∃ s, Kin_leastJoin_l1 FU (nI 0) μ = some s ∧ Fr [305, 306] μ s ∧ C_j S j0 (farP S 0) s := by
    refine loopE (fun f v s => Kin_leastJoin_l1 f v s) (nPg S) (fun c s => Fr [305, 306] μ s ∧ ∀ q, q < c → mI s 306 0 q = nI (j0 q).toNat ∧ mI s 305 0 q = nI (farP S 0 q)) (fun s => Fr [305, 306] μ s ∧ C_j S j0 (farP S 0) s) ?_ ?_ (nPg S) 0 μ FU (by omega) (FU_lt (by omega)) ⟨Fr.refl, fun q hq => absurd hq (by omega)⟩
    · rintro f k s hk ⟨F, hI⟩
      left
      have Cs := C.fr F (by decide)
      refine ⟨mSI (mSI s 306 0 k (nI (j0 k).toNat)) 305 0 k (nI (farP S 0 k)), ?_, fr_si (by simp) (fr_si (by simp) F), fun q hq => ⟨?_, ?_⟩⟩
      · show Kin_leastJoin_l1b (Kin_leastJoin_l1 f) (nI k) s = _
        unfold Kin_leastJoin_l1b
        have hx : (if nI k = 0 then some (nI 1) else some (nI 0)) = some (nI (j0 k).toNat) := by
          unfold j0
          by_cases h : k = 0
          · rw [if_pos ((eq0_n (by omega)).mpr h), decide_eq_true h]; rfl
          · rw [if_neg (fun z => h ((eq0_n (by omega)).mp z)), decide_eq_false h]; rfl
        have hy : nI (j0 k).toNat = 0 ∨ nI (j0 k).toNat = 1 := by cases j0 k; exact Or.inl rfl; exact Or.inr rfl
        have F1 : Fr [305, 306] μ (mSI s 306 0 k (nI (j0 k).toNat)) := fr_si (by simp) F
        have C1 := C.fr F1 (by decide)
        rw [Cs.pg.1, if_pos ((lt_n (by omega) (by omega)).mpr hk), hx, bS, wz_n (by omega) (by decide) hy, bS, ix_n (by omega) (by decide), bS, rd_n (by omega) (by decide), C1.kn.1 0 k (by omega) hk, bS, wr_n (by omega) (by decide), bS, bS, add_n]
      · rw [iS_v (by decide)]
        by_cases e : q = k
        · subst e; exact iS_eq
        · rw [iS_c e]; exact (hI q (by omega)).1
      · by_cases e : q = k
        · subst e; exact iS_eq
        · rw [iS_c e, iS_v (by decide)]; exact (hI q (by omega)).2
    · rintro f s ⟨F, hI⟩
      have Cs := C.fr F (by decide)
      refine ⟨s, ?_, F, hI⟩
      show Kin_leastJoin_l1b (Kin_leastJoin_l1 f) (nI (nPg S)) s = _
      unfold Kin_leastJoin_l1b
      rw [Cs.pg.1, if_neg (fun z => absurd ((lt_n (by omega) (by omega)).mp z) (by omega))]
  exact ⟨μ1, e1, C.fr F1 (by decide), K1⟩
theorem first_M {S : St} {ν : Mem} (W : WF S) (R : MR S ν) : ∃ ν', M_tree_l1 FU (nI 0) ν = some ν' ∧ MR S ν' ∧ M_j S j0 (farP S 0) ν' := by
  have h16 := W.pg.1
  obtain ⟨ν1, e1, F1, K1⟩ : ∃ s, M_tree_l1 FU (nI 0) ν = some s ∧ Fr [1377, 1378] ν s ∧ M_j S j0 (farP S 0) s := by
    refine loopE (fun f v s => M_tree_l1 f v s) (nPg S) (fun c s => Fr [1377, 1378] ν s ∧ ∀ q, q < c → mI s 1378 0 q = if j0 q then -1 else nI (farP S 0 q)) (fun s => Fr [1377, 1378] ν s ∧ M_j S j0 (farP S 0) s) ?_ ?_ (nPg S) 0 ν FU (by omega) (FU_lt (by omega)) ⟨Fr.refl, fun q hq => absurd hq (by omega)⟩
    · rintro f k s hk ⟨F, hI⟩
      left
      have Rs := R.fr F (by decide)
      by_cases h : k = 0
      · subst h
        refine ⟨mSI s 1378 0 0 (-1), ?_, fr_si (by simp) F, fun q hq => ?_⟩
        · show M_tree_l1b (M_tree_l1 f) (nI 0) s = _
          unfold M_tree_l1b
          rw [Rs.pg.1, if_pos ((lt_n (by omega) (by omega)).mpr hk), if_pos z00, bS]
          simp only []
          rw [wr_n (by omega) (by decide), bS, bS, add_n]
        · rw [show q = 0 by omega, iS_eq]; rfl
      · obtain ⟨s1, a1, a2, a3⟩ := far_M W Rs (show 0 < nPg S by omega) hk
        refine ⟨mSI s1 1378 0 k (nI (farP S 0 k)), ?_, fr_si (by simp) (F.trans (a3.mono (by simp))), fun q hq => ?_⟩
        · show M_tree_l1b (M_tree_l1 f) (nI k) s = _
          unfold M_tree_l1b
          rw [Rs.pg.1, if_pos ((lt_n (by omega) (by omega)).mpr hk), if_neg (fun z => h ((eq0_n (by omega)).mp z)), a1, bS]
          simp only []
          rw [bS]
          simp only []
          rw [wr_n (by omega) (by decide), bS, bS, add_n]
        · by_cases e : q = k
          · subst e; rw [iS_eq, show j0 q = false from decide_eq_false h]; rfl
          · rw [iS_c e, a3.i 1378 (by decide)]; exact hI q (by omega)
    · rintro f s ⟨F, hI⟩
      have Rs := R.fr F (by decide)
      refine ⟨s, ?_, F, hI⟩
      show M_tree_l1b (M_tree_l1 f) (nI (nPg S)) s = _
      unfold M_tree_l1b
      rw [Rs.pg.1, if_neg (fun z => absurd ((lt_n (by omega) (by omega)).mp z) (by omega))]
  exact ⟨ν1, e1, R.fr F1 (by decide), K1⟩
theorem q_tree : Cmd B_tree M_tree := by
  intro S μ ν W C R
  have h16 := W.pg.1
  obtain ⟨μ1, a1, a2, a3⟩ := first_C W C
  obtain ⟨ν1, b1, b2, b3⟩ := first_M W R
  unfold B_tree Kin_leastJoin M_tree
  rw [a1, bS, b1, bS]
  suffices h : ∃ r μ' ν', Kin_leastJoin_l2 FU (nI 0) (nI 1) μ1 = some (r, μ') ∧ M_tree_l2 FU (nI 0) (nI 1) ν1 = some (r, ν') ∧ CR S μ' ∧ MR S ν' by
    obtain ⟨r, μ', ν', c1, c2, c3, c4⟩ := h
    refine ⟨r, μ', ν', ?_, ?_, c3, c4⟩
    · rw [c1, bS]; simp only []; rw [bS]
    · rw [c2, bS]
  suffices key : ∀ m k f g acc μ ν J d, k + m = max 1 (nPg S) → 0 < k → m < f → m < g → CR S μ → MR S ν → C_j S J d μ → M_j S J d ν → (∀ q, q < nPg S → d q ≤ 300) → (0 < nPg S → cnJ J (nPg S) = k) → ∃ r μ' ν', Kin_leastJoin_l2 f acc (nI k) μ = some (r, μ') ∧ M_tree_l2 g acc (nI k) ν = some (r, ν') ∧ CR S μ' ∧ MR S ν' by
    refine key (max 1 (nPg S) - 1) 1 FU FU (nI 0) μ1 ν1 j0 (farP S 0) (by omega) (by decide) (FU_lt (by omega)) (FU_lt (by omega)) a2 b2 a3 b3 (fun q hq => far_bd W (by omega) hq) (fun h => ?_)
    have : ∀ n, 0 < n → cnJ j0 n = 1 := by
      intro n
      induction n with
      | zero => intro h; omega
      | succ n ih =>
        intro _
        show cnJ j0 n + (j0 n).toNat = 1
        by_cases e : n = 0
        · subst e; rfl
        · rw [ih (by omega), show j0 n = false from decide_eq_false e]; rfl
    exact this _ h
  intro m
  induction m with
  | zero =>
    intro k f g acc μ ν J d hk h0 hf hg C R D E hd hc
    obtain ⟨f, rfl⟩ : ∃ h, f = h + 1 := ⟨f - 1, by omega⟩
    obtain ⟨g, rfl⟩ : ∃ h, g = h + 1 := ⟨g - 1, by omega⟩
    refine ⟨acc, μ, ν, ?_, ?_, C, R⟩
    · show Kin_leastJoin_l2b (Kin_leastJoin_l2 f) acc (nI k) μ = _
      unfold Kin_leastJoin_l2b
      rw [C.pg.1, if_neg (fun z => absurd ((lt_n (by omega) (by omega)).mp z) (by omega))]
    · show M_tree_l2b (M_tree_l2 g) acc (nI k) ν = _
      unfold M_tree_l2b
      rw [R.pg.1, if_neg (fun z => absurd ((lt_n (by omega) (by omega)).mp z) (by omega))]
  | succ m ih =>
    intro k f g acc μ ν J d hk h0 hf hg C R D E hd hc
    obtain ⟨f, rfl⟩ : ∃ h, f = h + 1 := ⟨f - 1, by omega⟩
    obtain ⟨g, rfl⟩ : ∃ h, g = h + 1 := ⟨g - 1, by omega⟩
    have hkn : k < nPg S := by omega
    have hcn := hc (by omega)
    obtain ⟨b, hb⟩ : ∃ b, clS J d (nPg S) = some b := by
      cases h : clS J d (nPg S) with
      | some b => exact ⟨b, rfl⟩
      | none => have := cnJ_all (cl_none h); omega
    obtain ⟨hbn, hbJ⟩ := cl_some hb
    have cC := closest_C W C D hd
    have cM := closest_M (v1 := acc) (v2 := nI k) W R E hd
    rw [hb] at cC cM
    obtain ⟨μ2, t1, t2, t3⟩ := take_C W C D hd hbn
    obtain ⟨ν2, u1, u2, u3⟩ := take_M (v1 := acc + nI (d b)) (v2 := nI k) W R E hd hbn
    have eb := E b hbn
    rw [hbJ, if_neg (by decide)] at eb
    obtain ⟨r, μ', ν', c1, c2, c3, c4⟩ := ih (k + 1) f g (acc + nI (d b)) μ2 ν2 (upJ J b) (upD S d b) (by omega) (by omega) (by omega) (by omega) t2 u2 t3 u3 (fun q hq => by unfold upD; have := hd q hq; omega) (fun _ => by rw [cnJ_up hbJ, if_pos hbn, hcn])
    refine ⟨r, μ', ν', ?_, ?_, c3, c4⟩
    · show Kin_leastJoin_l2b (Kin_leastJoin_l2 f) acc (nI k) μ = _
      unfold Kin_leastJoin_l2b
      rw [C.pg.1, if_pos ((lt_n (by omega) (by omega)).mpr hkn), cC, bS, show oI (some b) = nI b from rfl, if_neg (fun z => (m1_n (by omega)).mp z), rd_n (by omega) (by decide), (D b hbn).2, bS, bS, t1, bS, bS]
      simp only []
      rw [bS, add_n]
      exact c1
    · show M_tree_l2b (M_tree_l2 g) acc (nI k) ν = _
      unfold M_tree_l2b
      rw [R.pg.1, if_pos ((lt_n (by omega) (by omega)).mpr hkn), cM, bS, show oI (some b) = nI b from rfl, rd_n (by omega) (by decide), eb, bS, bS, wr_n (by omega) (by decide), bS, u1, bS, bS, add_n]
      exact c2
