/-! PURE: kin -/
theorem ed_bd {e : Nat → Nat → Bool} : ∀ i j, edD e i j ≤ i + j := by
  intro i
  induction i with
  | zero => intro j; cases j <;> (unfold edD; omega)
  | succ i ih =>
    intro j
    cases j with
    | zero => unfold edD; omega
    | succ j =>
      unfold edD
      have := ih (j + 1)
      omega
theorem ed_0 {e : Nat → Nat → Bool} (j : Nat) : edD e 0 j = j := by cases j <;> rw [edD]
theorem ed_s0 {e : Nat → Nat → Bool} (i : Nat) : edD e i 0 = i := by cases i <;> rw [edD]
theorem ed_ss {e : Nat → Nat → Bool} (i j : Nat) : edD e (i + 1) (j + 1) = min (edD e i j + (if e i j then 0 else 1)) (min (edD e i (j + 1)) (edD e (i + 1) j) + 1) := by rw [edD]
theorem ed_sym {e f : Nat → Nat → Bool} (h : ∀ i j, e i j = f j i) : ∀ i j, edD e i j = edD f j i := by
  intro i
  induction i with
  | zero => intro j; rw [ed_0, ed_s0]
  | succ i ih =>
    intro j
    induction j with
    | zero => rw [ed_0, ed_s0]
    | succ j ih2 =>
      rw [ed_ss, ed_ss, ih j, ih (j + 1), ih2, h i j, Nat.min_comm (edD f (j + 1) i)]
theorem ed_self {e : Nat → Nat → Bool} (h : ∀ i, e i i = true) : ∀ i, edD e i i = 0 := by
  intro i
  induction i with
  | zero => exact ed_0 0
  | succ i ih =>
    rw [ed_ss, ih, h i]
    simp
theorem far_sym {S : St} (p q : Nat) : farP S p q = farP S q p := by
  unfold farP
  rw [Nat.xor_comm]
  congr 1
  exact ed_sym (fun i j => by unfold acE; rw [Bool.eq_iff_iff]; simp [eq_comm]) _ _
theorem ed_same {S : St} (p : Nat) : edP S p p = 0 := ed_self (fun i => by unfold acE; exact decide_eq_true rfl) _
theorem far_same {S : St} (p : Nat) : farP S p p = 0 := by
  unfold farP
  rw [Nat.xor_self, ed_same]; rfl
theorem ac_bd {S : St} (W : WF S) {p : Nat} (hp : p < nPg S) : sN S 709 0 p ≤ 72 := (W.pg.2.1 p hp).2.2.2.2.2.1
theorem far_bd {S : St} (W : WF S) {p q : Nat} (hp : p < nPg S) (hq : q < nPg S) : farP S p q ≤ 300 := by
  have h1 := (pc_eq (sN S 706 0 p ^^^ sN S 706 0 q)).2
  have h2 := ed_bd (e := acE S p q) (sN S 709 0 p) (sN S 709 0 q)
  have h3 := ac_bd W hp
  have h4 := ac_bd W hq
  unfold farP edP
  omega
theorem acd_in {a b : Nat} (ha : a < 4) (hb : b < 4) : nI (acd a) = nI (acd b) ↔ a = b := by
  have h1 : a = 0 ∨ a = 1 ∨ a = 2 ∨ a = 3 := by omega
  have h2 : b = 0 ∨ b = 1 ∨ b = 2 ∨ b = 3 := by omega
  rcases h1 with rfl | rfl | rfl | rfl <;> rcases h2 with rfl | rfl | rfl | rfl <;> decide
/-- a row of the table after i acts and j places -/
def rowOk (e : Nat → Nat → Bool) (i j m : Nat) (f : Nat → Int32) : Prop := (∀ c, c ≤ j → f c = nI (edD e (i + 1) c)) ∧ ∀ c, j < c → c ≤ m → f c = nI (edD e i c)
theorem far_M {S : St} {p q : Nat} {ν0 : Mem} (W : WF S) (R : MR S ν0) (hp : p < nPg S) (hq : q < nPg S) : ∃ ν', M_farOf (nI p) (nI q) ν0 = some (nI (farP S p q), ν') ∧ MR S ν' ∧ Fr [1377] ν0 ν' := by
  have h16 := W.pg.1
  have hn := ac_bd W hp
  have hm := ac_bd W hq
  have wp := W.pg.2.1 p hp
  have wq := W.pg.2.1 q hq
  have rp := R.pg.2 p hp
  have rq := R.pg.2 q hq
  generalize hnn : sN S 709 0 p = n at hn
  generalize hmm : sN S 709 0 q = m at hm
  have eb := ed_bd (e := acE S p q)
  obtain ⟨ν1, e1, F1, K1⟩ : ∃ s, M_farOf_l1 (nI p) (nI q) (nI n) (nI m) FU (nI 0) ν0 = some s ∧ Fr [1377] ν0 s ∧ ∀ c, c ≤ m → mI s 1377 0 c = nI c := by
    refine loopE (fun f v s => M_farOf_l1 (nI p) (nI q) (nI n) (nI m) f v s) (m + 1) (fun c s => Fr [1377] ν0 s ∧ ∀ k, k < c → mI s 1377 0 k = nI k) (fun s => Fr [1377] ν0 s ∧ ∀ c, c ≤ m → mI s 1377 0 c = nI c) ?_ ?_ (m + 1) 0 ν0 FU (by omega) (FU_lt (by omega)) ⟨Fr.refl, fun k h => absurd h (by omega)⟩
    · rintro f k s hk ⟨F, hI⟩
      left
      refine ⟨mSI s 1377 0 k (nI k), ?_, fr_si (by simp) F, fun c hc => ?_⟩
      · show M_farOf_l1b (nI p) (nI q) (nI n) (nI m) (M_farOf_l1 (nI p) (nI q) (nI n) (nI m) f) (nI k) s = _
        unfold M_farOf_l1b
        rw [if_neg (fun z => absurd ((lt_n (by omega) (by omega)).mp z) (by omega)), wr_n (by omega) (by decide), bS, bS, add_n]
      · by_cases e : c = k
        · subst e; exact iS_eq
        · exact (iS_c e).trans (hI c (by omega))
    · rintro f s ⟨F, hI⟩
      refine ⟨s, ?_, F, fun c hc => hI c (by omega)⟩
      show M_farOf_l1b (nI p) (nI q) (nI n) (nI m) (M_farOf_l1 (nI p) (nI q) (nI n) (nI m) f) (nI (m + 1)) s = _
      unfold M_farOf_l1b
      rw [if_pos ((lt_n (by omega) (by omega)).mpr (by omega))]
  obtain ⟨ν2, e2, F2, K2⟩ : ∃ s, M_farOf_l2 (nI p) (nI q) (nI n) (nI m) FU (nI 1) ν1 = some s ∧ Fr [1377] ν0 s ∧ ∀ c, c ≤ m → mI s 1377 0 c = nI (edD (acE S p q) n c) := by
    refine loopE (fun f v s => M_farOf_l2 (nI p) (nI q) (nI n) (nI m) f v s) (n + 1) (fun i s => 0 < i ∧ Fr [1377] ν0 s ∧ ∀ c, c ≤ m → mI s 1377 0 c = nI (edD (acE S p q) (i - 1) c)) (fun s => Fr [1377] ν0 s ∧ ∀ c, c ≤ m → mI s 1377 0 c = nI (edD (acE S p q) n c)) ?_ ?_ n 1 ν1 FU (by omega) (FU_lt (by omega)) ⟨by decide, F1, fun c hc => by rw [Nat.sub_self, ed_0]; exact K1 c hc⟩
    · rintro f i s hi ⟨hi0, F, hI⟩
      obtain ⟨i, rfl⟩ : ∃ j, i = j + 1 := ⟨i - 1, by omega⟩
      rw [Nat.add_sub_cancel] at hI
      left
      have hRs := R.fr F (by decide)
      obtain ⟨s1, a1, a2, a3⟩ : ∃ s1, M_farOf_l3 (nI p) (nI q) (nI n) (nI m) (nI (i + 1)) FU (nI (edD (acE S p q) i 0)) (nI 1) (mSI s 1377 0 0 (nI (i + 1))) = some s1 ∧ Fr [1377] ν0 s1 ∧ ∀ c, c ≤ m → mI s1 1377 0 c = nI (edD (acE S p q) (i + 1) c) := by
        refine loopE (fun f v (s : Int32 × Mem) => M_farOf_l3 (nI p) (nI q) (nI n) (nI m) (nI (i + 1)) f s.1 v s.2) (m + 1) (fun j s => 0 < j ∧ s.1 = nI (edD (acE S p q) i (j - 1)) ∧ Fr [1377] ν0 s.2 ∧ rowOk (acE S p q) i (j - 1) m (mI s.2 1377 0)) (fun s1 => Fr [1377] ν0 s1 ∧ ∀ c, c ≤ m → mI s1 1377 0 c = nI (edD (acE S p q) (i + 1) c)) ?_ ?_ m 1 (nI (edD (acE S p q) i 0), mSI s 1377 0 0 (nI (i + 1))) FU (by omega) (FU_lt (by omega)) ⟨by decide, rfl, fr_si (by simp) F, fun c hc => ?_, fun c h1 h2 => ?_⟩
        · rintro f j ⟨x, s⟩ hj ⟨hj0, hx, F, r1, r2⟩
          obtain ⟨j, rfl⟩ : ∃ k, j = k + 1 := ⟨j - 1, by omega⟩
          rw [Nat.add_sub_cancel] at hx r1 r2
          simp only at hx F r1 r2
          subst hx
          left
          have b1 := eb i j
          have b2 := eb i (j + 1)
          have b3 := eb (i + 1) j
          have t1 := wp.2.2.2.2.2.2.1 i (by omega)
          have t2 := wq.2.2.2.2.2.2.1 j (by omega)
          have g1 : mI s 1320 0 (72 * p + i) = nI (acd (sN S 708 p i)) := by rw [F.i 1320 (by decide)]; exact rp.2.2.2.1 i (by omega)
          have g2 : mI s 1320 0 (72 * q + j) = nI (acd (sN S 708 q j)) := by rw [F.i 1320 (by decide)]; exact rq.2.2.2.1 j (by omega)
          refine ⟨(nI (edD (acE S p q) i (j + 1)), mSI s 1377 0 (j + 1) (nI (edD (acE S p q) (i + 1) (j + 1)))), ?_, by omega, rfl, fr_si (by simp) F, fun c hc => ?_, fun c h1 h2 => ?_⟩
          · show M_farOf_l3b (nI p) (nI q) (nI n) (nI m) (nI (i + 1)) (M_farOf_l3 (nI p) (nI q) (nI n) (nI m) (nI (i + 1)) f) (nI (edD (acE S p q) i j)) (nI (j + 1)) s = _
            unfold M_farOf_l3b
            have hx : (if nI (acd (sN S 708 p i)) = nI (acd (sN S 708 q j)) then some (nI 0) else some (nI 1)) = some (nI (if acE S p q i j then 0 else 1)) := by
              unfold acE
              by_cases h : sN S 708 p i = sN S 708 q j
              · rw [if_pos (by rw [h]), decide_eq_true h]; rfl
              · rw [if_neg (fun z => h ((acd_in t1 t2).mp z)), decide_eq_false h]; rfl
            have hle : (if acE S p q i j then 0 else 1) ≤ 1 := by split <;> omega
            rw [if_neg (fun z => absurd ((lt_n (by omega) (by omega)).mp z) (by omega)), mul_n, add_n, sub_n (by omega), show 72 * p + (i + 1) - 1 = 72 * p + i by omega, rd_n (by omega) (by decide), g1, bS, mul_n, add_n, sub_n (by omega), show 72 * q + (j + 1) - 1 = 72 * q + j by omega, rd_n (by omega) (by decide), g2, bS, hx, bS, add_n, bS, rd_n (by omega) (by decide), r2 (j + 1) (by omega) (by omega), bS, bS, sub_n (by omega), Nat.add_sub_cancel, rd_n (by omega) (by decide), r1 j (Nat.le_refl _), bS, jMin_n (by omega) (by omega), add_n, jMin_n (by omega) (by omega), ← ed_ss, wr_n (by omega) (by decide), bS, bS, add_n]
          · rw [show j + 1 + 1 - 1 = j + 1 by omega] at hc
            show mI (mSI s 1377 0 (j + 1) _) 1377 0 c = _
            by_cases e : c = j + 1
            · subst e; exact iS_eq
            · rw [iS_c e]; exact r1 c (by omega)
          · rw [show j + 1 + 1 - 1 = j + 1 by omega] at h1
            show mI (mSI s 1377 0 (j + 1) _) 1377 0 c = _
            rw [iS_c (by omega)]; exact r2 c (by omega) h2
        · rintro f ⟨x, s⟩ ⟨hj0, hx, F, r1, r2⟩
          refine ⟨s, ?_, F, fun c hc => r1 c (by omega)⟩
          show M_farOf_l3b (nI p) (nI q) (nI n) (nI m) (nI (i + 1)) (M_farOf_l3 (nI p) (nI q) (nI n) (nI m) (nI (i + 1)) f) x (nI (m + 1)) s = _
          unfold M_farOf_l3b
          rw [if_pos ((lt_n (by omega) (by omega)).mpr (by omega))]
        · rw [Nat.sub_self] at hc
          show mI (mSI s 1377 0 0 _) 1377 0 c = _
          rw [show c = 0 by omega, iS_eq, ed_s0]
        · rw [Nat.sub_self] at h1
          show mI (mSI s 1377 0 0 _) 1377 0 c = _
          rw [iS_c (by omega)]; exact hI c h2
      refine ⟨s1, ?_, by omega, a2, a3⟩
      show M_farOf_l2b (nI p) (nI q) (nI n) (nI m) (M_farOf_l2 (nI p) (nI q) (nI n) (nI m) f) (nI (i + 1)) s = _
      unfold M_farOf_l2b
      rw [if_neg (fun z => absurd ((lt_n (by omega) (by omega)).mp z) (by omega)), rd_n (by decide) (by decide), hI 0 (Nat.zero_le _), bS, wr_n (by decide) (by decide), bS, a1, bS, bS, add_n]
    · rintro f s ⟨hi0, F, hI⟩
      refine ⟨s, ?_, F, hI⟩
      show M_farOf_l2b (nI p) (nI q) (nI n) (nI m) (M_farOf_l2 (nI p) (nI q) (nI n) (nI m) f) (nI (n + 1)) s = _
      unfold M_farOf_l2b
      rw [if_pos ((lt_n (by omega) (by omega)).mpr (by omega))]
  have R2 := R.fr F2 (by decide)
  refine ⟨ν2, ?_, R2, F2⟩
  unfold M_farOf
  have d1 : mRd ν0 1319 0 17 (nI p) = some (nI n) := by rw [rd_n (by omega) (by decide), rp.2.2.1, hnn]
  have d2 : mRd ν0 1319 0 17 (nI q) = some (nI m) := by rw [rd_n (by omega) (by decide), rq.2.2.1, hmm]
  rw [d1, bS, d2, bS, e1, bS, e2, bS, things_M W R2.pg hp, bS, things_M W R2.pg hq, bS, xor_n, bits_M, bS, rd_n (by omega) (by decide), K2 m (Nat.le_refl _), bS, add_n]
  unfold farP edP
  rw [hnn, hmm]
theorem acts_C {S : St} {p q : Nat} {μ0 : Mem} (W : WF S) (h708 : ∀ r i, r = p ∨ r = q → i < sN S 709 0 r → mI μ0 708 r i = nI (sN S 708 r i)) (h709 : ∀ r, r = p ∨ r = q → mI μ0 709 0 r = nI (sN S 709 0 r)) (hb : ∀ r, r = p ∨ r = q → sN S 709 0 r ≤ 72 ∧ ∀ i, i < sN S 709 0 r → sN S 708 r i < 4) (hp : p < 17) (hq : q < 17) :
    ∃ μ', Kin_actChanges (nI p) (nI q) μ0 = some (nI (edP S p q), μ') ∧ Fr [304] μ0 μ' := by
  have hn := (hb p (Or.inl rfl)).1
  have hm := (hb q (Or.inr rfl)).1
  have dn := h709 p (Or.inl rfl)
  have dm := h709 q (Or.inr rfl)
  have ap := h708 p
  have aq := h708 q
  generalize hnn : sN S 709 0 p = n at hn dn
  generalize hmm : sN S 709 0 q = m at hm dm
  have eb := ed_bd (e := acE S p q)
  obtain ⟨μ1, e1, F1, K1⟩ : ∃ s, Kin_actChanges_l1 (nI p) (nI q) (nI m) FU (nI 0) μ0 = some s ∧ Fr [304] μ0 s ∧ ∀ c, c ≤ m → mI s 304 0 c = nI c := by
    refine loopE (fun f v s => Kin_actChanges_l1 (nI p) (nI q) (nI m) f v s) (m + 1) (fun c s => Fr [304] μ0 s ∧ ∀ k, k < c → mI s 304 0 k = nI k) (fun s => Fr [304] μ0 s ∧ ∀ c, c ≤ m → mI s 304 0 c = nI c) ?_ ?_ (m + 1) 0 μ0 FU (by omega) (FU_lt (by omega)) ⟨Fr.refl, fun k h => absurd h (by omega)⟩
    · rintro f k s hk ⟨F, hI⟩
      left
      refine ⟨mSI s 304 0 k (nI k), ?_, fr_si (by simp) F, fun c hc => ?_⟩
      · show Kin_actChanges_l1b (nI p) (nI q) (nI m) (Kin_actChanges_l1 (nI p) (nI q) (nI m) f) (nI k) s = _
        unfold Kin_actChanges_l1b
        rw [if_neg (fun z => absurd ((lt_n (by omega) (by omega)).mp z) (by omega)), wr_n (by omega) (by decide), bS, bS, add_n]
      · by_cases e : c = k
        · subst e; exact iS_eq
        · exact (iS_c e).trans (hI c (by omega))
    · rintro f s ⟨F, hI⟩
      refine ⟨s, ?_, F, fun c hc => hI c (by omega)⟩
      show Kin_actChanges_l1b (nI p) (nI q) (nI m) (Kin_actChanges_l1 (nI p) (nI q) (nI m) f) (nI (m + 1)) s = _
      unfold Kin_actChanges_l1b
      rw [if_pos ((lt_n (by omega) (by omega)).mpr (by omega))]
  obtain ⟨μ2, e2, F2, K2⟩ : ∃ s, Kin_actChanges_l2 (nI p) (nI q) (nI m) FU (nI 1) μ1 = some s ∧ Fr [304] μ0 s ∧ ∀ c, c ≤ m → mI s 304 0 c = nI (edD (acE S p q) n c) := by
    refine loopE (fun f v s => Kin_actChanges_l2 (nI p) (nI q) (nI m) f v s) (n + 1) (fun i s => 0 < i ∧ Fr [304] μ0 s ∧ ∀ c, c ≤ m → mI s 304 0 c = nI (edD (acE S p q) (i - 1) c)) (fun s => Fr [304] μ0 s ∧ ∀ c, c ≤ m → mI s 304 0 c = nI (edD (acE S p q) n c)) ?_ ?_ n 1 μ1 FU (by omega) (FU_lt (by omega)) ⟨by decide, F1, fun c hc => by rw [Nat.sub_self, ed_0]; exact K1 c hc⟩
    · rintro f i s hi ⟨hi0, F, hI⟩
      obtain ⟨i, rfl⟩ : ∃ j, i = j + 1 := ⟨i - 1, by omega⟩
      rw [Nat.add_sub_cancel] at hI
      left
      obtain ⟨s1, a1, a2, a3⟩ : ∃ s1, Kin_actChanges_l3 (nI p) (nI q) (nI m) (nI (i + 1)) FU (nI (edD (acE S p q) i 0)) (nI 1) (mSI s 304 0 0 (nI (i + 1))) = some s1 ∧ Fr [304] μ0 s1 ∧ ∀ c, c ≤ m → mI s1 304 0 c = nI (edD (acE S p q) (i + 1) c) := by
        refine loopE (fun f v (s : Int32 × Mem) => Kin_actChanges_l3 (nI p) (nI q) (nI m) (nI (i + 1)) f s.1 v s.2) (m + 1) (fun j s => 0 < j ∧ s.1 = nI (edD (acE S p q) i (j - 1)) ∧ Fr [304] μ0 s.2 ∧ rowOk (acE S p q) i (j - 1) m (mI s.2 304 0)) (fun s1 => Fr [304] μ0 s1 ∧ ∀ c, c ≤ m → mI s1 304 0 c = nI (edD (acE S p q) (i + 1) c)) ?_ ?_ m 1 (nI (edD (acE S p q) i 0), mSI s 304 0 0 (nI (i + 1))) FU (by omega) (FU_lt (by omega)) ⟨by decide, rfl, fr_si (by simp) F, fun c hc => ?_, fun c h1 h2 => ?_⟩
        · rintro f j ⟨x, s⟩ hj ⟨hj0, hx, F, r1, r2⟩
          obtain ⟨j, rfl⟩ : ∃ k, j = k + 1 := ⟨j - 1, by omega⟩
          rw [Nat.add_sub_cancel] at hx r1 r2
          simp only at hx F r1 r2
          subst hx
          left
          have b1 := eb i j
          have b2 := eb i (j + 1)
          have b3 := eb (i + 1) j
          have t1 := (hb p (Or.inl rfl)).2 i (by omega)
          have t2 := (hb q (Or.inr rfl)).2 j (by omega)
          have g1 : mI s 708 p i = nI (sN S 708 p i) := by rw [F.i 708 (by decide)]; exact ap i (Or.inl rfl) (by omega)
          have g2 : mI s 708 q j = nI (sN S 708 q j) := by rw [F.i 708 (by decide)]; exact aq j (Or.inr rfl) (by omega)
          refine ⟨(nI (edD (acE S p q) i (j + 1)), mSI s 304 0 (j + 1) (nI (edD (acE S p q) (i + 1) (j + 1)))), ?_, by omega, rfl, fr_si (by simp) F, fun c hc => ?_, fun c h1 h2 => ?_⟩
          · show Kin_actChanges_l3b (nI p) (nI q) (nI m) (nI (i + 1)) (Kin_actChanges_l3 (nI p) (nI q) (nI m) (nI (i + 1)) f) (nI (edD (acE S p q) i j)) (nI (j + 1)) s = _
            unfold Kin_actChanges_l3b
            have hx : ((if nI (sN S 708 p i) = nI (sN S 708 q j) then some (nI 1) else some (nI 0)).bind fun x5 => if x5 = 0 then some (nI (edD (acE S p q) i j + 1)) else some (nI (edD (acE S p q) i j))) = some (nI (edD (acE S p q) i j + (if acE S p q i j then 0 else 1))) := by
              unfold acE
              by_cases h : sN S 708 p i = sN S 708 q j
              · rw [if_pos (by rw [h]), bS, if_neg n10, decide_eq_true h]; rfl
              · rw [if_neg (fun z => h ((eq_n (by omega) (by omega)).mp z)), bS, if_pos z00, decide_eq_false h]; rfl
            obtain ⟨y, y1, y2⟩ := bdS hx
            have hle : (if acE S p q i j then 0 else 1) ≤ 1 := by split <;> omega
            rw [if_neg (fun z => absurd ((lt_n (by omega) (by omega)).mp z) (by omega)), ix_n (by omega) (by decide), bS, sub_n (by omega), Nat.add_sub_cancel, rd_n (by omega) (by decide), g1, bS, ix_n (by omega) (by decide), bS, sub_n (by omega), Nat.add_sub_cancel, rd_n (by omega) (by decide), g2, bS, y1, bS, add_n, y2, bS, rd_n (by omega) (by decide), r2 (j + 1) (by omega) (by omega), bS, bS, rd_n (by omega) (by decide), r1 j (Nat.le_refl _), bS, jMin_n (by omega) (by omega), add_n, jMin_n (by omega) (by omega), ← ed_ss, wr_n (by omega) (by decide), bS, bS, add_n]
          · rw [show j + 1 + 1 - 1 = j + 1 by omega] at hc
            show mI (mSI s 304 0 (j + 1) _) 304 0 c = _
            by_cases e : c = j + 1
            · subst e; exact iS_eq
            · rw [iS_c e]; exact r1 c (by omega)
          · rw [show j + 1 + 1 - 1 = j + 1 by omega] at h1
            show mI (mSI s 304 0 (j + 1) _) 304 0 c = _
            rw [iS_c (by omega)]; exact r2 c (by omega) h2
        · rintro f ⟨x, s⟩ ⟨hj0, hx, F, r1, r2⟩
          refine ⟨s, ?_, F, fun c hc => r1 c (by omega)⟩
          show Kin_actChanges_l3b (nI p) (nI q) (nI m) (nI (i + 1)) (Kin_actChanges_l3 (nI p) (nI q) (nI m) (nI (i + 1)) f) x (nI (m + 1)) s = _
          unfold Kin_actChanges_l3b
          rw [if_pos ((lt_n (by omega) (by omega)).mpr (by omega))]
        · rw [Nat.sub_self] at hc
          show mI (mSI s 304 0 0 _) 304 0 c = _
          rw [show c = 0 by omega, iS_eq, ed_s0]
        · rw [Nat.sub_self] at h1
          show mI (mSI s 304 0 0 _) 304 0 c = _
          rw [iS_c (by omega)]; exact hI c h2
      refine ⟨s1, ?_, by omega, a2, a3⟩
      show Kin_actChanges_l2b (nI p) (nI q) (nI m) (Kin_actChanges_l2 (nI p) (nI q) (nI m) f) (nI (i + 1)) s = _
      unfold Kin_actChanges_l2b
      rw [rd_n hp (by decide), F.i 709 (by decide), dn, bS, if_neg (fun z => absurd ((lt_n (by omega) (by omega)).mp z) (by omega)), rd_n (by decide) (by decide), hI 0 (Nat.zero_le _), bS, wr_n (by decide) (by decide), bS, a1, bS, bS, add_n]
    · rintro f s ⟨hi0, F, hI⟩
      refine ⟨s, ?_, F, hI⟩
      show Kin_actChanges_l2b (nI p) (nI q) (nI m) (Kin_actChanges_l2 (nI p) (nI q) (nI m) f) (nI (n + 1)) s = _
      unfold Kin_actChanges_l2b
      rw [rd_n hp (by decide), F.i 709 (by decide), dn, bS, if_pos ((lt_n (by omega) (by omega)).mpr (by omega))]
  refine ⟨μ2, ?_, F2⟩
  unfold Kin_actChanges
  rw [rd_n hq (by decide), dm, bS, e1, bS, e2, bS, rd_n (by omega) (by decide), K2 m (Nat.le_refl _), bS]
  unfold edP
  rw [hnn, hmm]
/-- an answer of the class without memory, of the reference with memory -/
def CmdM (B : Mem → Option Int32) (M : Mem → Option (Int32 × Mem)) : Prop := ∀ (S : St) (μ ν : Mem), WF S → CR S μ → MR S ν → ∃ r ν', B μ = some r ∧ M ν = some (r, ν') ∧ MR S ν'
theorem q_far (x y : Int32) : CmdM (B_far x y) (M_far x y) := by
  intro S μ ν W C R
  have h16 := W.pg.1
  unfold B_far M_far
  rcases pg_arg W x with hx | ⟨p, hp, rfl⟩
  · rw [hasP0 C hx, isP0 W R hx, bS, bS, if_pos (by decide), if_pos (by decide)]; exact ⟨_, _, rfl, rfl, R⟩
  · rw [hasP1 W C hp, isP1 W R hp, bS, bS, if_neg n10, if_neg n10]
    rcases pg_arg W y with hy | ⟨q, hq, rfl⟩
    · rw [hasP0 C hy, isP0 W R hy, bS, bS, if_pos (by decide), if_pos (by decide)]; exact ⟨_, _, rfl, rfl, R⟩
    · obtain ⟨ν1, a1, a2, -⟩ := far_M W R hp hq
      rw [hasP1 W C hq, isP1 W R hq, bS, bS, if_neg n10, if_neg n10, a1, bS, ix_n (by omega) (by decide), bS, rd_n (by omega) (by decide), C.kn.1 p q hp hq, bS]
      exact ⟨_, _, rfl, rfl, a2⟩
/-! came -/
theorem cam_lt {S : St} {p : Nat} : ∀ {q : Nat}, 0 < q → camP S p q < q := by
  intro q
  induction q with
  | zero => intro h; omega
  | succ q ih =>
    intro _
    unfold camP
    split
    · omega
    · have := ih (by omega)
      split <;> omega
theorem cam_I {S : St} {p : Nat} : camI S p = -1 ∧ p = 0 ∨ ∃ q, q < p ∧ camI S p = nI q ∧ q = camP S p p := by
  unfold camI
  by_cases h : p = 0
  · exact Or.inl ⟨if_pos h, h⟩
  · exact Or.inr ⟨camP S p p, cam_lt (by omega), if_neg h, rfl⟩
theorem came_M {S : St} {p : Nat} {ν0 : Mem} (W : WF S) (R : MR S ν0) (hp : p < nPg S) : ∃ ν', M_came (nI p) ν0 = some (camI S p, ν') ∧ MR S ν' := by
  have h16 := W.pg.1
  obtain ⟨⟨r, ν1⟩, e1, e2, e3⟩ : ∃ s, M_came_l1 (nI p) FU (-1) (nI 0) ν0 = some s ∧ s.1 = camI S p ∧ MR S s.2 := by
    refine loopE (fun f v (s : Int32 × Mem) => M_came_l1 (nI p) f s.1 v s.2) p (fun c s => MR S s.2 ∧ s.1 = if c = 0 then -1 else nI (camP S p c)) (fun s => s.1 = camI S p ∧ MR S s.2) ?_ ?_ p 0 (-1, ν0) FU (by omega) (FU_lt (by omega)) ⟨R, rfl⟩
    · rintro f q ⟨b, ν⟩ hq ⟨R, hb⟩
      simp only at R hb
      left
      have hqn : q < nPg S := by omega
      by_cases h0 : q = 0
      · subst h0
        rw [if_pos rfl] at hb
        subst hb
        refine ⟨(nI 0, ν), ?_, R, rfl⟩
        show M_came_l1b (nI p) (M_came_l1 (nI p) f) (-1) (nI 0) ν = _
        unfold M_came_l1b
        rw [if_pos ((lt_n (by omega) (by omega)).mpr hq), if_pos rfl, bS]
        simp only []
        rw [bS, add_n]
      · rw [if_neg h0] at hb
        subst hb
        have hcl := cam_lt (S := S) (p := p) (q := q) (by omega)
        have hbd1 := far_bd W hp hqn
        have hbd2 := far_bd W hp (show camP S p q < nPg S by omega)
        obtain ⟨ν1, a1, a2, -⟩ := far_M W R hp hqn
        obtain ⟨ν2, b1, b2, -⟩ := far_M W a2 hp (show camP S p q < nPg S by omega)
        refine ⟨(nI (camP S p (q + 1)), ν2), ?_, b2, rfl⟩
        have hu : camP S p (q + 1) = if q = 0 then 0 else if farP S p q < farP S p (camP S p q) then q else camP S p q := rfl
        show M_came_l1b (nI p) (M_came_l1 (nI p) f) (nI (camP S p q)) (nI q) ν = _
        unfold M_came_l1b
        rw [if_pos ((lt_n (by omega) (by omega)).mpr hq), if_neg (fun z => (m1_n (by omega)).mp z), a1, bS]
        simp only []
        rw [b1, bS]
        simp only []
        rw [hu, if_neg h0]
        by_cases q2 : farP S p q < farP S p (camP S p q)
        · rw [if_pos ((lt_n (by omega) (by omega)).mpr q2), bS, if_pos q2]
          simp only []
          rw [bS, add_n]
        · rw [if_neg (fun z => q2 ((lt_n (by omega) (by omega)).mp z)), bS, if_neg q2]
          simp only []
          rw [bS, add_n]
    · rintro f ⟨b, ν⟩ ⟨R, hb⟩
      refine ⟨(b, ν), ?_, hb, R⟩
      show M_came_l1b (nI p) (M_came_l1 (nI p) f) b (nI p) ν = _
      unfold M_came_l1b
      rw [if_neg (fun z => absurd ((lt_n (by omega) (by omega)).mp z) (by omega))]
  simp only at e2 e3
  subst e2
  refine ⟨ν1, ?_, e3⟩
  unfold M_came
  rw [isP1 W R hp, bS, if_neg n10, e1, bS]
theorem q_came (x : Int32) : CmdM (B_came x) (M_came x) := by
  intro S μ ν W C R
  have h16 := W.pg.1
  rcases pg_arg W x with hx | ⟨p, hp, rfl⟩
  · unfold B_came M_came
    rw [hasP0 C hx, isP0 W R hx, bS, bS, if_pos (by decide), if_pos (by decide)]; exact ⟨_, _, rfl, rfl, R⟩
  · obtain ⟨ν1, a1, a2⟩ := came_M W R hp
    unfold B_came
    rw [hasP1 W C hp, bS, if_neg n10, rd_n (by omega) (by decide), C.kn.2.2 p hp, bS, a1]
    exact ⟨_, _, rfl, rfl, a2⟩
/-! line and stem -/
theorem line_both {S : St} {μ : Mem} (W : WF S) (C : CR S μ) : ∀ (n p : Nat), p ≤ n → p < nPg S → ∃ L, L ≤ p ∧ ∀ c k f g ν, k + p ≤ 16 → c + p ≤ 100 → p < f → p < g → MR S ν → Kin_stepsUp_l1 μ f (nI c) (camI S p) (nI k) = some (nI (c + L)) ∧ ∃ ν', M_line_l1 g (nI c) (camI S p) ν = some (nI (c + L), ν') ∧ MR S ν' := by
  have h16 := W.pg.1
  intro n
  induction n with
  | zero =>
    intro p hp hpn
    have hp : p = 0 := by omega
    subst hp
    refine ⟨0, Nat.le_refl _, fun c k f g ν hk hc hf hg R => ?_⟩
    obtain ⟨f, rfl⟩ : ∃ h, f = h + 1 := ⟨f - 1, by omega⟩
    obtain ⟨g, rfl⟩ : ∃ h, g = h + 1 := ⟨g - 1, by omega⟩
    refine ⟨?_, ν, ?_, R⟩
    · show Kin_stepsUp_l1b μ (Kin_stepsUp_l1 μ f) (nI c) (-1) (nI k) = _
      unfold Kin_stepsUp_l1b
      rw [if_pos (show (-1 : Int32) = -1 from rfl)]
      split <;> rfl
    · show M_line_l1b (M_line_l1 g) (nI c) (-1) ν = _
      unfold M_line_l1b
      rw [if_pos rfl]; rfl
  | succ n ih =>
    intro p hp hpn
    rcases cam_I (S := S) (p := p) with ⟨h1, h2⟩ | ⟨q, hq, hqI, -⟩
    · exact ih p (by omega) hpn
    · obtain ⟨L, hL, hh⟩ := ih q (by omega) (by omega)
      refine ⟨L + 1, by omega, fun c k f g ν hk hc hf hg R => ?_⟩
      obtain ⟨f, rfl⟩ : ∃ h, f = h + 1 := ⟨f - 1, by omega⟩
      obtain ⟨g, rfl⟩ : ∃ h, g = h + 1 := ⟨g - 1, by omega⟩
      obtain ⟨ν1, a1, a2⟩ := came_M W R (show q < nPg S by omega)
      obtain ⟨k1, ν', k2, k3⟩ := hh (c + 1) (k + 1) f g ν1 (by omega) (by omega) (by omega) (by omega) a2
      rw [hqI, show c + (L + 1) = c + 1 + L by omega]
      refine ⟨?_, ν', ?_, k3⟩
      · show Kin_stepsUp_l1b μ (Kin_stepsUp_l1 μ f) (nI c) (nI q) (nI k) = _
        unfold Kin_stepsUp_l1b
        rw [if_pos ((lt_n (by omega) (by decide)).mpr (by omega)), if_neg (fun z => (m1_n (by omega)).mp z), bS, rd_n (by omega) (by decide), C.kn.2.2 q (by omega), bS, bS, add_n, add_n]
        exact k1
      · show M_line_l1b (M_line_l1 g) (nI c) (nI q) ν = _
        unfold M_line_l1b
        rw [if_neg (fun z => (m1_n (by omega)).mp z), bS, a1, bS, add_n]
        exact k2
theorem q_line (x : Int32) : CmdM (B_line x) (M_line x) := by
  intro S μ ν W C R
  have h16 := W.pg.1
  unfold B_line M_line
  rcases pg_arg W x with hx | ⟨p, hp, rfl⟩
  · rw [hasP0 C hx, isP0 W R hx, bS, bS, if_pos (by decide), if_pos (by decide)]; exact ⟨_, _, rfl, rfl, R⟩
  · obtain ⟨ν1, a1, a2⟩ := came_M W R hp
    obtain ⟨L, hL, hh⟩ := line_both W C p p (Nat.le_refl _) hp
    obtain ⟨k1, ν', k2, k3⟩ := hh 0 0 FU FU ν1 (by omega) (by omega) (FU_lt (by omega)) (FU_lt (by omega)) a2
    unfold Kin_stepsUp
    rw [hasP1 W C hp, isP1 W R hp, bS, bS, if_neg n10, if_neg n10, rd_n (by omega) (by decide), C.kn.2.2 p hp, bS, k1, bS, bS, a1, bS]
    simp only []
    rw [k2, bS]
    exact ⟨_, _, rfl, rfl, k3⟩
theorem stem_both {S : St} {μ : Mem} (W : WF S) (C : CR S μ) : ∀ (n a b : Nat), a + b ≤ n → b ≤ a → a < nPg S → ∃ r, ∀ k f g ν, k + a + b ≤ 32 → a + b < f → a + b < g → MR S ν → Kin_meeting_l1 μ f (nI a) (nI b) (nI k) = some r ∧ Kin_meeting_l1 μ f (nI b) (nI a) (nI k) = some r ∧ (∃ ν', M_stem_l1 g (nI a) (nI b) ν = some (r, ν') ∧ MR S ν') ∧ ∃ ν', M_stem_l1 g (nI b) (nI a) ν = some (r, ν') ∧ MR S ν' := by
  have h16 := W.pg.1
  intro n
  induction n with
  | zero =>
    intro a b hab hba ha
    have e1 : a = 0 := by omega
    have e2 : b = 0 := by omega
    subst e1; subst e2
    refine ⟨nI 0, fun k f g ν hk hf hg R => ?_⟩
    obtain ⟨f, rfl⟩ : ∃ h, f = h + 1 := ⟨f - 1, by omega⟩
    obtain ⟨g, rfl⟩ : ∃ h, g = h + 1 := ⟨g - 1, by omega⟩
    have c1 : Kin_meeting_l1 μ (f + 1) (nI 0) (nI 0) (nI k) = some (nI 0) := by
      show Kin_meeting_l1b μ (Kin_meeting_l1 μ f) (nI 0) (nI 0) (nI k) = _
      unfold Kin_meeting_l1b
      rw [if_pos (show nI 0 = nI 0 from rfl)]
      split <;> rfl
    have c2 : M_stem_l1 (g + 1) (nI 0) (nI 0) ν = some (nI 0, ν) := by
      show M_stem_l1b (M_stem_l1 g) (nI 0) (nI 0) ν = _
      unfold M_stem_l1b
      rw [if_pos rfl]
    exact ⟨c1, c1, ⟨ν, c2, R⟩, ν, c2, R⟩
  | succ n ih =>
    intro a b hab hba ha
    by_cases hn : a + b ≤ n
    · exact ih a b hn hba ha
    · by_cases e : a = b
      · subst e
        refine ⟨nI a, fun k f g ν hk hf hg R => ?_⟩
        obtain ⟨f, rfl⟩ : ∃ h, f = h + 1 := ⟨f - 1, by omega⟩
        obtain ⟨g, rfl⟩ : ∃ h, g = h + 1 := ⟨g - 1, by omega⟩
        have c1 : Kin_meeting_l1 μ (f + 1) (nI a) (nI a) (nI k) = some (nI a) := by
          show Kin_meeting_l1b μ (Kin_meeting_l1 μ f) (nI a) (nI a) (nI k) = _
          unfold Kin_meeting_l1b
          rw [if_pos (show nI a = nI a from rfl)]
          split <;> rfl
        have c2 : M_stem_l1 (g + 1) (nI a) (nI a) ν = some (nI a, ν) := by
          show M_stem_l1b (M_stem_l1 g) (nI a) (nI a) ν = _
          unfold M_stem_l1b
          rw [if_pos rfl]
        exact ⟨c1, c1, ⟨ν, c2, R⟩, ν, c2, R⟩
      · have hlt : b < a := by omega
        rcases cam_I (S := S) (p := a) with ⟨-, h2⟩ | ⟨q, hq, hqI, -⟩
        · omega
        · -- the pair goes on with q and b
          have key : ∃ r, ∀ k f g ν, k + q + b ≤ 32 → q + b < f → q + b < g → MR S ν → Kin_meeting_l1 μ f (nI q) (nI b) (nI k) = some r ∧ Kin_meeting_l1 μ f (nI b) (nI q) (nI k) = some r ∧ ∃ ν', M_stem_l1 g (nI b) (nI q) ν = some (r, ν') ∧ MR S ν' := by
            rcases Nat.le_total b q with hbq | hbq
            · obtain ⟨r, hh⟩ := ih q b (by omega) hbq (by omega)
              refine ⟨r, fun k f g ν h1 h2 h3 h4 => ?_⟩
              obtain ⟨k1, k2, -, k4⟩ := hh k f g ν h1 h2 h3 h4
              exact ⟨k1, k2, k4⟩
            · obtain ⟨r, hh⟩ := ih b q (by omega) hbq (by omega)
              refine ⟨r, fun k f g ν h1 h2 h3 h4 => ?_⟩
              obtain ⟨k1, k2, k3, -⟩ := hh k f g ν (by omega) (by omega) (by omega) h4
              exact ⟨k2, k1, k3⟩
          obtain ⟨r, hh⟩ := key
          refine ⟨r, fun k f g ν hk hf hg R => ?_⟩
          obtain ⟨f, rfl⟩ : ∃ h, f = h + 1 := ⟨f - 1, by omega⟩
          obtain ⟨g, rfl⟩ : ∃ h, g = h + 1 := ⟨g - 1, by omega⟩
          obtain ⟨ν1, a1, a2⟩ := came_M W R ha
          obtain ⟨k1, k2, ν', k3, k4⟩ := hh (k + 1) f g ν1 (by omega) (by omega) (by omega) a2
          have c303 : mRd μ 303 0 16 (nI a) = some (nI q) := by rw [rd_n (by omega) (by decide), C.kn.2.2 a ha, hqI]
          rw [hqI] at a1
          refine ⟨?_, ?_, ⟨ν', ?_, k4⟩, ν', ?_, k4⟩
          · show Kin_meeting_l1b μ (Kin_meeting_l1 μ f) (nI a) (nI b) (nI k) = _
            unfold Kin_meeting_l1b
            rw [if_pos ((lt_n (by omega) (by decide)).mpr (by omega)), if_neg (fun z => e ((eq_n (by omega) (by omega)).mp z)), if_pos ((lt_n (by omega) (by omega)).mpr hlt), c303, bS, bS]
            simp only []
            rw [bS, add_n]
            exact k1
          · show Kin_meeting_l1b μ (Kin_meeting_l1 μ f) (nI b) (nI a) (nI k) = _
            unfold Kin_meeting_l1b
            rw [if_pos ((lt_n (by omega) (by decide)).mpr (by omega)), if_neg (fun z => e ((eq_n (by omega) (by omega)).mp z).symm), if_neg (fun z => absurd ((lt_n (by omega) (by omega)).mp z) (by omega)), c303, bS, bS]
            simp only []
            rw [bS, add_n]
            exact k2
          · show M_stem_l1b (M_stem_l1 g) (nI a) (nI b) ν = _
            unfold M_stem_l1b
            rw [if_neg (fun z => e ((eq_n (by omega) (by omega)).mp z)), jMax_n (by omega) (by omega), Nat.max_eq_left hba, a1, bS]
            simp only []
            rw [jMin_n (by omega) (by omega), Nat.min_eq_right hba, bS]
            exact k3
          · show M_stem_l1b (M_stem_l1 g) (nI b) (nI a) ν = _
            unfold M_stem_l1b
            rw [if_neg (fun z => e ((eq_n (by omega) (by omega)).mp z).symm), jMax_n (by omega) (by omega), Nat.max_eq_right hba, a1, bS]
            simp only []
            rw [jMin_n (by omega) (by omega), Nat.min_eq_left hba, bS]
            exact k3
theorem q_stem (x y : Int32) : CmdM (B_stem x y) (M_stem x y) := by
  intro S μ ν W C R
  have h16 := W.pg.1
  unfold B_stem M_stem
  rcases pg_arg W x with hx | ⟨p, hp, rfl⟩
  · rw [hasP0 C hx, isP0 W R hx, bS, bS, if_pos (by decide), if_pos (by decide)]; exact ⟨_, _, rfl, rfl, R⟩
  · rw [hasP1 W C hp, isP1 W R hp, bS, bS, if_neg n10, if_neg n10]
    rcases pg_arg W y with hy | ⟨q, hq, rfl⟩
    · rw [hasP0 C hy, isP0 W R hy, bS, bS, if_pos (by decide), if_pos (by decide)]; exact ⟨_, _, rfl, rfl, R⟩
    · rw [hasP1 W C hq, isP1 W R hq, bS, bS, if_neg n10, if_neg n10]
      unfold Kin_meeting
      rcases Nat.le_total q p with h | h
      · obtain ⟨r, hh⟩ := stem_both W C (p + q) p q (Nat.le_refl _) h hp
        obtain ⟨k1, -, ⟨ν', k3, k4⟩, -⟩ := hh 0 FU FU ν (by omega) (FU_lt (by omega)) (FU_lt (by omega)) R
        rw [k1, bS, bS, k3, bS]
        exact ⟨_, _, rfl, rfl, k4⟩
      · obtain ⟨r, hh⟩ := stem_both W C (q + p) q p (Nat.le_refl _) h hq
        obtain ⟨-, k2, -, ν', k3, k4⟩ := hh 0 FU FU ν (by omega) (FU_lt (by omega)) (FU_lt (by omega)) R
        rw [k2, bS, bS, k3, bS]
        exact ⟨_, _, rfl, rfl, k4⟩
/-! changed -/
theorem plc_thing {S : St} {p t : Nat} (W : WF S) (hp : p < nPg S) : (sN S 706 0 p).testBit t = true ↔ ∃ k, k < mT S p ∧ plS S p t = some k ∧ sN S 703 p k = t := by
  rw [(W.pg.2.1 p hp).2.2.2.1.2 t]
  constructor
  · rintro ⟨k, h1, h2⟩; exact ⟨k, h1, plS_some W hp h1 h2, h2⟩
  · rintro ⟨k, h1, _, h2⟩; exact ⟨k, h1, h2⟩
/-- told otherwise on p than on q -/
def othB (S : St) (p q t : Nat) : Bool := match plS S p t, plS S q t with
  | some k, some j => !(decide (sN S 704 p k = sN S 704 q j) && decide (sN S 705 p k = sN S 705 q j))
  | _, _ => false
theorem oth_C {S : St} {p q : Nat} {μ : Mem} (W : WF S) (C : C_pg S μ) (hp : p < nPg S) (hq : q < nPg S) : ∃ a, Kin_toldOtherwise (nI p) (nI q) μ = some (nI a) ∧ ∀ t, a.testBit t = true ↔ othB S p q t = true := by
  have h16 := W.pg.1
  have h12 := W.th.1
  have wp := W.pg.2.1 p hp
  have wq := W.pg.2.1 q hq
  have hm8 := wp.1.2
  have hq8 := wq.1.2
  have cp := C.2.1 p hp
  have cq := C.2.1 q hq
  obtain ⟨r, e, hr⟩ : ∃ r, Kin_toldOtherwise_l1 (nI p) (nI q) μ FU (nI 0) (nI 0) = some r ∧ r = nI (orF (fun k => othB S p q (sN S 703 p k)) (sN S 703 p) (mT S p)) := by
    refine loopE (fun f v (s : Int32) => Kin_toldOtherwise_l1 (nI p) (nI q) μ f s v) (mT S p) (fun c s => s = nI (orF (fun k => othB S p q (sN S 703 p k)) (sN S 703 p) c)) (fun r => r = nI (orF (fun k => othB S p q (sN S 703 p k)) (sN S 703 p) (mT S p))) ?_ ?_ (mT S p) 0 (nI 0) FU (by omega) (FU_lt (by omega)) rfl
    · rintro f k s hk rfl
      left
      obtain ⟨t1, t2, t3, -⟩ := wp.2.1 k hk
      have hself := plS_some W hp hk rfl
      obtain ⟨o, o1, o2⟩ := place_C W C hq (nI (sN S 703 p k))
      refine ⟨nI (orF (fun k => othB S p q (sN S 703 p k)) (sN S 703 p) (k + 1)), ?_, rfl⟩
      show Kin_toldOtherwise_l1b (nI p) (nI q) μ (Kin_toldOtherwise_l1 (nI p) (nI q) μ f) (nI _) (nI k) = _
      unfold Kin_toldOtherwise_l1b
      have hu : orF (fun k => othB S p q (sN S 703 p k)) (sN S 703 p) (k + 1) = if othB S p q (sN S 703 p k) = true then orF (fun k => othB S p q (sN S 703 p k)) (sN S 703 p) k ||| 2 ^ sN S 703 p k else orF (fun k => othB S p q (sN S 703 p k)) (sN S 703 p) k := rfl
      rw [rd_n (by omega) (by decide), cp.1, bS, if_pos ((lt_n (by omega) (by omega)).mpr hk), ix_n (by omega) (by decide), bS, rd_n (by omega) (by decide), (cp.2.1 k hk).1, bS, o1, bS]
      rcases plS_of W hq t1 o2 with ⟨rfl, h2⟩ | ⟨j, hj, rfl, -, h2⟩
      · have ho : othB S p q (sN S 703 p k) = false := by unfold othB; rw [hself, h2]
        rw [if_pos rfl, bS, bS, add_n, hu, ho, if_neg (by decide)]
      · have ho : othB S p q (sN S 703 p k) = !(decide (sN S 704 p k = sN S 704 q j) && decide (sN S 705 p k = sN S 705 q j)) := by unfold othB; rw [hself, h2]
        obtain ⟨-, u2, u3, -⟩ := wq.2.1 j hj
        rw [if_neg (fun z => (m1_n (by omega)).mp z), bS, rd_n (by omega) (by decide), (cp.2.1 k hk).2.1, bS, ix_n (by omega) (by decide), bS, rd_n (by omega) (by decide), (cq.2.1 j hj).2.1, bS]
        by_cases q1 : sN S 704 p k = sN S 704 q j
        · rw [if_pos (by rw [q1]), bS, rd_n (by omega) (by decide), (cp.2.1 k hk).2.2, bS, bS, rd_n (by omega) (by decide), (cq.2.1 j hj).2.2, bS]
          by_cases q2 : sN S 705 p k = sN S 705 q j
          · rw [if_pos (by rw [q2]), bS, bS, add_n, hu, ho, decide_eq_true q1, decide_eq_true q2, if_neg (by decide)]
          · rw [if_neg (fun z => q2 ((eq_n (by omega) (by omega)).mp z)), bit1 (by omega), or_n, bS, bS, bS, add_n, hu, ho, decide_eq_true q1, decide_eq_false q2, if_pos (by decide)]
        · rw [if_neg (fun z => q1 ((eq_n (by omega) (by omega)).mp z)), bit1 (by omega), or_n, bS, bS, bS, add_n, hu, ho, decide_eq_false q1, if_pos (by simp)]
    · rintro f s rfl
      refine ⟨_, ?_, rfl⟩
      show Kin_toldOtherwise_l1b (nI p) (nI q) μ (Kin_toldOtherwise_l1 (nI p) (nI q) μ f) (nI _) (nI (mT S p)) = _
      unfold Kin_toldOtherwise_l1b
      rw [rd_n (by omega) (by decide), cp.1, bS, if_neg (fun q => absurd ((lt_n (by omega) (by omega)).mp q) (by omega))]
  refine ⟨_, by unfold Kin_toldOtherwise; rw [e, bS, hr], fun t => ?_⟩
  rw [orF_iff]
  constructor
  · rintro ⟨k, k1, k2, rfl⟩; exact k2
  · intro h
    cases h1 : plS S p t with
    | none => unfold othB at h; rw [h1] at h; exact absurd h (by simp)
    | some k =>
      have h2 := List.find?_some h1
      have h3 := List.mem_range.mp (List.mem_of_find?_eq_some h1)
      simp at h2
      exact ⟨k, h3, by rw [h2]; exact h, h2⟩
theorem oth_M {S : St} {p q : Nat} {ν : Mem} (W : WF S) (R : MR S ν) (hp : p < nPg S) (hq : q < nPg S) : ∃ a, M_changed_l1 (nI p) (nI q) (nI (sN S 706 0 p)) (nI (sN S 706 0 q)) ν FU (nI 0) (nI 0) = some (nI a) ∧ ∀ t, a.testBit t = true ↔ othB S p q t = true := by
  have h16 := W.pg.1
  have h12 := W.th.1
  have wp := W.pg.2.1 p hp
  have wq := W.pg.2.1 q hq
  have hm8 := wp.1.2
  have hq8 := wq.1.2
  have cp := R.pg.2 p hp
  have cq := R.pg.2 q hq
  have hand : sN S 706 0 p &&& sN S 706 0 q < 4096 := and_lt wp.2.2.2.1.1
  obtain ⟨r, e, hr⟩ : ∃ r, M_changed_l1 (nI p) (nI q) (nI (sN S 706 0 p)) (nI (sN S 706 0 q)) ν FU (nI 0) (nI 0) = some r ∧ r = nI (orF (othB S p q) (fun t => t) (nTh S)) := by
    refine loopE (fun f v (s : Int32) => M_changed_l1 (nI p) (nI q) (nI (sN S 706 0 p)) (nI (sN S 706 0 q)) ν f s v) (nTh S) (fun c s => s = nI (orF (othB S p q) (fun t => t) c)) (fun r => r = nI (orF (othB S p q) (fun t => t) (nTh S))) ?_ ?_ (nTh S) 0 (nI 0) FU (by omega) (FU_lt (by omega)) rfl
    · rintro f t s ht rfl
      left
      refine ⟨nI (orF (othB S p q) (fun t => t) (t + 1)), ?_, rfl⟩
      show M_changed_l1b (nI p) (nI q) (nI (sN S 706 0 p)) (nI (sN S 706 0 q)) ν (M_changed_l1 (nI p) (nI q) (nI (sN S 706 0 p)) (nI (sN S 706 0 q)) ν f) (nI _) (nI t) = _
      unfold M_changed_l1b
      have hu : orF (othB S p q) (fun t => t) (t + 1) = if othB S p q t = true then orF (othB S p q) (fun t => t) t ||| 2 ^ t else orF (othB S p q) (fun t => t) t := rfl
      rw [R.th.1, if_pos ((lt_n (by omega) (by omega)).mpr ht), and_n, mhas (by omega) (by omega), bS, Nat.testBit_and]
      cases hb1 : (sN S 706 0 p).testBit t with
      | false =>
        have ho : othB S p q t = false := by
          unfold othB
          have : plS S p t = none := plS_none fun k hk z => by
            have := (plc_thing (t := t) W hp).mpr ⟨k, hk, plS_some W hp hk z, z⟩
            rw [hb1] at this; exact nomatch this
          rw [this]
        rw [Bool.false_and, if_pos (show nI false.toNat = 0 from rfl), bS, or_n, bS, bS, add_n, hu, ho, if_neg (by decide), Nat.or_zero]
      | true =>
        cases hb2 : (sN S 706 0 q).testBit t with
        | false =>
          have ho : othB S p q t = false := by
            unfold othB
            have : plS S q t = none := plS_none fun k hk z => by
              have := (plc_thing (t := t) W hq).mpr ⟨k, hk, plS_some W hq hk z, z⟩
              rw [hb2] at this; exact nomatch this
            rw [this]
            split <;> first | rfl | (rename_i h1 h2; exact nomatch h2)
          rw [Bool.true_and, if_pos (show nI false.toNat = 0 from rfl), bS, or_n, bS, bS, add_n, hu, ho, if_neg (by decide), Nat.or_zero]
        | true =>
          obtain ⟨k, k1, k2, k3⟩ := (plc_thing (t := t) W hp).mp hb1
          obtain ⟨j, j1, j2, j3⟩ := (plc_thing (t := t) W hq).mp hb2
          have ho : othB S p q t = !(decide (sN S 704 p k = sN S 704 q j) && decide (sN S 705 p k = sN S 705 q j)) := by unfold othB; rw [k2, j2]
          obtain ⟨-, u2, u3, -⟩ := wq.2.1 j j1
          obtain ⟨-, v2, v3, -⟩ := wp.2.1 k k1
          obtain ⟨o, o1, o2⟩ := place_M W R.pg hp (nI t)
          rw [plc_one W hp o2 (Or.inr ⟨k, k1, rfl, by rw [k3]⟩)] at o1
          obtain ⟨o', o3, o4⟩ := place_M W R.pg hq (nI t)
          rw [plc_one W hq o4 (Or.inr ⟨j, j1, rfl, by rw [j3]⟩)] at o3
          rw [Bool.true_and, if_neg (show ¬ nI true.toNat = 0 by decide)]
          unfold M_isOtherwise
          rw [o1, bS, mul_n, add_n, bS, o3, bS, mul_n, add_n, bS, rd_n (by omega) (by decide), (cp.2.1 k k1).2.1, bS, rd_n (by omega) (by decide), (cq.2.1 j j1).2.1, bS]
          by_cases q1 : sN S 704 p k = sN S 704 q j
          · rw [if_pos (by rw [q1]), rd_n (by omega) (by decide), (cp.2.1 k k1).2.2, bS, rd_n (by omega) (by decide), (cq.2.1 j j1).2.2, bS]
            by_cases q2 : sN S 705 p k = sN S 705 q j
            · rw [if_pos (by rw [q2]), rz_0, bS, if_pos z00, bS, or_n, bS, bS, add_n, hu, ho, decide_eq_true q1, decide_eq_true q2, if_neg (by decide), Nat.or_zero]
            · rw [if_neg (fun z => q2 ((eq_n (by omega) (by omega)).mp z)), rz_1, bS, if_neg n10, bit1 (by omega), bS, or_n, bS, bS, add_n, hu, ho, decide_eq_true q1, decide_eq_false q2, if_pos (by decide)]
          · rw [if_neg (fun z => q1 ((eq_n (by omega) (by omega)).mp z)), rz_1, bS, if_neg n10, bit1 (by omega), bS, or_n, bS, bS, add_n, hu, ho, decide_eq_false q1, if_pos (by simp)]
    · rintro f s rfl
      refine ⟨_, ?_, rfl⟩
      show M_changed_l1b (nI p) (nI q) (nI (sN S 706 0 p)) (nI (sN S 706 0 q)) ν (M_changed_l1 (nI p) (nI q) (nI (sN S 706 0 p)) (nI (sN S 706 0 q)) ν f) (nI _) (nI (nTh S)) = _
      unfold M_changed_l1b
      rw [R.th.1, if_neg (fun q => absurd ((lt_n (by omega) (by omega)).mp q) (by omega))]
  refine ⟨_, by rw [e, hr], fun t => ?_⟩
  rw [orF_iff]
  constructor
  · rintro ⟨k, k1, k2, rfl⟩; exact k2
  · intro h
    refine ⟨t, ?_, h, rfl⟩
    cases h1 : plS S p t with
    | none => unfold othB at h; rw [h1] at h; exact absurd h (by simp)
    | some k =>
      have h2 := List.find?_some h1
      have h3 := List.mem_range.mp (List.mem_of_find?_eq_some h1)
      simp at h2
      have := (wp.2.1 k h3).1
      omega
theorem q_changed (x y : Int32) : CmdM (B_changed x y) (M_changed x y) := by
  intro S μ ν W C R
  have h16 := W.pg.1
  unfold B_changed M_changed
  rw [within_in]
  rcases pg_arg W x with hx | ⟨p, hp, rfl⟩
  · unfold M_came
    rw [hasP0 C hx, isP0 W R hx, bS, bS, if_pos (by decide), if_pos (by decide), bS]
    simp only []
    rw [if_pos trivial]
    exact ⟨_, _, rfl, rfl, R⟩
  · obtain ⟨ν1, a1, a2⟩ := came_M W R hp
    rw [hasP1 W C hp, bS, if_neg n10, a1, bS]
    simp only []
    have c303 : mRd μ 303 0 16 (nI p) = some (camI S p) := by rw [rd_n (by omega) (by decide), C.kn.2.2 p hp]
    rcases cam_I (S := S) (p := p) with ⟨h1, h2⟩ | ⟨q, hq, hqI, -⟩
    · rw [h1, if_pos rfl]
      rcases in_nat y 0 3 (by decide) (by decide) with hy | ⟨w, w1, w2, rfl, hy⟩
      · rw [hy, bS, if_pos (by decide)]; exact ⟨_, _, rfl, rfl, a2⟩
      · rw [hy, bS, if_neg n10, c303, bS, h1, pgh_out C.pg.1 (Or.inl (by decide)), bS, if_pos (by decide)]; exact ⟨_, _, rfl, rfl, a2⟩
    · have hqn : q < nPg S := by omega
      have wp := W.pg.2.1 p hp
      have wq := W.pg.2.1 q hqn
      have cp := C.pg.2.1 p hp
      have cq := C.pg.2.1 q hqn
      rw [hqI] at c303 ⊢
      rw [if_neg (c := nI q = -1) (fun z => (m1_n (by omega)).mp z)]
      rcases in_nat y 0 3 (by decide) (by decide) with hy | ⟨w, w1, w2, rfl, hy⟩
      · rw [hy, bS, bS, if_pos (by decide), if_pos (by decide)]; exact ⟨_, _, rfl, rfl, a2⟩
      · rw [hy, bS, bS, if_neg n10, if_neg n10, c303, bS, hasP1 W C hqn, bS, if_neg n10, bS, things_M W a2.pg hp, bS, things_M W a2.pg hqn, bS]
        unfold Kin_change
        have dp : mRd μ 706 0 17 (nI p) = some (nI (sN S 706 0 p)) := by rw [rd_n (by omega) (by decide), cp.2.2.1]
        have dq : mRd μ 706 0 17 (nI q) = some (nI (sN S 706 0 q)) := by rw [rd_n (by omega) (by decide), cq.2.2.1]
        have hw : w = 0 ∨ w = 1 ∨ w = 2 ∨ w = 3 := by omega
        rcases hw with rfl | rfl | rfl | rfl
        · rw [if_pos rfl, dp, bS, dq, bS, bS, if_pos (by decide), if_pos z00]
          exact ⟨_, _, rfl, rfl, a2⟩
        · rw [if_neg (by decide), if_pos rfl, dq, bS, dp, bS, bS, if_pos (by decide), if_neg n10]
          exact ⟨_, _, rfl, rfl, a2⟩
        · obtain ⟨a, e1, e2⟩ := oth_C W C.pg hp hqn
          obtain ⟨b, e3, e4⟩ := oth_M W a2 hp hqn
          rw [if_neg (show ¬ nI 2 = nI 0 by decide), if_neg (show ¬ nI 2 = nI 1 by decide), if_pos rfl, e1, bS, bS, if_neg (show ¬ nI 2 < nI 2 by decide), if_neg (show ¬ nI 2 = nI 3 by decide), e3, bS, bits_eq fun t => (e4 t).trans (e2 t).symm]
          exact ⟨_, _, rfl, rfl, a2⟩
        · obtain ⟨ν2, f1, f2, -⟩ := far_M W a2 hp hqn
          rw [if_neg (show ¬ nI 3 = nI 0 by decide), if_neg (show ¬ nI 3 = nI 1 by decide), if_neg (show ¬ nI 3 = nI 2 by decide), ix_n (by omega) (by decide), bS, rd_n (by omega) (by decide), C.kn.2.1 p q hq hp, bS, bS, if_neg (show ¬ nI 3 < nI 2 by decide), if_pos rfl, f1, bS]
          simp only []
          rw [xor_n, bits_M, bS, sub_n (by unfold farP; omega), show farP S p q - pcN (sN S 706 0 p ^^^ sN S 706 0 q) = edP S p q by unfold farP; omega]
          exact ⟨_, _, rfl, rfl, f2⟩
