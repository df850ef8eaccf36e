/-! PURE: sizes, weights, for how many, how long -/
def itpN (b1 b2 y1 y2 y : Nat) : Nat := if b1 ≤ b2 then b1 + (b2 - b1) * (y - y1) / (y2 - y1) else b1 - (b1 - b2) * (y - y1) / (y2 - y1)
theorem mul_div_le {a g D : Nat} (h : g ≤ D) : a * g / D ≤ a := by
  cases Nat.eq_zero_or_pos D with
  | inl h0 => subst h0; rw [Nat.div_zero]; exact Nat.zero_le _
  | inr h0 => exact Nat.div_le_of_le_mul (by rw [Nat.mul_comm D a]; exact Nat.mul_le_mul_left a h)
theorem itp_first {b1 b2 y1 y2 : Nat} : itpN b1 b2 y1 y2 y1 = b1 := by
  unfold itpN
  rw [Nat.sub_self, Nat.mul_zero, Nat.zero_div, Nat.mul_zero, Nat.zero_div]
  split <;> omega
theorem itp_last {b1 b2 y1 y2 : Nat} (h : y1 < y2) : itpN b1 b2 y1 y2 y2 = b2 := by
  unfold itpN
  rw [Nat.mul_div_cancel _ (by omega), Nat.mul_div_cancel _ (by omega)]
  split <;> omega
theorem itp_bd {b1 b2 y1 y2 y : Nat} (h : y ≤ y2) (h1 : b1 ≤ 999) (h2 : b2 ≤ 999) : itpN b1 b2 y1 y2 y ≤ 999 := by
  unfold itpN
  have := mul_div_le (a := b2 - b1) (g := y - y1) (D := y2 - y1) (by omega)
  revert this
  generalize (b2 - b1) * (y - y1) / (y2 - y1) = q1
  generalize (b1 - b2) * (y - y1) / (y2 - y1) = q2
  intro this
  split <;> omega
theorem neg_div {a D : Nat} (ha : a < 1000000000) (h0 : 0 < D) (hD : D < 1000000000) : -(nI a) / nI D = -(nI (a / D)) := by
  apply Int32.toInt_inj.mp
  have h1 : (-(nI a)).toInt = -(a : Int) := by
    rw [Int32.toInt_neg, nI_toInt (by omega)]
    apply Int.bmod_eq_of_le <;> omega
  have hq : a / D ≤ a := Nat.div_le_self _ _
  have h3 : ((a : Int)).tdiv (D : Int) = ((a / D : Nat) : Int) := rfl
  rw [Int32.toInt_div, h1, nI_toInt (by omega : D < 2 ^ 31), Int.neg_tdiv, h3]
  clear h3
  revert hq
  generalize a / D = q
  intro hq
  have h2 : (-(nI q)).toInt = -(q : Int) := by
    rw [Int32.toInt_neg, nI_toInt (by omega)]
    apply Int.bmod_eq_of_le <;> omega
  rw [h2]
  apply Int.bmod_eq_of_le <;> omega
theorem itp_32 {b1 b2 y1 y2 y : Nat} (hb1 : b1 ≤ 999) (hb2 : b2 ≤ 999) (h1 : y1 ≤ y) (h2 : y ≤ y2) (h3 : y1 < y2) (h4 : y2 ≤ 1999) : mDv ((nI b2 - nI b1) * (nI y - nI y1)) (nI y2 - nI y1) = some (nI (itpN b1 b2 y1 y2 y) - nI b1) ∧ nI b1 + (nI (itpN b1 b2 y1 y2 y) - nI b1) = nI (itpN b1 b2 y1 y2 y) := by
  have hr : ∀ x z : Int32, z + (x - z) = x := fun x z => by rw [Int32.add_comm, Int32.sub_add_cancel]
  refine ⟨?_, hr _ _⟩
  have hg := mul_div_le (a := b2 - b1) (g := y - y1) (D := y2 - y1) (by omega)
  have hg' := mul_div_le (a := b1 - b2) (g := y - y1) (D := y2 - y1) (by omega)
  have m1 : (b2 - b1) * (y - y1) ≤ 999 * 1999 := Nat.mul_le_mul (by omega) (by omega)
  have m2 : (b1 - b2) * (y - y1) ≤ 999 * 1999 := Nat.mul_le_mul (by omega) (by omega)
  unfold mDv
  rw [sub_n h1, sub_n (by omega : y1 ≤ y2), if_neg (nI_ne0 (by omega) (by omega))]
  unfold itpN
  by_cases hb : b1 ≤ b2
  · rw [if_pos hb, sub_n hb, mul_n, pk_div (by omega) (by omega) (by omega), sub_n (Nat.le_add_right _ _), Nat.add_sub_cancel_left]
  · rw [if_neg hb]
    have e1 : nI b2 - nI b1 = -(nI (b1 - b2)) := by
      rw [← sub_n (by omega : b2 ≤ b1), Int32.neg_sub]
    rw [e1, Int32.neg_mul, mul_n, neg_div (by omega) (by omega) (by omega)]
    have e2 : nI (b1 - (b1 - b2) * (y - y1) / (y2 - y1)) = nI b1 - nI ((b1 - b2) * (y - y1) / (y2 - y1)) := (sub_n (Nat.le_trans hg' (Nat.sub_le _ _))).symm
    rw [e2]
    congr 1
    rw [Int32.sub_eq_add_neg (nI b1), Int32.add_comm (nI b1), Int32.sub_eq_add_neg, Int32.add_assoc, Int32.add_right_neg, Int32.add_zero]
def kyS (S : St) (t y : Nat) : Nat → Nat
  | 0 => 0
  | n + 1 => if sN S 805 t n ≤ y then n + 1 else kyS S t y n
theorem yr_mono {S : St} {t : Nat} (W : WF S) (ht : t < 12) : ∀ {j i : Nat}, i < j → j < sN S 804 0 t → sN S 805 t i < sN S 805 t j := by
  intro j
  induction j with
  | zero => intro i h; omega
  | succ j ih =>
    intro i h1 h2
    have := (W.th.2.2.2.1 t ht).2.2 j h2
    by_cases e : i = j
    · subst e; exact this
    · have := ih (i := i) (by omega) (by omega); omega
theorem kyS_p {S : St} {t y : Nat} (W : WF S) (ht : t < 12) : ∀ {n : Nat}, n ≤ sN S 804 0 t → kyS S t y n ≤ n ∧ (∀ i, i < kyS S t y n → sN S 805 t i ≤ y) ∧ ∀ i, kyS S t y n ≤ i → i < n → y < sN S 805 t i := by
  intro n
  induction n with
  | zero => intro _; exact ⟨Nat.le_refl _, fun i h => absurd h (Nat.not_lt_zero i), fun i _ h => absurd h (Nat.not_lt_zero i)⟩
  | succ n ih =>
    intro hn
    unfold kyS
    by_cases h : sN S 805 t n ≤ y
    · rw [if_pos h]
      refine ⟨Nat.le_refl _, fun i hi => ?_, fun i h1 h2 => by omega⟩
      by_cases e : i = n
      · subst e; exact h
      · have := yr_mono W ht (i := i) (j := n) (by omega) (by omega); omega
    · rw [if_neg h]
      obtain ⟨a, b, c⟩ := ih (by omega)
      refine ⟨by omega, b, fun i h1 h2 => ?_⟩
      by_cases e : i = n
      · subst e; omega
      · exact c i h1 (by omega)
theorem kyS_u {S : St} {t y j : Nat} (W : WF S) (ht : t < 12) (hj : j ≤ sN S 804 0 t) (h1 : ∀ i, i < j → sN S 805 t i ≤ y) (h2 : j < sN S 804 0 t → y < sN S 805 t j) : kyS S t y (sN S 804 0 t) = j := by
  obtain ⟨a, b, c⟩ := kyS_p (y := y) W ht (Nat.le_refl (sN S 804 0 t))
  rcases Nat.lt_trichotomy (kyS S t y (sN S 804 0 t)) j with h | h | h
  · have := c _ (Nat.le_refl _) (by omega)
    have := h1 _ h
    omega
  · exact h
  · have := b j h
    have := h2 (by omega)
    omega
def szV (S : St) (t y : Nat) : Nat :=
  if sN S 804 0 t = 0 then 10
  else if kyS S t y (sN S 804 0 t) = 0 then sN S 806 t 0
  else if kyS S t y (sN S 804 0 t) = sN S 804 0 t then sN S 806 t (sN S 804 0 t - 1)
  else itpN (sN S 806 t (kyS S t y (sN S 804 0 t) - 1)) (sN S 806 t (kyS S t y (sN S 804 0 t))) (sN S 805 t (kyS S t y (sN S 804 0 t) - 1)) (sN S 805 t (kyS S t y (sN S 804 0 t))) y
theorem szV_bd {S : St} {t y : Nat} (W : WF S) (ht : t < 12) : szV S t y ≤ 999 := by
  obtain ⟨a, b, c⟩ := kyS_p (y := y) W ht (Nat.le_refl (sN S 804 0 t))
  have hs := (W.th.2.2.2.1 t ht).2.1
  unfold szV
  split
  · omega
  · split
    · exact (hs 0 (by omega)).2.2.2
    · split
      · exact (hs _ (by omega)).2.2.2
      · have := c _ (Nat.le_refl _) (by omega)
        exact itp_bd (by omega) (hs _ (by omega)).2.2.2 (hs _ (by omega)).2.2.2
theorem sizeIn_M {S : St} {t y : Nat} {ν : Mem} (W : WF S) (R : M_th S ν) (ht : t < 12) (hy : y ≤ 1999) : M_sizeIn (nI t) (nI y) ν = some (nI (szV S t y)) := by
  have h6 := (W.th.2.2.2.1 t ht).1
  have hs := (W.th.2.2.2.1 t ht).2.1
  obtain ⟨r1, r2⟩ := R.2.2 t ht
  have e1311 : mRd ν 1311 0 12 (nI t) = some (nI (sN S 804 0 t)) := by rw [rd_n (by omega) (by decide), r1]
  have e1312 : ∀ k, k < sN S 804 0 t → mRd ν 1312 0 72 (nI (6 * t + k)) = some (nI (sN S 805 t k)) := fun k hk => by rw [rd_n (by omega) (by decide), (r2 k hk).1]
  have e1313 : ∀ k, k < sN S 804 0 t → mRd ν 1313 0 72 (nI (6 * t + k)) = some (nI (sN S 806 t k)) := fun k hk => by rw [rd_n (by omega) (by decide), (r2 k hk).2]
  unfold M_sizeIn szV
  rw [e1311, bS]
  by_cases h0 : sN S 804 0 t = 0
  · rw [if_pos ((eq0_n (by omega)).mpr h0), if_pos h0]
  · rw [if_neg (fun q => h0 ((eq0_n (by omega)).mp q)), if_neg h0]
    obtain ⟨r, e, hr⟩ : ∃ r, M_sizeIn_l1 (nI t) (nI y) ν FU (nI 0) = some r ∧ r = nI (kyS S t y (sN S 804 0 t)) := by
      refine loopE (fun f v (_ : Unit) => M_sizeIn_l1 (nI t) (nI y) ν f v) (sN S 804 0 t) (fun c _ => ∀ i, i < c → sN S 805 t i ≤ y) (fun r => r = nI (kyS S t y (sN S 804 0 t))) ?_ ?_ (sN S 804 0 t) 0 () FU (by omega) (FU_lt (by omega)) (fun i h => absurd h (by omega))
      · rintro f k - hk hI
        show (∃ s', M_sizeIn_l1b (nI t) (nI y) ν (M_sizeIn_l1 (nI t) (nI y) ν f) (nI k) = _ ∧ _) ∨ (∃ r, M_sizeIn_l1b (nI t) (nI y) ν (M_sizeIn_l1 (nI t) (nI y) ν f) (nI k) = _ ∧ _)
        have hyk := (hs k hk).2.1
        unfold M_sizeIn_l1b
        rw [e1311, bS, if_pos ((lt_n (by omega) (by omega)).mpr hk), mul_n, add_n, e1312 k hk, bS]
        by_cases e : y < sN S 805 t k
        · right
          rw [if_pos ((lt_n (by omega) (by omega)).mpr e)]
          exact ⟨_, rfl, by rw [kyS_u W ht (by omega) hI (fun _ => e)]⟩
        · left
          rw [if_neg (fun q => e ((lt_n (by omega) (by omega)).mp q)), bS, add_n]
          refine ⟨(), rfl, fun i hi => ?_⟩
          by_cases e' : i = k
          · subst e'; omega
          · exact hI i (by omega)
      · rintro f - hI
        refine ⟨_, ?_, rfl⟩
        show M_sizeIn_l1b (nI t) (nI y) ν (M_sizeIn_l1 (nI t) (nI y) ν f) (nI (sN S 804 0 t)) = _
        unfold M_sizeIn_l1b
        rw [e1311, bS, if_neg (fun q => absurd ((lt_n (by omega) (by omega)).mp q) (by omega)), kyS_u W ht (Nat.le_refl _) hI (fun q => by omega)]
    subst hr
    obtain ⟨a, b, c⟩ := kyS_p (y := y) W ht (Nat.le_refl (sN S 804 0 t))
    rw [e, bS]
    unfold kj
    simp only []
    by_cases k0 : kyS S t y (sN S 804 0 t) = 0
    · rw [k0, if_pos (show nI 0 = 0 from rfl), if_pos rfl, show jMax (nI 0) (nI 0 - nI 1) = nI 0 by decide, mul_n, add_n, e1313 0 (by omega), bS]
    · rw [if_neg (fun q => k0 ((eq0_n (by omega)).mp q)), if_neg k0, bS]
      by_cases kn : kyS S t y (sN S 804 0 t) = sN S 804 0 t
      · rw [if_pos ((eq_n (by omega) (by omega)).mpr kn), if_pos kn, sub_n (by omega), jMax_n (by decide) (by omega), mul_n, add_n, show max 0 (kyS S t y (sN S 804 0 t) - 1) = sN S 804 0 t - 1 by omega, e1313 _ (by omega), bS]
      · rw [if_neg (fun q => kn ((eq_n (by omega) (by omega)).mp q)), if_neg kn, mul_n, add_n, sub_n (by omega), bS, add_n, show 6 * t + kyS S t y (sN S 804 0 t) - 1 = 6 * t + (kyS S t y (sN S 804 0 t) - 1) by omega, show 6 * t + (kyS S t y (sN S 804 0 t) - 1) + 1 = 6 * t + kyS S t y (sN S 804 0 t) by omega, e1313 _ (by omega), e1313 _ (by omega), e1312 _ (by omega), e1312 _ (by omega)]
        simp only [bS]
        have q1 := b (kyS S t y (sN S 804 0 t) - 1) (by omega)
        have q2 := c _ (Nat.le_refl _) (by omega)
        obtain ⟨i1, i2⟩ := itp_32 (hs (kyS S t y (sN S 804 0 t) - 1) (by omega)).2.2.2 (hs (kyS S t y (sN S 804 0 t)) (by omega)).2.2.2 q1 (Nat.le_of_lt q2) (by omega) (hs (kyS S t y (sN S 804 0 t)) (by omega)).2.1
        rw [i1, bS, i2]
theorem bigIn_C {S : St} {t y : Nat} {μ : Mem} (W : WF S) (C : C_th S μ) (ht : t < 12) (hy : y ≤ 1999) : Pantry_bigIn (nI t) (nI y) μ = some (nI (szV S t y)) := by
  have h6 := (W.th.2.2.2.1 t ht).1
  have hs := (W.th.2.2.2.1 t ht).2.1
  obtain ⟨r1, r2⟩ := C.2.2.2 t ht
  have e805 : ∀ k, k < sN S 804 0 t → mRd μ 805 t 6 (nI k) = some (nI (sN S 805 t k)) := fun k hk => by rw [rd_n (by omega) (by decide), (r2 k hk).1]
  have e806 : ∀ k, k < sN S 804 0 t → mRd μ 806 t 6 (nI k) = some (nI (sN S 806 t k)) := fun k hk => by rw [rd_n (by omega) (by decide), (r2 k hk).2]
  have hit : ∀ j, j < sN S 804 0 t → y = sN S 805 t j → szV S t y = sN S 806 t j := by
    intro j hj hyj
    have hk : kyS S t y (sN S 804 0 t) = j + 1 := kyS_u W ht (by omega) (fun i hi => by
      by_cases e : i = j
      · subst e; omega
      · have := yr_mono W ht (i := i) (j := j) (by omega) hj; omega) (fun q => by rw [hyj]; exact yr_mono W ht (by omega) q)
    unfold szV
    rw [hk, if_neg (by omega), if_neg (by omega), Nat.add_sub_cancel]
    by_cases e : j + 1 = sN S 804 0 t
    · rw [if_pos e, ← e, Nat.add_sub_cancel]
    · rw [if_neg e, hyj, itp_first]
  unfold Pantry_bigIn
  rw [rd_n (by omega) (by decide), r1, bS]
  by_cases h0 : sN S 804 0 t = 0
  · rw [if_pos ((eq0_n (by omega)).mpr h0), show szV S t y = 10 from if_pos h0]
  · have hy0 := (hs 0 (by omega)).2.1
    rw [if_neg (fun q => h0 ((eq0_n (by omega)).mp q)), ix_n (by omega) (by decide), bS, e805 0 (by omega), bS]
    by_cases c0 : sN S 805 t 0 < y
    · rw [if_pos ((lt_n (by omega) (by omega)).mpr c0)]
      obtain ⟨r, e, hr⟩ : ∃ r, Pantry_bigIn_l1 (nI t) (nI y) (nI (sN S 804 0 t)) μ FU (nI 1) = some r ∧ r = nI (szV S t y) := by
        refine loopE (fun f v (_ : Unit) => Pantry_bigIn_l1 (nI t) (nI y) (nI (sN S 804 0 t)) μ f v) (sN S 804 0 t) (fun c _ => 0 < c ∧ ∀ i, i < c → sN S 805 t i < y) (fun r => r = nI (szV S t y)) ?_ ?_ (sN S 804 0 t - 1) 1 () FU (by omega) (FU_lt (by omega)) ⟨by decide, fun i h => by rw [show i = 0 by omega]; exact c0⟩
        · rintro f k - hk ⟨hk0, hI⟩
          show (∃ s', Pantry_bigIn_l1b (nI t) (nI y) (nI (sN S 804 0 t)) μ (Pantry_bigIn_l1 (nI t) (nI y) (nI (sN S 804 0 t)) μ f) (nI k) = _ ∧ _) ∨ (∃ r, Pantry_bigIn_l1b (nI t) (nI y) (nI (sN S 804 0 t)) μ (Pantry_bigIn_l1 (nI t) (nI y) (nI (sN S 804 0 t)) μ f) (nI k) = _ ∧ _)
          have hyk := (hs k hk).2.1
          unfold Pantry_bigIn_l1b
          rw [if_pos ((lt_n (by omega) (by omega)).mpr hk), ix_n (by omega) (by decide), bS, e805 k hk, bS]
          by_cases e : sN S 805 t k < y
          · left
            rw [if_pos ((lt_n (by omega) (by omega)).mpr e), bS, add_n]
            refine ⟨(), rfl, by omega, fun i hi => ?_⟩
            by_cases e' : i = k
            · subst e'; exact e
            · exact hI i (by omega)
          · right
            rw [if_neg (fun q => e ((lt_n (by omega) (by omega)).mp q))]
            have y1 := hI (k - 1) (by omega)
            have q3 := yr_mono W ht (i := k - 1) (j := k) (by omega) hk
            obtain ⟨i1, i2⟩ := itp_32 (hs (k - 1) (by omega)).2.2.2 (hs k hk).2.2.2 (Nat.le_of_lt y1) (Nat.le_of_not_lt e) q3 hyk
            have hv : itpN (sN S 806 t (k - 1)) (sN S 806 t k) (sN S 805 t (k - 1)) (sN S 805 t k) y = szV S t y := by
              by_cases ey : y = sN S 805 t k
              · rw [hit k hk ey, ey, itp_last q3]
              · have hky : kyS S t y (sN S 804 0 t) = k := kyS_u W ht (by omega) (fun i hi => Nat.le_of_lt (hI i hi)) (fun _ => by omega)
                unfold szV
                rw [hky, if_neg h0, if_neg (by omega), if_neg (by omega)]
            refine ⟨_, ?_, rfl⟩
            unfold Pantry_bigBetween
            rw [ix_n (by omega) (by decide), sub_n (by omega)]
            simp only [bS, e806 (k - 1) (by omega), e805 (k - 1) (by omega), e805 k hk, e806 k hk]
            rw [if_pos (by rw [sub_n (by omega)]; exact (gt0_n (by omega)).mpr (by omega)), i1, bS, bS, i2, hv]
        · rintro f - ⟨hk0, hI⟩
          refine ⟨_, ?_, rfl⟩
          show Pantry_bigIn_l1b (nI t) (nI y) (nI (sN S 804 0 t)) μ (Pantry_bigIn_l1 (nI t) (nI y) (nI (sN S 804 0 t)) μ f) (nI (sN S 804 0 t)) = _
          have hky : kyS S t y (sN S 804 0 t) = sN S 804 0 t := kyS_u W ht (Nat.le_refl _) (fun i hi => Nat.le_of_lt (hI i hi)) (fun q => by omega)
          unfold Pantry_bigIn_l1b
          rw [if_neg (fun q => absurd ((lt_n (by omega) (by omega)).mp q) (by omega)), ix_n (by omega) (by decide), bS, sub_n (by omega), e806 _ (by omega), bS]
          unfold szV
          rw [hky, if_neg h0, if_neg h0, if_pos rfl]
      rw [e, hr]
    · rw [if_neg (fun q => c0 ((lt_n (by omega) (by omega)).mp q)), bS, e806 0 (by omega), bS]
      by_cases ey : y = sN S 805 t 0
      · rw [hit 0 (by omega) ey]
      · have hky : kyS S t y (sN S 804 0 t) = 0 := kyS_u W ht (by omega) (fun i hi => absurd hi (by omega)) (fun _ => by omega)
        unfold szV
        rw [hky, if_neg h0, if_pos rfl]
theorem year_arg (x : Int32) : (B_isYear x = some (nI 0) ∧ M_isYear x = some (nI 0)) ∨ ∃ y, 1200 ≤ y ∧ y ≤ 1999 ∧ x = nI y ∧ B_isYear x = some (nI 1) ∧ M_isYear x = some (nI 1) := by
  unfold B_isYear M_isYear
  rw [within_in]
  rcases in_nat x 1200 1999 (by decide) (by decide) with h | ⟨y, h1, h2, h3, h4⟩
  · left; rw [h, bS]; exact ⟨rfl, rfl⟩
  · right; refine ⟨y, h1, h2, h3, ?_⟩; rw [h4, bS]; exact ⟨rfl, rfl⟩
theorem q_size (x y : Int32) : CmdP (B_size x y) (M_size x y) := by
  intro S μ ν W C R
  unfold B_size M_size
  rcases th_arg W x with hx | ⟨t, ht, rfl⟩
  · rw [hasT0 C hx, isT0 W R hx, bS, bS, if_pos (by decide), if_pos (by decide)]; exact ⟨_, rfl, rfl⟩
  · have h12 := W.th.1
    rw [hasT1 W C ht, isT1 W R ht, bS, bS, if_neg (by decide), if_neg (by decide)]
    rcases year_arg y with ⟨h1, h2⟩ | ⟨y, y1, y2, rfl, h1, h2⟩
    · rw [h1, h2, bS, bS, if_pos (by decide), if_pos (by decide)]; exact ⟨_, rfl, rfl⟩
    · rw [h1, h2, bS, bS, if_neg (by decide), if_neg (by decide), bigIn_C W C.th (by omega) y2, sizeIn_M W R.th (by omega) y2]
      exact ⟨_, rfl, rfl⟩
/-- weight -/
def hftP (S : St) (p d y : Nat) : Nat := sumK (fun k => prtP S p d k * szV S (sN S 703 p k) y) (mT S p)
theorem hft_bd {S : St} {p d y : Nat} (W : WF S) (hp : p < nPg S) : hftP S p d y ≤ 800000 := by
  have wp := W.pg.2.1 p hp
  have h12 := W.th.1
  refine Nat.le_trans (sum8 (B := 99 * 999) (fun k hk => Nat.mul_le_mul (prt_bd W d hp hk).2 (szV_bd W ?_)) wp.1.2) (by decide)
  have := (wp.2.1 k hk).1
  omega
theorem heft_C {S : St} {p d y : Nat} {μ : Mem} (W : WF S) (hO : On S p μ) (hS : Shw S p d μ) (hy : y ≤ 1999) : Taster_heft (nI y) μ = some (nI (hftP S p d y)) := by
  have h16 := W.pg.1
  have h12 := W.th.1
  have hp := hO.2.1
  have wp := W.pg.2.1 p hp
  have hm8 := wp.1.2
  have cp := hO.1.pg.2.1 p hp
  obtain ⟨r, e, hr⟩ : ∃ r, Taster_heft_l1 (nI y) μ FU (nI 0) (nI 0) = some r ∧ r = nI (hftP S p d y) := by
    refine loopE (fun f v (s : Int32) => Taster_heft_l1 (nI y) μ f s v) (mT S p) (fun c s => s = nI (sumK (fun k => prtP S p d k * szV S (sN S 703 p k) y) c)) (fun r => r = nI (hftP S p d y)) ?_ ?_ (mT S p) 0 (nI 0) FU (by omega) (FU_lt (by omega)) rfl
    · rintro f k s hk rfl
      left
      have t1 := (wp.2.1 k hk).1
      refine ⟨nI (sumK (fun k => prtP S p d k * szV S (sN S 703 p k) y) (k + 1)), ?_, rfl⟩
      show Taster_heft_l1b (nI y) μ (Taster_heft_l1 (nI y) μ f) (nI _) (nI k) = _
      unfold Taster_heft_l1b
      rw [hO.2.2.1, rd_n (by omega) (by decide), cp.1, bS, if_pos ((lt_n (by omega) (by omega)).mpr hk), rd_n (by omega) (by decide), hS.1 k hk, bS, ix_n (by omega) (by decide), bS, rd_n (by omega) (by decide), (cp.2.1 k hk).1, bS, bigIn_C W hO.1.th (by omega) hy, bS, mul_n, add_n, bS, bS, add_n]
      rfl
    · rintro f s rfl
      refine ⟨_, ?_, rfl⟩
      show Taster_heft_l1b (nI y) μ (Taster_heft_l1 (nI y) μ f) (nI _) (nI (mT S p)) = _
      unfold Taster_heft_l1b
      rw [hO.2.2.1, rd_n (by omega) (by decide), cp.1, bS, if_neg (fun q => absurd ((lt_n (by omega) (by omega)).mp q) (by omega))]
      rfl
  unfold Taster_heft
  rw [e, bS, hr]
theorem weightOf_M {S : St} {p d y : Nat} {ν : Mem} (W : WF S) (hR : MR S ν) (hp : p < nPg S) (hW : ∀ k, k < mT S p → mI ν 1340 0 k = nI (prtP S p d k)) (hy : y ≤ 1999) : M_weightOf (nI p) (nI y) ν = some (nI (hftP S p d y)) := by
  have h16 := W.pg.1
  have h12 := W.th.1
  have wp := W.pg.2.1 p hp
  have hm8 := wp.1.2
  have cp := hR.pg.2 p hp
  obtain ⟨r, e, hr⟩ : ∃ r, M_weightOf_l1 (nI p) (nI y) ν FU (nI 0) (nI 0) = some r ∧ r = nI (hftP S p d y) := by
    refine loopE (fun f v (s : Int32) => M_weightOf_l1 (nI p) (nI y) ν f s v) (mT S p) (fun c s => s = nI (sumK (fun k => prtP S p d k * szV S (sN S 703 p k) y) c)) (fun r => r = nI (hftP S p d y)) ?_ ?_ (mT S p) 0 (nI 0) FU (by omega) (FU_lt (by omega)) rfl
    · rintro f k s hk rfl
      left
      have t1 := (wp.2.1 k hk).1
      refine ⟨nI (sumK (fun k => prtP S p d k * szV S (sN S 703 p k) y) (k + 1)), ?_, rfl⟩
      show M_weightOf_l1b (nI p) (nI y) ν (M_weightOf_l1 (nI p) (nI y) ν f) (nI _) (nI k) = _
      unfold M_weightOf_l1b
      rw [rd_n (by omega) (by decide), cp.1, bS, if_pos ((lt_n (by omega) (by omega)).mpr hk), rd_n (by omega) (by decide), hW k hk, bS, mul_n, add_n, rd_n (by omega) (by decide), (cp.2.1 k hk).1, bS, sizeIn_M W hR.th (by omega) hy, bS, mul_n, add_n, bS, bS, add_n]
      rfl
    · rintro f s rfl
      refine ⟨_, ?_, rfl⟩
      show M_weightOf_l1b (nI p) (nI y) ν (M_weightOf_l1 (nI p) (nI y) ν f) (nI _) (nI (mT S p)) = _
      unfold M_weightOf_l1b
      rw [rd_n (by omega) (by decide), cp.1, bS, if_neg (fun q => absurd ((lt_n (by omega) (by omega)).mp q) (by omega))]
      rfl
  unfold M_weightOf
  rw [e, bS, hr]
theorem q_weight (x i z : Int32) : Cmd (B_weight x i z) (M_weight x i z) := by
  intro S μ ν W C R
  unfold B_weight M_weight
  rcases year_arg z with ⟨h1, h2⟩ | ⟨y, y1, y2, rfl, h1, h2⟩
  · rw [h1, h2, bS, bS, if_pos (by decide), if_pos (by decide)]; exact ⟨_, _, _, rfl, rfl, C, R⟩
  · rw [h1, h2, bS, bS, if_neg (by decide), if_neg (by decide)]
    refine q_dish (fC := fun μ3 => (Taster_heft (nI y) μ3).bind fun x4 => some (x4, μ3)) (fM := fun μ5 => (M_weightOf x (nI y) μ5).bind fun x6 => some (x6, μ5)) W C R ?_
    rintro p i d μ ν hd hO hS hR hW
    obtain ⟨hp, rfl, -, -, -⟩ := hd
    simp only [heft_C W hO hS y2, weightOf_M W hR hp hW.1 y2, bS]
    exact ⟨_, _, _, rfl, rfl, hO.1, hR⟩
theorem edge_div {w e : Nat} {v : Nat → Nat} (hv : ∀ i, v i < 1000000) : ∀ (m k b : Nat), b < 1000000 → ∃ b', b' < 1000000 ∧ fo (fun i a => exI w a (nI (v i))) k m (nI b) = nI b' ∧ fo (fun i a => exI w a (nI (v i / e))) k m (nI (b / e)) = nI (b' / e) := by
  intro m
  induction m with
  | zero => intro k b hb; exact ⟨b, hb, rfl, rfl⟩
  | succ m ih =>
    intro k b hb
    have h1 := hv k
    have h2 : b / e ≤ b := Nat.div_le_self _ _
    have h3 : v k / e ≤ v k := Nat.div_le_self _ _
    show ∃ b', b' < 1000000 ∧ fo _ (k + 1) m (exI w (nI b) (nI (v k))) = nI b' ∧ fo _ (k + 1) m (exI w (nI (b / e)) (nI (v k / e))) = nI (b' / e)
    rw [exI_n (by omega) (by omega), exI_n (by omega) (by omega)]
    have h4 : (if w = 0 then min (b / e) (v k / e) else max (b / e) (v k / e)) = (if w = 0 then min b (v k) else max b (v k)) / e := by
      rcases Nat.le_total b (v k) with q | q
      · have := Nat.div_le_div_right (c := e) q
        rw [Nat.min_eq_left q, Nat.max_eq_right q, Nat.min_eq_left this, Nat.max_eq_right this]
        split <;> rfl
      · have := Nat.div_le_div_right (c := e) q
        rw [Nat.min_eq_right q, Nat.max_eq_left q, Nat.min_eq_right this, Nat.max_eq_left this]
        split <;> rfl
    rw [h4]
    exact ih (k + 1) _ (by split <;> omega)
theorem heftEdge_C {S : St} {p y w : Nat} {μ : Mem} (W : WF S) (hO : On S p μ) (ht : told S p) (h0 : 0 < (dl S p).length) (hy : y ≤ 1999) (hw : w ≤ 1) :
    ∃ μ', Taster_heftEdge (nI y) (nI w) μ = some (fo (fun i a => exI w a (nI (hftP S p (dx S p i) y))) 1 ((dl S p).length - 1) (nI (hftP S p (dx S p 0) y)), μ') ∧ On S p μ' := by
  have h5 := dl_le ht
  obtain ⟨μ1, c1, c2, c3, -⟩ := show_eq W hO ht (dx_at h0)
  obtain ⟨μ3, a1, a2, -⟩ := C_over (S := S) (p := p) (fun f i (s : Int32 × Mem) => Taster_heftEdge_l1 (nI y) (nI w) f s.1 i s.2) (fun i a => exI w a (nI (hftP S p (dx S p i) y))) (fun a μ => (a, μ)) (fun _ _ _ => True) ht (by
    intro f i acc μ hi hd hO _
    obtain ⟨μ1, c1, c2, c3, -⟩ := show_eq W hO ht hd
    refine ⟨μ1, ?_, c2, trivial⟩
    show Taster_heftEdge_l1b (nI y) (nI w) (Taster_heftEdge_l1 (nI y) (nI w) f) acc (nI i) μ = _
    unfold Taster_heftEdge_l1b
    rw [shown_n W hO ht, bS, if_pos ((lt_n (by omega) (by omega)).mpr hi), c1, bS, heft_C W c2 c3 hy, bS, further_eq hw, bS, bS, add_n]) (by
    intro f acc μ hO
    show Taster_heftEdge_l1b (nI y) (nI w) (Taster_heftEdge_l1 (nI y) (nI w) f) acc (nI _) μ = _
    unfold Taster_heftEdge_l1b
    rw [shown_n W hO ht, bS, if_neg (fun q => absurd ((lt_n (by omega) (by omega)).mp q) (by omega))]) (k := 1) (acc := nI (hftP S p (dx S p 0) y)) (μ := μ1) (by omega) c2 trivial
  refine ⟨μ3, ?_, a2⟩
  unfold Taster_heftEdge
  rw [c1, bS, heft_C W c2 c3 hy, bS, show Taster_heftEdge_l1 (nI y) (nI w) FU (nI (hftP S p (dx S p 0) y)) (nI 1) μ1 = _ from a1, bS]
theorem q_serves (x z u v : Int32) : Cmd (B_serves x z u v) (M_serves x z u v) := by
  intro S μ ν W C R
  unfold B_serves M_serves
  rcases year_arg z with ⟨h1, h2⟩ | ⟨y, y1, y2, rfl, h1, h2⟩
  · rw [h1, h2, bS, bS, if_pos (by decide), if_pos (by decide)]; exact ⟨_, _, _, rfl, rfl, C, R⟩
  · rw [h1, h2, bS, bS, if_neg (by decide), if_neg (by decide), within_in]
    rcases in_nat u 1 9999 (by decide) (by decide) with he | ⟨e, e1, e2, rfl, he⟩
    · rw [he, bS, bS, if_pos (by decide), if_pos (by decide)]; exact ⟨_, _, _, rfl, rfl, C, R⟩
    · rw [he, bS, bS, if_neg (by decide), if_neg (by decide)]
      rcases inT v with hw | ⟨w, hw1, rfl, hw⟩
      · rw [hw, bS, bS, if_pos (by decide), if_pos (by decide)]; exact ⟨_, _, _, rfl, rfl, C, R⟩
      · rw [hw, bS, bS, if_neg (by decide), if_neg (by decide)]
        refine q_some (fC := fun μ5 => (Taster_heftEdge (nI y) (nI w) μ5).bind fun (x6, μ7) => (mDv x6 (nI e)).bind fun x8 => some (x8, μ7)) (fM := fun μ5 => (M_serves_l1 x (nI y) (nI e) (nI w) FU (-1) (nI 0) μ5).bind fun (x6, μ7) => some (x6, μ7)) W C R ?_
        rintro p μ ν hp rfl ht h0 hO hR hF
        have h5 := dl_le ht
        have hb : ∀ i, hftP S p (dx S p i) y < 1000000 := fun i => Nat.lt_of_le_of_lt (hft_bd W hp) (by decide)
        obtain ⟨μ1, a1, a2⟩ := heftEdge_C W hO ht h0 y2 hw1
        let g : Nat → Int32 → Int32 := fun i a => if a = -1 then nI (hftP S p (dx S p i) y / e) else exI w a (nI (hftP S p (dx S p i) y / e))
        obtain ⟨ν1, b1, b2, -, -⟩ := M_over (S := S) (p := p) (fun f i (s : Int32 × Mem) => M_serves_l1 (nI p) (nI y) (nI e) (nI w) f s.1 i s.2) g (fun a μ => (a, μ)) (fun _ _ _ => True) ht (by
          intro f i acc ν hi hd hR hF _
          obtain ⟨ν1, c1, c2, c3, c4, -⟩ := go_M W hR hp ht hF hd
          have hbi := hb i
          refine ⟨ν1, ?_, c2, c3, trivial⟩
          show M_serves_l1b (nI p) (nI y) (nI e) (nI w) (M_serves_l1 (nI p) (nI y) (nI e) (nI w) f) acc (nI i) ν = _
          unfold M_serves_l1b
          rw [hF.1, if_pos ((lt_n (by omega) (by omega)).mpr hi), c1, bS, weightOf_M W c2 hp c4.1 y2, bS, dv_n (by omega) (by omega) (by omega), bS]
          by_cases q : acc = -1
          · rw [if_pos q, bS, bS, add_n]; simp only [g, if_pos q]
          · rw [if_neg q]
            by_cases q2 : w = 0
            · rw [if_pos ((eq0_n (by omega)).mpr q2), bS, bS, add_n]; simp only [g, if_neg q, exI, if_pos q2]
            · rw [if_neg (fun z => q2 ((eq0_n (by omega)).mp z)), bS, bS, add_n]; simp only [g, if_neg q, exI, if_neg q2]) (by
          intro f acc ν hR hF
          show M_serves_l1b (nI p) (nI y) (nI e) (nI w) (M_serves_l1 (nI p) (nI y) (nI e) (nI w) f) acc (nI _) ν = _
          unfold M_serves_l1b
          rw [hF.1, if_neg (fun q => absurd ((lt_n (by omega) (by omega)).mp q) (by omega))]) (k := 0) (acc := -1) (Nat.zero_le _) hR hF trivial
        have hg := none_first (w := w) (v := fun i => hftP S p (dx S p i) y / e) (fun i => Nat.lt_of_le_of_lt (Nat.div_le_self _ _) (by have := hb i; omega)) h0
        rw [Nat.sub_zero, show fo g 0 (dl S p).length (-1) = _ from hg] at b1
        obtain ⟨b', k1, k2, k3⟩ := edge_div (w := w) (e := e) hb ((dl S p).length - 1) 1 (hftP S p (dx S p 0) y) (hb 0)
        rw [k3] at b1
        rw [k2] at a1
        simp only [a1, show M_serves_l1 (nI p) (nI y) (nI e) (nI w) FU (-1) (nI 0) ν = _ from b1, bS]
        rw [dv_n (by omega) (by omega) (by omega), bS]
        exact ⟨_, _, _, rfl, rfl, a2.1, b2⟩
theorem boil_same {pot fire gain : Int32} {ν : Mem} {w : Int32} (hw : mRd ν 1332 0 9 (nI 0) = some w) (hd : mDv (nI 100 * fire) (nI 10 * pot + w) = some gain) : ∀ (f : Nat) (h m : Int32), M_boil_l1 pot fire ν f h m = (Taster_minutes_l1 gain f h m).bind fun r => some (r, ν) := by
  intro f
  induction f with
  | zero => intro h m; rfl
  | succ f ih =>
    intro h m
    show M_boil_l1b pot fire ν (M_boil_l1 pot fire ν f) h m = (Taster_minutes_l1b gain (Taster_minutes_l1 gain f) h m).bind _
    unfold M_boil_l1b Taster_minutes_l1b
    by_cases c : nI 200 < m
    · rw [if_pos c, if_pos c, bS]
    · rw [if_neg c, if_neg c, hw, bS, hd, bS]
      have : mDv h (nI 25) = some (h / nI 25) := by unfold mDv; rw [if_neg (by decide)]
      rw [this, bS, bS, bS, bS]
      have e : h + gain - h / nI 25 = h + (gain - h / nI 25) := by rw [Int32.sub_eq_add_neg, Int32.sub_eq_add_neg, Int32.add_assoc]
      rw [e]
      by_cases c2 : h + (gain - h / nI 25) < nI 100
      · simp only [if_pos c2, bS]; exact ih _ _
      · simp only [if_neg c2, bS]
theorem boil_ends (gain : Int32) : ∃ r, Taster_minutes_l1 gain FU (nI 10) (nI 1) = some r ∧ True := by
  refine loopE (fun f v (s : Int32) => Taster_minutes_l1 gain f s v) 201 (fun _ _ => True) (fun _ => True) ?_ ?_ 200 1 (nI 10) FU rfl (FU_lt (by decide)) trivial
  · rintro f k s hk -
    show (∃ s', Taster_minutes_l1b gain (Taster_minutes_l1 gain f) s (nI k) = _ ∧ _) ∨ (∃ r, Taster_minutes_l1b gain (Taster_minutes_l1 gain f) s (nI k) = _ ∧ _)
    unfold Taster_minutes_l1b
    have : mDv s (nI 25) = some (s / nI 25) := by unfold mDv; rw [if_neg (by decide)]
    rw [if_neg (fun q => absurd ((lt_n (by decide) (by omega)).mp q) (by omega)), this, bS, bS]
    by_cases c2 : s + (gain - s / nI 25) < nI 100
    · left; rw [if_pos c2, bS, add_n]; exact ⟨_, rfl, trivial⟩
    · right; rw [if_neg c2]; exact ⟨_, rfl, trivial⟩
  · rintro f s -
    show ∃ r, Taster_minutes_l1b gain (Taster_minutes_l1 gain f) s (nI 201) = _ ∧ _
    unfold Taster_minutes_l1b
    rw [if_pos (by decide)]
    exact ⟨_, rfl, trivial⟩
theorem wet_bd {S : St} {p d : Nat} (W : WF S) (hp : p < nPg S) : ∃ w, w ≤ 100000 ∧ ltP S p d 0 = nI w := by
  have wp := W.pg.2.1 p hp
  refine ⟨_, Nat.le_trans (sum8 (B := 99 * 99) (fun k hk => Nat.mul_le_mul (prt_bd W d hp hk).2 (W.th.2.2.1 _ (wp.2.1 k hk).1).1) wp.1.2) (by decide), rfl⟩
theorem q_boil (x i u v : Int32) : Cmd (B_boil x i u v) (M_boil x i u v) := by
  intro S μ ν W C R
  unfold B_boil M_boil
  rw [within_in]
  rcases in_nat u 1 99 (by decide) (by decide) with he | ⟨a, a1, a2, rfl, he⟩
  · rw [he, bS, bS, if_pos (by decide), if_pos (by decide)]; exact ⟨_, _, _, rfl, rfl, C, R⟩
  · rw [he, bS, bS, if_neg (by decide), if_neg (by decide)]
    rcases in_nat v 1 99 (by decide) (by decide) with he | ⟨b, b1, b2, rfl, he⟩
    · rw [he, bS, bS, if_pos (by decide), if_pos (by decide)]; exact ⟨_, _, _, rfl, rfl, C, R⟩
    · rw [he, bS, bS, if_neg (by decide), if_neg (by decide)]
      refine q_dish (fC := fun μ4 => (Taster_minutes (nI a) (nI b) μ4).bind fun x5 => some (x5, μ4)) (fM := fun μ6 => M_boil_l1 (nI a) (nI b) μ6 FU (nI 10) (nI 1)) W C R ?_
      rintro p i d μ ν hd hO hS hR hW
      obtain ⟨hp, rfl, -, -, -⟩ := hd
      obtain ⟨w, hw, ew⟩ := wet_bd (d := d) W hp
      have e1 : mRd ν 1332 0 9 (nI 0) = some (nI w) := by rw [rd_n (by decide) (by decide), hW.2 0 (by decide), ew]
      have e2 : mDv (nI 100 * nI b) (nI 10 * nI a + nI w) = some (nI (100 * b / (10 * a + w))) := by rw [mul_n, mul_n, add_n, dv_n (by omega) (by omega) (by omega)]
      obtain ⟨r, er, -⟩ := boil_ends (nI (100 * b / (10 * a + w)))
      rw [boil_same e1 e2, er, bS]
      unfold Taster_minutes
      rw [rd_n (by decide) (by decide), hS.2 0 (by decide), ew, bS, bS, e2, bS, if_pos (by rw [mul_n, add_n]; exact (gt0_n (by omega)).mpr (by omega)), bS, er, bS]
      exact ⟨_, _, _, rfl, rfl, hO.1, hR⟩
