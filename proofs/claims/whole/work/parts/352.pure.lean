/-! PURE: numbers on the tape -/
def dgN (S : St) (s : Nat) : Option Nat := if s < nTp S ∧ 48 ≤ sN S 1000 0 s ∧ sN S 1000 0 s ≤ 57 then some (sN S 1000 0 s - 48) else none
theorem dg_no {S : St} {s : Nat} (W : W_tp S) (h : dgN S s = none) : B_isDigit (hrI S s) = some (nI 0) := by
  rcases dig_or (hrI S s) with e | ⟨d, d1, d2, e⟩
  · exact e
  · exfalso
    have hs := hr_in (by omega) d2
    have hb := W.2 s hs
    rw [hr_at hs] at d2
    have := (eq_n (by omega) (by omega)).mp d2
    unfold dgN at h
    rw [if_pos ⟨hs, by omega, by omega⟩] at h
    exact nomatch h
theorem dg_at {S : St} {s d : Nat} (h : dgN S s = some d) : s < nTp S ∧ d ≤ 9 ∧ sN S 1000 0 s = 48 + d ∧ hrI S s = nI (48 + d) ∧ B_isDigit (hrI S s) = some (nI 1) := by
  unfold dgN at h
  split at h
  · rename_i hc
    have hd := Option.some.inj h
    have e : sN S 1000 0 s = 48 + d := by omega
    refine ⟨hc.1, by omega, e, by rw [hr_at hc.1, e], ?_⟩
    rw [hr_at hc.1, e]
    exact in_num (by omega) (by omega) (by omega)
  · exact nomatch h
def rdv (S : St) : Nat → Nat → Nat → Nat × Nat
  | 0, s, v => (v, s)
  | k + 1, s, v => match dgN S s with
    | some d => rdv S k (s + 1) (10 * v + d)
    | none => (v, s)
theorem rdv_no {S : St} {k s v : Nat} (h : dgN S s = none) : rdv S k s v = (v, s) := by
  cases k with
  | zero => rfl
  | succ k => unfold rdv; rw [h]
theorem rdv_at {S : St} {k s v d : Nat} (h : dgN S s = some d) : rdv S (k + 1) s v = rdv S k (s + 1) (10 * v + d) := by
  rw [rdv, h]
theorem rdv_le {S : St} : ∀ {k s v : Nat}, s ≤ nTp S → s ≤ (rdv S k s v).2 ∧ (rdv S k s v).2 ≤ nTp S ∧ (rdv S k s v).1 < (v + 1) * 10 ^ k := by
  intro k
  induction k with
  | zero => intro s v h; exact ⟨Nat.le_refl _, h, by show v < (v + 1) * 1; omega⟩
  | succ k ih =>
    intro s v h
    cases hd : dgN S s with
    | none =>
      rw [rdv_no hd]
      refine ⟨Nat.le_refl _, h, ?_⟩
      have := Nat.one_le_two_pow (n := k + 1)
      have h10 : 1 ≤ 10 ^ (k + 1) := Nat.one_le_pow _ _ (by decide)
      calc v < v + 1 := Nat.lt_succ_self v
        _ = (v + 1) * 1 := (Nat.mul_one _).symm
        _ ≤ (v + 1) * 10 ^ (k + 1) := Nat.mul_le_mul_left _ h10
    | some d =>
      obtain ⟨h1, h2, -⟩ := dg_at hd
      rw [rdv_at hd]
      obtain ⟨i1, i2, i3⟩ := ih (s := s + 1) (v := 10 * v + d) (by omega)
      refine ⟨by omega, i2, Nat.lt_of_lt_of_le i3 ?_⟩
      rw [Nat.pow_succ, Nat.mul_comm (10 ^ k) 10, ← Nat.mul_assoc]
      exact Nat.mul_le_mul_right _ (by omega)
theorem rdv_s {S : St} {k s v d : Nat} (hs : s ≤ nTp S) (h : dgN S s = some d) (hk : 0 < k) : s + 1 ≤ (rdv S k s v).2 := by
  obtain ⟨k, rfl⟩ : ∃ g, k = g + 1 := ⟨k - 1, by omega⟩
  rw [rdv_at h]
  exact (rdv_le (by have := (dg_at h).1; omega)).1
theorem rn_l {S : St} (W : W_tp S) : ∀ {k s v f : Nat} {μ : Mem}, K_C S s μ → s ≤ nTp S → k ≤ 4 → v < 1000000 → k < f → (v + 1) * 10 ^ k ≤ 1000000 → ∃ μ', Tape_readNumber_l1 (nI (min (nTp S) (s + k))) f (nI v) μ = some (nI (rdv S k s v).1, μ') ∧ K_C S (rdv S k s v).2 μ' ∧ Fr [1002] μ μ' := by
  have hn := W.1
  intro k
  induction k with
  | zero =>
    intro s v f μ K hs hk hv hf hp
    obtain ⟨f, rfl⟩ : ∃ g, f = g + 1 := ⟨f - 1, by omega⟩
    refine ⟨μ, ?_, K, Fr.refl⟩
    show Tape_readNumber_l1b _ (Tape_readNumber_l1 _ f) (nI v) μ = _
    unfold Tape_readNumber_l1b
    rw [K.2.1, if_neg (fun z => absurd ((lt_n (by omega) (by omega)).mp z) (by omega))]
    rfl
  | succ k ih =>
    intro s v f μ K hs hk hv hf hp
    obtain ⟨f, rfl⟩ : ∃ g, f = g + 1 := ⟨f - 1, by omega⟩
    show ∃ μ', Tape_readNumber_l1b _ (Tape_readNumber_l1 _ f) (nI v) μ = _ ∧ _
    unfold Tape_readNumber_l1b
    rw [K.2.1]
    cases hd : dgN S s with
    | none =>
      have e := dg_no W hd
      rw [rdv_no hd]
      by_cases h : s < nTp S
      · rw [if_pos ((lt_n (by omega) (by omega)).mpr (by omega)), rd_n (by omega) (by decide), K.1.2 s h, bS]
        rw [hr_at h] at e
        rw [e, bS, if_pos z00]
        exact ⟨μ, rfl, K, Fr.refl⟩
      · rw [if_neg (fun z => absurd ((lt_n (by omega) (by omega)).mp z) (by omega))]
        exact ⟨μ, rfl, K, Fr.refl⟩
    | some d =>
      obtain ⟨h1, h2, h3, h4, h5⟩ := dg_at hd
      rw [hr_at h1] at h5
      rw [rdv_at hd]
      have e10 : (v + 1) * 10 ^ (k + 1) = (10 * v + 10) * 10 ^ k := by
        rw [Nat.pow_succ, Nat.mul_comm (10 ^ k) 10, ← Nat.mul_assoc, Nat.mul_comm (v + 1) 10, Nat.mul_add]
      have hp2 : (10 * v + d + 1) * 10 ^ k ≤ 1000000 := Nat.le_trans (Nat.mul_le_mul_right (10 ^ k) (show 10 * v + d + 1 ≤ 10 * v + 10 by omega)) (by rw [← e10]; exact hp)
      have hv2 : 10 * v + d < 1000000 := by
        have h10 : 1 ≤ 10 ^ k := Nat.one_le_pow _ _ (by decide)
        have := Nat.mul_le_mul_left (10 * v + d + 1) h10
        omega
      obtain ⟨μ', a1, a2, a3⟩ := ih (s := s + 1) (v := 10 * v + d) (f := f) (μ := mSI μ 1002 0 0 (nI (s + 1))) K.at (by omega) (by omega) hv2 (by omega) hp2
      rw [if_pos ((lt_n (by omega) (by omega)).mpr (by omega)), rd_n (by omega) (by decide), K.1.2 s h1, bS, h5, bS, if_neg n10, bS, mul_n, add_n, h3, sub_n (by omega), bS, add_n, bS]
      rw [show min (nTp S) (s + (k + 1)) = min (nTp S) (s + 1 + k) by omega, show v * 10 + (48 + d) - 48 = 10 * v + d by omega]
      exact ⟨μ', a1, a2, (fr_si (by simp) Fr.refl).trans a3⟩
theorem num_C {S : St} {i k : Nat} {μ : Mem} (W : W_tp S) (K : K_C S i μ) (hi : i ≤ nTp S) (hk0 : 0 < k) (hk : k ≤ 4) :
    (dgN S (skp S i) = none → ∃ μ', Tape_readNumber (nI k) μ = some (-1, μ') ∧ mI μ' 1003 0 0 = nI (skp S i) ∧ Fr [1002, 1003] μ μ') ∧
    ∀ d, dgN S (skp S i) = some d → (∀ e, dgN S (rdv S k (skp S i) 0).2 = some e → ∃ μ', Tape_readNumber (nI k) μ = some (-1, μ') ∧ mI μ' 1003 0 0 = nI (rdv S k (skp S i) 0).2 ∧ Fr [1002, 1003] μ μ') ∧ (dgN S (rdv S k (skp S i) 0).2 = none → ∃ μ', Tape_readNumber (nI k) μ = some (nI (rdv S k (skp S i) 0).1, μ') ∧ K_C S (rdv S k (skp S i) 0).2 μ' ∧ Fr [1002] μ μ') := by
  have hn := W.1
  obtain ⟨hs1, hs2⟩ := skp_le hi
  obtain ⟨μ1, a1, K1, F1⟩ := look_C W K hi
  obtain ⟨s, hs⟩ : ∃ s, s = skp S i := ⟨_, rfl⟩
  rw [show lkI S i = hrI S (skp S i) from rfl, ← hs] at a1
  rw [← hs] at hs1 hs2 K1 ⊢
  refine ⟨fun hd => ?_, fun d hd => ?_⟩
  · have e := dg_no W hd
    have l1 : Tape_readNumber_l1 (nI (min (nTp S) (s + k))) FU (-1) μ1 = some (-1, μ1) := by
      show Tape_readNumber_l1b _ (Tape_readNumber_l1 _ 999999) (-1) μ1 = _
      unfold Tape_readNumber_l1b
      rw [K1.2.1]
      by_cases h : s < nTp S
      · rw [hr_at h] at e
        rw [if_pos ((lt_n (by omega) (by omega)).mpr (by omega)), rd_n (by omega) (by decide), K1.1.2 s h, bS, e, bS, if_pos z00]
      · rw [if_neg (fun z => absurd ((lt_n (by omega) (by omega)).mp z) (by omega))]
    refine ⟨mSI μ1 1003 0 0 (nI s), ?_, iS_eq, fr_si (by simp) (F1.mono (by simp))⟩
    unfold Tape_readNumber
    rw [a1, bS]
    simp only []
    rw [e, bS, if_pos z00, bS, K1.1.1, K1.2.1, add_n, jMin_n (by omega) (by omega), bS, l1, bS]
    simp only []
    rw [if_pos trivial, K1.2.1, bS]
  · obtain ⟨h1, h2, h3, h4, h5⟩ := dg_at hd
    have h10 : (0 + 1) * 10 ^ k ≤ 1000000 := by
      rw [Nat.zero_add, Nat.one_mul]
      exact Nat.le_trans (Nat.pow_le_pow_right (by decide) hk) (by decide)
    obtain ⟨μ2, l1, K2, F2⟩ := rn_l W (k := k) (v := 0) (f := FU) K1 hs2 hk (by omega) (FU_lt (by omega)) h10
    have hr := rdv_le (S := S) (k := k) (s := s) (v := 0) hs2
    obtain ⟨r, hr'⟩ : ∃ r, r = rdv S k s 0 := ⟨_, rfl⟩
    rw [← hr'] at l1 K2 hr ⊢
    obtain ⟨v, s2⟩ := r
    simp only at l1 K2 hr ⊢
    have hv : v < 1000000 := by omega
    have pre : Tape_readNumber (nI k) μ = if mI μ2 1002 0 0 < mI μ2 1001 0 0 then (mRd μ2 1000 0 120 (mI μ2 1002 0 0)).bind fun x9 => (B_isDigit x9).bind fun x10 => if x10 = 0 then some (nI v, μ2) else (some (mSI μ2 1003 0 0 (mI μ2 1002 0 0))).bind fun μ11 => some ((-1), μ11) else some (nI v, μ2) := by
      unfold Tape_readNumber
      rw [a1, bS]
      simp only []
      rw [h5, bS, if_neg n10, bS, K1.1.1, K1.2.1, add_n, jMin_n (by omega) (by omega), bS, l1, bS]
      simp only []
      rw [if_neg (fun z => neg_n hv z.symm)]
    have F : Fr [1002] μ μ2 := F1.trans F2
    refine ⟨fun e he => ?_, fun he => ?_⟩
    · obtain ⟨g1, g2, g3, g4, g5⟩ := dg_at he
      rw [hr_at g1] at g5
      refine ⟨mSI μ2 1003 0 0 (nI s2), ?_, iS_eq, fr_si (by simp) (F.mono (by simp))⟩
      rw [pre, K2.2.1, K2.1.1, if_pos ((lt_n (by omega) (by omega)).mpr g1), rd_n (by omega) (by decide), K2.1.2 _ g1, bS, g5, bS, if_neg n10, bS]
    · refine ⟨μ2, ?_, K2, F⟩
      rw [pre, K2.2.1, K2.1.1]
      by_cases h : s2 < nTp S
      · have g5 := dg_no W he
        rw [hr_at h] at g5
        rw [if_pos ((lt_n (by omega) (by omega)).mpr h), rd_n (by omega) (by decide), K2.1.2 _ h, bS, g5, bS, if_pos z00]
      · rw [if_neg (fun z => h ((lt_n (by omega) (by omega)).mp z))]
theorem num_M {S : St} {i a : Nat} {ν : Mem} (W : W_tp S) (K : K_M S i ν) (hi : i ≤ nTp S) (ha : a ≤ 99) :
    (dgN S (skp S i) = none → ∃ x ν', M_number (nI a) ν = some (x, ν') ∧ mI ν' 1304 0 0 = nI (skp S i) ∧ Fr [1303, 1304] ν ν') ∧
    ∀ d, dgN S (skp S i) = some d → (∀ e, dgN S (rdv S 2 (skp S i) 0).2 = some e → ∃ x ν', M_number (nI a) ν = some (x, ν') ∧ mI ν' 1304 0 0 = nI (rdv S 2 (skp S i) 0).2 ∧ Fr [1303, 1304] ν ν') ∧ (dgN S (rdv S 2 (skp S i) 0).2 = none → ((rdv S 2 (skp S i) 0).1 < a → ∃ x ν', M_number (nI a) ν = some (x, ν') ∧ mI ν' 1304 0 0 = nI ((rdv S 2 (skp S i) 0).2 - 1) ∧ Fr [1303, 1304] ν ν') ∧ (a ≤ (rdv S 2 (skp S i) 0).1 → ∃ ν', M_number (nI a) ν = some (nI (rdv S 2 (skp S i) 0).1, ν') ∧ K_M S (rdv S 2 (skp S i) 0).2 ν' ∧ Fr [1303] ν ν')) := by
  have hn := W.1
  obtain ⟨hs1, hs2⟩ := skp_le hi
  obtain ⟨ν1, a1, K1, F1⟩ := look_M W K hi
  obtain ⟨s, hs⟩ : ∃ s, s = skp S i := ⟨_, rfl⟩
  rw [show lkI S i = hrI S (skp S i) from rfl, ← hs] at a1
  rw [← hs] at hs1 hs2 K1 ⊢
  refine ⟨fun hd => ?_, fun d hd => ?_⟩
  · obtain ⟨ν2, b1, b2, b3⟩ := bad_M K1
    refine ⟨nI 1, ν2, ?_, b2, (F1.mono (by simp)).trans (b3.mono (by simp))⟩
    unfold M_number
    rw [a1, bS]
    simp only []
    rw [dig_M, dg_no W hd, bS, if_pos z00, b1, bS]
  · obtain ⟨h1, h2, h3, h4, h5⟩ := dg_at hd
    have K2 : K_M S (s + 1) (mSI ν1 1303 0 0 (nI (s + 1))) := K1.at
    have F2 : Fr [1303] ν (mSI ν1 1303 0 0 (nI (s + 1))) := fr_si (by simp) F1
    obtain ⟨ν2, hν2⟩ : ∃ z, z = mSI ν1 1303 0 0 (nI (s + 1)) := ⟨_, rfl⟩
    rw [← hν2] at K2 F2
    have pre : ∃ v s2 ν3, rdv S 2 s 0 = (v, s2) ∧ v ≤ 99 ∧ s + 1 ≤ s2 ∧ s2 ≤ nTp S ∧ K_M S s2 ν3 ∧ Fr [1303] ν ν3 ∧ M_number (nI a) ν = (M_here ν3).bind fun x14 => (M_isDigit x14).bind fun x15 => if x15 = 0 then (if nI v < nI a then (some (mSI ν3 1303 0 0 ((mI ν3 1303 0 0) - (nI 1)))).bind fun μ16 => (M_bad μ16).bind fun μ17 => some (nI v, μ17) else some (nI v, ν3)) else (M_bad ν3).bind fun μ18 => some (nI v, μ18) := by
      cases he : dgN S (s + 1) with
      | none =>
        refine ⟨d, s + 1, ν2, ?_, by omega, by omega, by omega, K2, F2, ?_⟩
        · rw [rdv_at hd, rdv_no he]
          congr 1; omega
        · unfold M_number
          rw [a1, bS]
          simp only []
          rw [dig_M, h5, bS, if_neg n10, here_M W K1 (by omega), bS, h4, sub_n (by omega), bS, K1.2.1, add_n, ← hν2, bS, here_M W K2 (by omega), bS, dg_no W he, bS, if_pos z00, bS]
          simp only []
          rw [show 48 + d - 48 = d by omega, here_M W K2 (by omega)]
      | some e =>
        obtain ⟨g1, g2, g3, g4, g5⟩ := dg_at he
        have K3 : K_M S (s + 2) (mSI ν2 1303 0 0 (nI (s + 2))) := K2.at
        refine ⟨10 * d + e, s + 2, mSI ν2 1303 0 0 (nI (s + 2)), ?_, by omega, by omega, by omega, K3, fr_si (by simp) F2, ?_⟩
        · rw [rdv_at hd, rdv_at he]
          show (10 * (10 * 0 + d) + e, s + 1 + 1) = _
          congr 1
          omega
        · unfold M_number
          rw [a1, bS]
          simp only []
          rw [dig_M, h5, bS, if_neg n10, here_M W K1 (by omega), bS, h4, sub_n (by omega), bS, K1.2.1, add_n, ← hν2, bS, here_M W K2 (by omega), bS, g5, bS, if_neg n10, bS, g4, mul_n, add_n, sub_n (by omega), bS, K2.2.1, add_n, bS, bS]
          simp only []
          rw [show 10 * (48 + d - 48) + (48 + e) - 48 = 10 * d + e by omega]
    obtain ⟨v, s2, ν3, e0, hv, hs3, hs4, K3, F3, pre⟩ := pre
    rw [e0, pre]
    simp only []
    refine ⟨fun e he => ?_, fun he => ⟨fun hva => ?_, fun hva => ?_⟩⟩
    · obtain ⟨g1, g2, g3, g4, g5⟩ := dg_at he
      obtain ⟨ν4, b1, b2, b3⟩ := bad_M K3
      refine ⟨nI v, ν4, ?_, b2, (F3.mono (by simp)).trans (b3.mono (by simp))⟩
      rw [here_M W K3 (by omega), bS, dig_M, g5, bS, if_neg n10, b1, bS]
    · obtain ⟨ν4, b1, b2, b3⟩ := bad_M (K3.at (j := s2 - 1))
      refine ⟨nI v, ν4, ?_, b2, (F3.mono (by simp)).trans ((fr_si (by simp) Fr.refl).trans (b3.mono (by simp)))⟩
      rw [here_M W K3 (by omega), bS, dig_M, dg_no W he, bS, if_pos z00, if_pos ((lt_n (by omega) (by omega)).mpr hva), K3.2.1, sub_n (by omega), bS, b1, bS]
    · refine ⟨ν3, ?_, K3, F3⟩
      rw [here_M W K3 (by omega), bS, dig_M, dg_no W he, bS, if_pos z00, if_neg (fun z => absurd ((lt_n (by omega) (by omega)).mp z) (by omega))]
