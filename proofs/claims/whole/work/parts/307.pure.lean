/-! PURE: the reference lays a page's dishes -/
theorem low_M {S : St} {p k : Nat} {ν : Mem} (W : WF S) (R : M_pg S ν ∧ M_ho S ν) (hp : p < nPg S) (hk : k < mT S p) : M_lowOf (nI (8 * p + k)) ν = some (nI (loP S p k)) := by
  have h16 := W.pg.1
  have hm8 := (W.pg.2.1 p hp).1.2
  obtain ⟨-, w5, -⟩ := (W.pg.2.1 p hp).2.1 k hk
  unfold M_lowOf
  rw [rd_n (by omega) (by decide), ((R.1.2 p hp).2.1 k hk).2.1, bS, jMax_n (by decide) (by omega)]
  unfold loP
  congr 2
  split <;> omega
theorem rng_M {S : St} {p k : Nat} {ν : Mem} (W : WF S) (R : M_pg S ν ∧ M_ho S ν) (hp : p < nPg S) (hk : k < mT S p) : M_rangeOf (nI (8 * p + k)) ν = some (nI (wdP S p k)) := by
  have h16 := W.pg.1
  have hm8 := (W.pg.2.1 p hp).1.2
  obtain ⟨-, w5, w6, w7, w8⟩ := (W.pg.2.1 p hp).2.1 k hk
  have hmo := W.ho.1
  unfold M_rangeOf
  rw [low_M W R hp hk, rd_n (by omega) (by decide), ((R.1.2 p hp).2.1 k hk).2.1, bS]
  by_cases h0 : sN S 704 p k = 0
  · rw [if_pos ((eq0_n (by omega)).mpr h0), bS, R.2.1, bS, show loP S p k = 1 from if_pos h0, show wdP S p k = sN S 903 0 0 from if_pos h0, sub_n (by omega), add_n]
    congr 2
    omega
  · rw [if_neg (fun q => h0 ((eq0_n (by omega)).mp q)), rd_n (by omega) (by decide), ((R.1.2 p hp).2.1 k hk).2.2, bS, bS, bS, show loP S p k = sN S 704 p k from if_neg h0, show wdP S p k = sN S 705 p k - sN S 704 p k + 1 from if_neg h0, sub_n w7, add_n]
theorem lay_M {S : St} {p d : Nat} {ν0 : Mem} (W : WF S) (R : M_pg S ν0 ∧ M_ho S ν0) (hp : p < nPg S) (hd : d ≤ 5000) : ∃ ν', M_lay (nI p) (nI d) ν0 = some ν' ∧ Fr [1340] ν0 ν' ∧ ∀ k, k < mT S p → mI ν' 1340 0 k = nI (prtP S p d k) := by
  have h16 := W.pg.1
  have hm8 := (W.pg.2.1 p hp).1.2
  obtain ⟨r, e, e2, e3⟩ : ∃ r, M_lay_l1 (nI p) FU (nI d) (dI (mT S p)) ν0 = some r ∧ Fr [1340] ν0 r ∧ ∀ k, k < mT S p → mI r 1340 0 k = nI (prtP S p d k) := by
    refine loopD (fun f v (s : Int32 × Mem) => M_lay_l1 (nI p) f s.1 v s.2) (fun c s => c ≤ mT S p ∧ s.1 = nI (d / pr (wdP S p) c (mT S p - c)) ∧ Fr [1340] ν0 s.2 ∧ ∀ k, c ≤ k → k < mT S p → mI s.2 1340 0 k = nI (prtP S p d k)) (fun r => Fr [1340] ν0 r ∧ ∀ k, k < mT S p → mI r 1340 0 k = nI (prtP S p d k)) ?_ ?_ (mT S p) (nI d, ν0) FU (FU_lt (by omega)) ⟨Nat.le_refl _, by rw [Nat.sub_self]; show nI d = nI (d / 1); rw [Nat.div_one], Fr.refl, fun k h1 h2 => absurd h2 (by omega)⟩
    · rintro f k ⟨n, ν⟩ ⟨hk, hn, F, hI⟩
      have hk' : k < mT S p := by omega
      have hn : n = nI (d / strP S p k) := hn
      subst hn
      obtain ⟨w1, w2, w3, w4⟩ := wd_pos W hp hk'
      have R' : M_pg S ν ∧ M_ho S ν := ⟨R.1.fr fun v hv => F.i v (nIn_of (by decide) hv), R.2.fr fun v hv => F.i v (nIn_of (by decide) hv)⟩
      have hdv : d / strP S p k < 2147483648 := Nat.lt_of_le_of_lt (Nat.div_le_self _ _) (by omega)
      left
      refine ⟨(nI (d / strP S p k / wdP S p k), mSI ν 1340 0 k (nI (prtP S p d k))), ?_, by omega, ?_, fr_si (by simp) F, ?_⟩
      · show M_lay_l1b (nI p) (M_lay_l1 (nI p) f) (nI (d / strP S p k)) (nI k) ν = _
        unfold M_lay_l1b
        rw [if_neg (nI_pos (by omega)), mul_n, add_n, rng_M W R' hp hk', bS, low_M W R' hp hk', bS, rm_n hdv w1 (by omega), bS, add_n, wr_n (by omega) (by decide), bS, dv_n hdv w1 (by omega), bS, bS]
        rfl
      · show nI _ = nI _
        rw [str_s hk', Nat.div_div_eq_div_mul, Nat.mul_comm]
      · intro j h1 h2
        by_cases hj : j = k
        · subst hj; exact iS_eq
        · exact (iS_c hj).trans (hI j (by omega) h2)
    · rintro f ⟨n, ν⟩ ⟨hk, hn, F, hI⟩
      refine ⟨ν, ?_, F, fun k hk => hI k (Nat.zero_le _) hk⟩
      show M_lay_l1b (nI p) (M_lay_l1 (nI p) f) n (-1) ν = _
      unfold M_lay_l1b
      rw [if_pos (by decide)]
  refine ⟨r, ?_, e2, e3⟩
  unfold M_lay
  rw [rd_n (by omega) (by decide), (R.1.2 p hp).1, bS, sub1, bS, e, bS]
/-- whether one of the first things has flesh -/
def flsP (S : St) (p : Nat) : Nat → Nat
  | 0 => 0
  | c + 1 => if sN S 809 0 (sN S 703 p c) = 1 then 1 else flsP S p c
theorem flsP_le {S : St} {p : Nat} : ∀ c, flsP S p c ≤ 1 := by
  intro c
  induction c with
  | zero => exact Nat.zero_le _
  | succ c ih => unfold flsP; split <;> omega
theorem flsP_iff {S : St} {p : Nat} : ∀ {c : Nat}, flsP S p c = 1 ↔ ∃ k, k < c ∧ sN S 809 0 (sN S 703 p k) = 1 := by
  intro c
  induction c with
  | zero => exact ⟨fun h => absurd (show (0 : Nat) = 1 from h) (by decide), fun ⟨k, h, _⟩ => absurd h (Nat.not_lt_zero k)⟩
  | succ c ih =>
    unfold flsP
    by_cases h : sN S 809 0 (sN S 703 p c) = 1
    · rw [if_pos h]; exact ⟨fun _ => ⟨c, by omega, h⟩, fun _ => rfl⟩
    · rw [if_neg h, ih]
      constructor
      · rintro ⟨k, h1, h2⟩; exact ⟨k, by omega, h2⟩
      · rintro ⟨k, h1, h2⟩
        by_cases e : k = c
        · subst e; exact absurd h2 h
        · exact ⟨k, by omega, h2⟩
theorem fls_bits {S : St} {p : Nat} (W : WF S) (hp : p < nPg S) : sN S 706 0 p &&& sN S 807 0 0 = 0 ↔ flsP S p (mT S p) = 0 := by
  have hb := (W.pg.2.1 p hp).2.2.2.1.2
  have ht := (W.pg.2.1 p hp).2.1
  have hf : flsP S p (mT S p) = 0 ↔ ¬ flsP S p (mT S p) = 1 := by have := flsP_le (S := S) (p := p) (mT S p); omega
  rw [hf, flsP_iff]
  constructor
  · rintro h ⟨k, hk, hk1⟩
    have h1 : (sN S 706 0 p &&& sN S 807 0 0).testBit (sN S 703 p k) = true := by
      rw [Nat.testBit_and, (hb _).mpr ⟨k, hk, rfl⟩, (W.th.2.2.1 _ (ht k hk).1).2.2.2.2.1, hk1]; rfl
    rw [h, Nat.zero_testBit] at h1
    exact nomatch h1
  · intro h
    apply Nat.eq_of_testBit_eq
    intro t
    rw [Nat.zero_testBit, Nat.testBit_and]
    cases h1 : (sN S 706 0 p).testBit t with
    | false => rfl
    | true =>
      obtain ⟨k, hk, rfl⟩ := (hb t).mp h1
      rw [(W.th.2.2.1 _ (ht k hk).1).2.2.2.2.1, Bool.true_and, decide_eq_false_iff_not]
      exact fun q => h ⟨k, hk, q⟩
theorem lt8_fls {S : St} {p : Nat} {f : Nat → Nat} (W : WF S) (hp : p < nPg S) : ltF S p f 8 = nI (flsP S p (mT S p)) := by
  show (if sN S 706 0 p &&& sN S 807 0 0 = 0 then nI 0 else nI 1) = _
  have h1 := flsP_le (S := S) (p := p) (mT S p)
  by_cases h : sN S 706 0 p &&& sN S 807 0 0 = 0
  · rw [if_pos h, (fls_bits W hp).mp h]
  · rw [if_neg h, show flsP S p (mT S p) = 1 by have := mt (fls_bits W hp).mpr h; omega]
theorem spell_M {S : St} {p : Nat} {f : Nat → Nat} {ν0 : Mem} (W : WF S) (R : M_pg S ν0 ∧ M_th S ν0) (hp : p < nPg S) (hf : ∀ k, k < mT S p → mI ν0 1340 0 k = nI (f k)) :
    ∃ ν', M_spell (nI p) ν0 = some ν' ∧ Fr [1332] ν0 ν' ∧ ∀ i, i < 9 → mI ν' 1332 0 i = ltF S p f i := by
  have h16 := W.pg.1
  have wp := W.pg.2.1 p hp
  have hm8 := wp.1.2
  have h12 := W.th.1
  obtain ⟨ν1, e1, F1, z1⟩ : ∃ r, M_spell_l1 (nI p) FU (nI 0) ν0 = some r ∧ Fr [1332] ν0 r ∧ ∀ i, i < 9 → mI r 1332 0 i = nI 0 := by
    refine loopE (fun g v s => M_spell_l1 (nI p) g v s) 9 (fun c s => Fr [1332] ν0 s ∧ ∀ i, i < c → mI s 1332 0 i = nI 0) (fun r => Fr [1332] ν0 r ∧ ∀ i, i < 9 → mI r 1332 0 i = nI 0) ?_ ?_ 9 0 ν0 FU rfl (FU_lt (by decide)) ⟨Fr.refl, fun i h => absurd h (by omega)⟩
    · rintro g k ν hk ⟨F, hI⟩
      left
      refine ⟨mSI ν 1332 0 k (nI 0), ?_, fr_si (by simp) F, fun i hi => ?_⟩
      · show M_spell_l1b (nI p) (M_spell_l1 (nI p) g) (nI k) ν = _
        unfold M_spell_l1b
        rw [if_pos ((lt_n (by omega) (by decide)).mpr hk), wr_n hk (by decide), bS, bS, add_n]
      · by_cases e : i = k
        · subst e; exact iS_eq
        · exact (iS_c e).trans (hI i (by omega))
    · rintro g ν ⟨F, hI⟩
      refine ⟨ν, ?_, F, hI⟩
      show M_spell_l1b (nI p) (M_spell_l1 (nI p) g) (nI 9) ν = _
      unfold M_spell_l1b
      rw [if_neg (by decide)]
  obtain ⟨ν2, e2, F2, y0, y1, y2, y3, y4, y8⟩ : ∃ r, M_spell_l2 (nI p) FU (nI 0) ν1 = some r ∧ Fr [1332] ν0 r ∧ mI r 1332 0 0 = ltF S p f 0 ∧ mI r 1332 0 1 = ltF S p f 1 ∧ mI r 1332 0 2 = ltF S p f 2 ∧ mI r 1332 0 3 = ltF S p f 3 ∧ (∀ a, a < 4 → mI r 1332 0 (4 + a) = nI 0) ∧ mI r 1332 0 8 = ltF S p f 8 := by
    refine loopE (fun g v s => M_spell_l2 (nI p) g v s) (mT S p) (fun c s => Fr [1332] ν0 s ∧ mI s 1332 0 0 = nI (sumK (fun k => f k * sN S 800 0 (sN S 703 p k)) c) ∧ mI s 1332 0 1 = nI (sumK (fun k => f k * sN S 801 0 (sN S 703 p k)) c) ∧ mI s 1332 0 2 = nI (sumK (fun k => f k * sN S 802 0 (sN S 703 p k)) c) ∧ mI s 1332 0 3 = nI (sumK f c) ∧ (∀ a, a < 4 → mI s 1332 0 (4 + a) = nI 0) ∧ mI s 1332 0 8 = nI (flsP S p c)) (fun r => Fr [1332] ν0 r ∧ mI r 1332 0 0 = ltF S p f 0 ∧ mI r 1332 0 1 = ltF S p f 1 ∧ mI r 1332 0 2 = ltF S p f 2 ∧ mI r 1332 0 3 = ltF S p f 3 ∧ (∀ a, a < 4 → mI r 1332 0 (4 + a) = nI 0) ∧ mI r 1332 0 8 = ltF S p f 8) ?_ ?_ (mT S p) 0 ν1 FU (by omega) (FU_lt (by omega)) ⟨F1, z1 0 (by omega), z1 1 (by omega), z1 2 (by omega), z1 3 (by omega), fun a ha => z1 (4 + a) (by omega), z1 8 (by omega)⟩
    · rintro g k ν hk ⟨F, q0, q1, q2, q3, q4, q8⟩
      have t1 := (wp.2.1 k hk).1
      obtain ⟨c1, c2, c3, -, c5⟩ := R.2.2.1 _ t1
      have b9 := (W.th.2.2.1 _ t1).2.2.2.2.2
      have pg := R.1.2 p hp
      have f1315 : mI ν 1315 0 p = nI (mT S p) := by rw [F.i 1315 (by decide)]; exact pg.1
      have f1316 : mI ν 1316 0 (8 * p + k) = nI (sN S 703 p k) := by rw [F.i 1316 (by decide)]; exact (pg.2.1 k hk).1
      have f1306 : mI ν 1306 0 (sN S 703 p k) = nI (sN S 800 0 (sN S 703 p k)) := by rw [F.i 1306 (by decide)]; exact c1
      have f1307 : mI ν 1307 0 (sN S 703 p k) = nI (sN S 801 0 (sN S 703 p k)) := by rw [F.i 1307 (by decide)]; exact c2
      have f1308 : mI ν 1308 0 (sN S 703 p k) = nI (sN S 802 0 (sN S 703 p k)) := by rw [F.i 1308 (by decide)]; exact c3
      have f1309 : mI ν 1309 0 (sN S 703 p k) = nI (sN S 809 0 (sN S 703 p k)) := by rw [F.i 1309 (by decide)]; exact c5
      have f1340 : mI ν 1340 0 k = nI (f k) := by rw [F.i 1340 (by decide)]; exact hf k hk
      left
      refine ⟨mSI (mSI (mSI (mSI (mSI ν 1332 0 0 (nI (sumK (fun k => f k * sN S 800 0 (sN S 703 p k)) (k + 1)))) 1332 0 1 (nI (sumK (fun k => f k * sN S 801 0 (sN S 703 p k)) (k + 1)))) 1332 0 2 (nI (sumK (fun k => f k * sN S 802 0 (sN S 703 p k)) (k + 1)))) 1332 0 3 (nI (sumK f (k + 1)))) 1332 0 8 (nI (flsP S p (k + 1))), ?_, fr_si (by simp) (fr_si (by simp) (fr_si (by simp) (fr_si (by simp) (fr_si (by simp) F)))), ?_, ?_, ?_, ?_, ?_, iS_eq⟩
      · show M_spell_l2b (nI p) (M_spell_l2 (nI p) g) (nI k) ν = _
        unfold M_spell_l2b
        have s0 : sumK (fun k => f k * sN S 800 0 (sN S 703 p k)) (k + 1) = sumK (fun k => f k * sN S 800 0 (sN S 703 p k)) k + sN S 800 0 (sN S 703 p k) * f k := by rw [Nat.mul_comm]; rfl
        have s1 : sumK (fun k => f k * sN S 801 0 (sN S 703 p k)) (k + 1) = sumK (fun k => f k * sN S 801 0 (sN S 703 p k)) k + sN S 801 0 (sN S 703 p k) * f k := by rw [Nat.mul_comm]; rfl
        have s2 : sumK (fun k => f k * sN S 802 0 (sN S 703 p k)) (k + 1) = sumK (fun k => f k * sN S 802 0 (sN S 703 p k)) k + sN S 802 0 (sN S 703 p k) * f k := by rw [Nat.mul_comm]; rfl
        have s3 : sumK f (k + 1) = sumK f k + f k := rfl
        rw [rd_n (by omega) (by decide), f1315, bS, if_pos ((lt_n (by omega) (by omega)).mpr hk), mul_n, add_n, rd_n (by omega) (by decide), f1316, bS, rd_n (by decide) (by decide), q0, bS, rd_n (by omega) (by decide), f1306, bS, rd_n (by omega) (by decide), f1340, bS, mul_n, add_n, wr_n (by decide) (by decide), bS, rd_n (by decide) (by decide), iS_c (by decide), q1, bS, rd_n (by omega) (by decide), iS_v (by decide), f1307, bS, rd_n (by omega) (by decide), iS_v (by decide), f1340, bS, mul_n, add_n, wr_n (by decide) (by decide), bS, rd_n (by decide) (by decide), iS_c (by decide), iS_c (by decide), q2, bS, rd_n (by omega) (by decide), iS_v (by decide), iS_v (by decide), f1308, bS, rd_n (by omega) (by decide), iS_v (by decide), iS_v (by decide), f1340, bS, mul_n, add_n, wr_n (by decide) (by decide), bS, rd_n (by decide) (by decide), iS_c (by decide), iS_c (by decide), iS_c (by decide), q3, bS, rd_n (by omega) (by decide), iS_v (by decide), iS_v (by decide), iS_v (by decide), f1340, bS, add_n, wr_n (by decide) (by decide), bS, rd_n (by omega) (by decide), iS_v (by decide), iS_v (by decide), iS_v (by decide), iS_v (by decide), f1309, bS, s0, s1, s2, s3]
        by_cases h9 : sN S 809 0 (sN S 703 p k) = 1
        · rw [h9, if_neg (show ¬ nI 1 = 0 by decide), bS, wr_n (by decide) (by decide), bS, bS, add_n, show flsP S p (k + 1) = 1 from if_pos h9]
        · rw [show sN S 809 0 (sN S 703 p k) = 0 by omega, if_pos (show nI 0 = 0 from rfl), rd_n (by decide) (by decide), iS_c (by decide), iS_c (by decide), iS_c (by decide), iS_c (by decide), q8, bS, bS, wr_n (by decide) (by decide), bS, bS, add_n, show flsP S p (k + 1) = flsP S p k from if_neg h9]
      · rw [iS_c (by decide), iS_c (by decide), iS_c (by decide), iS_c (by decide), iS_eq]
      · rw [iS_c (by decide), iS_c (by decide), iS_c (by decide), iS_eq]
      · rw [iS_c (by decide), iS_c (by decide), iS_eq]
      · rw [iS_c (by decide), iS_eq]
      · intro a ha
        rw [iS_c (by omega), iS_c (by omega), iS_c (by omega), iS_c (by omega), iS_c (by omega)]
        exact q4 a ha
    · rintro g ν ⟨F, q0, q1, q2, q3, q4, q8⟩
      refine ⟨ν, ?_, F, q0, q1, q2, q3, q4, by rw [q8, lt8_fls W hp]⟩
      show M_spell_l2b (nI p) (M_spell_l2 (nI p) g) (nI (mT S p)) ν = _
      unfold M_spell_l2b
      rw [rd_n (by omega) (by decide), F.i 1315 (by decide), (R.1.2 p hp).1, bS, if_neg (fun q => absurd ((lt_n (by omega) (by omega)).mp q) (by omega))]
  have h72 := wp.2.2.2.2.2.1
  obtain ⟨ν3, e3, F3, x1⟩ : ∃ r, M_spell_l3 (nI p) FU (nI 0) ν2 = some r ∧ Fr [1332] ν0 r ∧ ∀ i, i < 9 → mI r 1332 0 i = ltF S p f i := by
    refine loopE (fun g v s => M_spell_l3 (nI p) g v s) (sN S 709 0 p) (fun c s => Fr [1332] ν0 s ∧ (∀ i, i < 4 ∨ i = 8 → mI s 1332 0 i = ltF S p f i) ∧ ∀ a, a < 4 → mI s 1332 0 (4 + a) = nI (cntA S p a c)) (fun r => Fr [1332] ν0 r ∧ ∀ i, i < 9 → mI r 1332 0 i = ltF S p f i) ?_ ?_ (sN S 709 0 p) 0 ν2 FU (by omega) (FU_lt (by omega)) ⟨F2, fun i hi => ?_, y4⟩
    · rintro g k ν hk ⟨F, q0, q4⟩
      have pg := R.1.2 p hp
      have ha := wp.2.2.2.2.2.2.1 k hk
      have f1319 : mI ν 1319 0 p = nI (sN S 709 0 p) := by rw [F.i 1319 (by decide)]; exact pg.2.2.1
      have f1320 : mI ν 1320 0 (72 * p + k) = nI (acd (sN S 708 p k)) := by rw [F.i 1320 (by decide)]; exact pg.2.2.2.1 k hk
      have hx : (if nI (acd (sN S 708 p k)) = nI 66 then some (nI 4) else if nI (acd (sN S 708 p k)) = nI 82 then some (nI 5) else if nI (acd (sN S 708 p k)) = nI 84 then some (nI 6) else some (nI 7)) = some (nI (4 + sN S 708 p k)) := by
        generalize sN S 708 p k = a at ha
        have : a = 0 ∨ a = 1 ∨ a = 2 ∨ a = 3 := by omega
        rcases this with rfl | rfl | rfl | rfl <;> rfl
      left
      refine ⟨mSI ν 1332 0 (4 + sN S 708 p k) (nI (cntA S p (sN S 708 p k) k + 1)), ?_, fr_si (by simp) F, fun i hi => ?_, fun a h4 => ?_⟩
      · show M_spell_l3b (nI p) (M_spell_l3 (nI p) g) (nI k) ν = _
        unfold M_spell_l3b
        rw [rd_n (by omega) (by decide), f1319, bS, if_pos ((lt_n (by omega) (by omega)).mpr hk), mul_n, add_n, rd_n (by omega) (by decide), f1320, bS, hx, bS, rd_n (by omega) (by decide), q4 _ ha, bS, add_n, wr_n (by omega) (by decide), bS, bS, add_n]
      · rw [iS_c (by omega)]; exact q0 i hi
      · show mI _ 1332 0 (4 + a) = nI (cntA S p a k + if sN S 708 p k = a then 1 else 0)
        by_cases e : sN S 708 p k = a
        · rw [e, iS_eq, if_pos rfl]
        · rw [iS_c (by omega), if_neg e]; exact q4 a h4
    · rintro g ν ⟨F, q0, q4⟩
      refine ⟨ν, ?_, F, fun i hi => ?_⟩
      · show M_spell_l3b (nI p) (M_spell_l3 (nI p) g) (nI (sN S 709 0 p)) ν = _
        unfold M_spell_l3b
        rw [rd_n (by omega) (by decide), F.i 1319 (by decide), (R.1.2 p hp).2.2.1, bS, if_neg (fun q => absurd ((lt_n (by omega) (by omega)).mp q) (by omega))]
      · by_cases h : i < 4 ∨ i = 8
        · exact q0 i h
        · have := q4 (i - 4) (by omega)
          rw [show 4 + (i - 4) = i by omega] at this
          rw [this, ← wp.2.2.2.2.2.2.2.1 (i - 4) (by omega)]
          unfold ltF
          rw [if_neg (by omega), if_neg (by omega), if_neg (by omega), if_neg (by omega), if_pos (by omega)]
    · by_cases h8 : i = 8
      · subst h8; exact y8
      by_cases h0 : i = 0
      · subst h0; exact y0
      by_cases h1 : i = 1
      · subst h1; exact y1
      by_cases h2 : i = 2
      · subst h2; exact y2
      have : i = 3 := by omega
      subst this; exact y3
  refine ⟨ν3, ?_, F3, x1⟩
  unfold M_spell
  rw [e1, bS, e2, bS, e3, bS]
theorem val_M {S : St} {p l : Nat} {f : Nat → Nat} {ν : Mem} (W : WF S) (R : M_lw S ν) (hl : l < nLw S) (h : ∀ i, i < 9 → mI ν 1332 0 i = ltF S p f i) : ∃ ν', M_worthNow (nI l) ν = some (wthF S p f l, ν') ∧ Fr [1333] ν ν' := by
  have h6 := W.lw.1
  obtain ⟨ν', e⟩ := worthNow_eq (by omega) (R.2 l hl) (W.lw.2 l hl)
  rw [wth_eq W hl h] at e
  exact ⟨ν', e, M_worthNow_fr e⟩
theorem kept_M {S : St} {p : Nat} {f : Nat → Nat} (W : WF S) (hp : p < nPg S) : keptF S p f ↔ ∀ k, k < nHo S → sN S 1334 0 k = p → sI S 1336 0 k ≤ wthF S p f (sN S 1335 0 k) ∧ wthF S p f (sN S 1335 0 k) ≤ sI S 1337 0 k := by
  have h16 := W.pg.1
  have h6 := W.lw.1
  obtain ⟨-, -, -, hk, hl⟩ := W.ho
  constructor
  · intro h k h1 h2
    have h3 := (hk k h1).2
    exact (hl p (sN S 1335 0 k) (wthF S p f (sN S 1335 0 k)) (by omega) (by omega)).mp (h _ (by omega)) k h1 h2 rfl
  · intro h l h1 h2
    refine (hl p l (wthF S p f l) (by omega) h1).mpr (fun k a1 a2 a3 => ?_) h2
    have := h k a1 a2
    rw [a3] at this
    exact this
theorem isKept_M {S : St} {p : Nat} {f : Nat → Nat} {ν0 : Mem} (W : WF S) (R : M_lw S ν0 ∧ M_ho S ν0) (hp : p < nPg S) (h : ∀ i, i < 9 → mI ν0 1332 0 i = ltF S p f i) :
    ∃ ν', M_isKept (nI p) ν0 = some (nI (keptB S p f).toNat, ν') ∧ Fr [1333] ν0 ν' := by
  have h16 := W.pg.1
  have h6 := W.lw.1
  have h20 := W.ho.2.1
  obtain ⟨⟨x, ν'⟩, e, hx, hF⟩ : ∃ r, M_isKept_l1 (nI p) FU (nI 0) ν0 = some r ∧ r.1 = nI (keptB S p f).toNat ∧ Fr [1333] ν0 r.2 := by
    refine loopE (fun g v s => M_isKept_l1 (nI p) g v s) (nHo S) (fun c s => Fr [1333] ν0 s ∧ ∀ k, k < c → sN S 1334 0 k = p → sI S 1336 0 k ≤ wthF S p f (sN S 1335 0 k) ∧ wthF S p f (sN S 1335 0 k) ≤ sI S 1337 0 k) (fun r => r.1 = nI (keptB S p f).toNat ∧ Fr [1333] ν0 r.2) ?_ ?_ (nHo S) 0 ν0 FU (by omega) (FU_lt (by omega)) ⟨Fr.refl, fun k q => absurd q (by omega)⟩
    · rintro g k ν hk ⟨F, hI⟩
      obtain ⟨c1, c2, c3, c4⟩ := R.2.2.2 k hk
      obtain ⟨d1, d2⟩ := W.ho.2.2.2.1 k hk
      show (∃ s', M_isKept_l1b (nI p) (M_isKept_l1 (nI p) g) (nI k) ν = _ ∧ _) ∨ (∃ r, M_isKept_l1b (nI p) (M_isKept_l1 (nI p) g) (nI k) ν = _ ∧ _)
      unfold M_isKept_l1b
      rw [F.i 1338 (by decide), R.2.2.1, if_pos ((lt_n (by omega) (by omega)).mpr hk), rd_n (by omega) (by decide), F.i 1334 (by decide), c1, bS]
      by_cases e : sN S 1334 0 k = p
      · rw [if_pos ((eq_n (by omega) (by omega)).mpr e), rd_n (by omega) (by decide), F.i 1335 (by decide), c2, bS]
        obtain ⟨ν1, v1, v2⟩ := val_M (ν := ν) (f := f) (p := p) W (R.1.fr fun v hv => F.i v (nIn_of (by decide) hv)) d2 (fun i hi => by rw [F.i 1332 (by decide)]; exact h i hi)
        have F1 := F.trans v2
        rw [v1, bS]
        simp only []
        rw [rd_n (by omega) (by decide), F1.i 1336 (by decide), c3, bS, rd_n (by omega) (by decide), F1.i 1337 (by decide), c4, bS]
        by_cases hin : sI S 1336 0 k ≤ wthF S p f (sN S 1335 0 k) ∧ wthF S p f (sN S 1335 0 k) ≤ sI S 1337 0 k
        · left
          rw [in_pos (by rw [Int32.lt_iff_toInt_lt]; have := hin.1; rw [Int32.le_iff_toInt_le] at this; omega) (by rw [Int32.lt_iff_toInt_lt]; have := hin.2; rw [Int32.le_iff_toInt_le] at this; omega), bS, if_neg (by decide), bS, add_n]
          refine ⟨ν1, rfl, F1, fun k' h1 h2 => ?_⟩
          by_cases e' : k' = k
          · subst e'; exact hin
          · exact hI k' (by omega) h2
        · right
          rw [in_neg (by
            rw [Int32.lt_iff_toInt_lt, Int32.lt_iff_toInt_lt]
            rw [Int32.le_iff_toInt_le, Int32.le_iff_toInt_le] at hin
            omega), bS, if_pos (by decide), rz_0, bS]
          refine ⟨_, rfl, ?_, F1⟩
          have : keptB S p f = false := by
            cases hb : keptB S p f with
            | false => rfl
            | true => exact absurd ((kept_M W hp).mp (keptB_iff.mp hb) k hk e) hin
          rw [this]; rfl
      · left
        rw [if_neg (fun q => e ((eq_n (by omega) (by omega)).mp q)), bS, add_n]
        refine ⟨ν, rfl, F, fun k' h1 h2 => ?_⟩
        by_cases e' : k' = k
        · subst e'; exact absurd h2 e
        · exact hI k' (by omega) h2
    · rintro g ν ⟨F, hI⟩
      refine ⟨(nI 1, ν), ?_, ?_, F⟩
      · show M_isKept_l1b (nI p) (M_isKept_l1 (nI p) g) (nI (nHo S)) ν = _
        unfold M_isKept_l1b
        rw [F.i 1338 (by decide), R.2.2.1, if_neg (fun q => absurd ((lt_n (by omega) (by omega)).mp q) (by omega)), rz_1, bS]
      · rw [keptB_iff.mpr ((kept_M W hp).mpr hI)]; rfl
  simp only at hx hF
  subst hx
  exact ⟨ν', e, hF⟩
/-- the reference has found a page's dishes -/
def Fnd (S : St) (p : Nat) (ν : Mem) : Prop := mI ν 1342 0 0 = nI (dl S p).length ∧ ∀ i d, (dl S p)[i]? = some d → mI ν 1341 0 i = nI d
def fndW : List Nat := [1332, 1333, 1340, 1341, 1342, 1343]
theorem find2 {S : St} {p : Nat} {ν0 : Mem} (W : WF S) (R : MR S ν0) (hp : p < nPg S) (ht : told S p) (h1343 : mI ν0 1343 0 0 = nI (totP S p)) (h1342 : mI ν0 1342 0 0 = nI 0) :
    ∃ ν', M_findDishes_l2 (nI p) FU (nI 0) ν0 = some ν' ∧ Fr [1332, 1333, 1340, 1341, 1342] ν0 ν' ∧ Fnd S p ν' := by
  have ht' := ht
  unfold told at ht'
  refine loopE (fun g v s => M_findDishes_l2 (nI p) g v s) (totP S p) (fun d s => Fr [1332, 1333, 1340, 1341, 1342] ν0 s ∧ mI s 1342 0 0 = nI (dlu S p d).length ∧ ∀ i e, (dlu S p d)[i]? = some e → mI s 1341 0 i = nI e) (fun r => Fr [1332, 1333, 1340, 1341, 1342] ν0 r ∧ Fnd S p r) ?_ ?_ (totP S p) 0 ν0 FU (by omega) (FU_lt (by omega)) ⟨Fr.refl, h1342, fun i e he => by simp [dlu] at he⟩
  · rintro g d ν hd ⟨F, hn, hI⟩
    have hl := dlu_len (S := S) (p := p) (d := d)
    have R1 := R.fr F (by decide)
    obtain ⟨ν1, a1, a2, a3⟩ := lay_M (d := d) W ⟨R1.pg, R1.ho⟩ hp (by omega)
    have R2 := R1.fr a2 (by decide)
    obtain ⟨ν2, b1, b2, b3⟩ := spell_M W ⟨R2.pg, R2.th⟩ hp a3
    have R3 := R2.fr b2 (by decide)
    obtain ⟨ν3, c1, c2⟩ := isKept_M W ⟨R3.lw, R3.ho⟩ hp b3
    have FF : Fr [1332, 1333, 1340] ν ν3 := ((a2.mono (by simp)).trans (b2.mono (by simp))).trans (c2.mono (by simp))
    left
    have step : ∀ ν4, (if nI (keptB S p (prtP S p d)).toNat = 0 then some ν3 else (mWr ν3 1341 0 5000 (mI ν3 1342 0 0) (nI d)).bind fun μ5 => (some (mSI μ5 1342 0 0 ((mI μ5 1342 0 0) + (nI 1)))).bind fun μ6 => some μ6) = some ν4 → M_findDishes_l2 (nI p) (g + 1) (nI d) ν = M_findDishes_l2 (nI p) g (nI (d + 1)) ν4 := by
      intro ν4 h4
      show M_findDishes_l2b (nI p) (M_findDishes_l2 (nI p) g) (nI d) ν = _
      unfold M_findDishes_l2b
      rw [F.i 1343 (by decide), h1343, if_pos ((lt_n (by omega) (by omega)).mpr hd), a1, bS, b1, bS]
      rw [show M_isKept (nI p) ν2 = some (nI (keptB S p (prtP S p d)).toNat, ν3) from c1, bS]
      simp only []
      rw [h4, bS, bS, add_n]
    have f1342 : mI ν3 1342 0 0 = nI (dlu S p d).length := by rw [FF.i 1342 (by decide)]; exact hn
    cases hk : keptB S p (prtP S p d) with
    | false =>
      rw [hk] at step
      have : dlu S p (d + 1) = dlu S p d := by rw [dlu_s, if_neg (by rw [hk]; decide)]
      rw [this]
      exact ⟨ν3, step ν3 (if_pos rfl), F.trans (FF.mono (by simp)), f1342, by rw [FF.i 1341 (by decide)]; exact hI⟩
    | true =>
      rw [hk] at step
      have hs : dlu S p (d + 1) = dlu S p d ++ [d] := by rw [dlu_s, if_pos hk]
      rw [hs]
      refine ⟨mSI (mSI ν3 1341 0 (dlu S p d).length (nI d)) 1342 0 0 (nI ((dlu S p d).length + 1)), step _ ?_, fr_si (by simp) (fr_si (by simp) (F.trans (FF.mono (by simp)))), ?_, fun i e he => ?_⟩
      · rw [if_neg (show ¬ nI true.toNat = 0 by decide), f1342, wr_n (by omega) (by decide), bS, iS_v (by decide), f1342, add_n, bS]
      · rw [iS_eq, List.length_append]; rfl
      · rw [iS_v (by decide)]
        by_cases hi : i = (dlu S p d).length
        · subst hi
          rw [List.getElem?_append_right (Nat.le_refl _), Nat.sub_self] at he
          simp at he
          rw [iS_eq, he]
        · have hil : i < (dlu S p d).length := by
            have := (List.getElem?_eq_some_iff.mp he).1
            rw [List.length_append, List.length_singleton] at this
            omega
          rw [List.getElem?_append_left hil] at he
          rw [iS_c hi, FF.i 1341 (by decide)]
          exact hI i e he
  · rintro g ν ⟨F, hn, hI⟩
    refine ⟨ν, ?_, F, hn, hI⟩
    show M_findDishes_l2b (nI p) (M_findDishes_l2 (nI p) g) (nI (totP S p)) ν = _
    unfold M_findDishes_l2b
    rw [F.i 1343 (by decide), h1343, if_neg (fun q => absurd ((lt_n (by omega) (by omega)).mp q) (by omega))]
theorem pre_le {S : St} (W : WF S) {p k : Nat} (hp : p < nPg S) (hk : k ≤ mT S p) : pr (wdP S p) 0 k ≤ totP S p := by
  have := pr_app (wdP S p) k (mT S p - k) 0
  rw [show k + (mT S p - k) = mT S p by omega, Nat.zero_add] at this
  unfold totP
  rw [this]
  exact Nat.le_mul_of_pos_right _ (pr_pos fun i h1 h2 => (wd_pos W hp (by omega)).1)
theorem pre_s {S : St} {p k : Nat} : pr (wdP S p) 0 (k + 1) = pr (wdP S p) 0 k * wdP S p k := by
  rw [pr_app (wdP S p) k 1 0, Nat.zero_add]
  show _ * (wdP S p k * 1) = _
  rw [Nat.mul_one]
theorem find_M {S : St} {p : Nat} {ν0 : Mem} (W : WF S) (R : MR S ν0) (hp : p < nPg S) : (told S p → ∃ ν', M_findDishes (nI p) ν0 = some (nI 1, ν') ∧ MR S ν' ∧ Fnd S p ν' ∧ Fr fndW ν0 ν') ∧ (¬ told S p → ∃ ν', M_findDishes (nI p) ν0 = some (nI 0, ν') ∧ MR S ν' ∧ Fr fndW ν0 ν') := by
  have h16 := W.pg.1
  have hm8 := (W.pg.2.1 p hp).1.2
  have key : ∃ r, M_findDishes_l1 (nI p) FU (nI 0) (mSI ν0 1343 0 0 (nI 1)) = some r ∧ Fr fndW ν0 r.2 ∧ (told S p → r.1 = nI 1 ∧ Fnd S p r.2) ∧ (¬ told S p → r.1 = nI 0) := by
    refine loopE (fun g v s => M_findDishes_l1 (nI p) g v s) (mT S p) (fun c s => Fr [1343] ν0 s ∧ mI s 1343 0 0 = nI (pr (wdP S p) 0 c) ∧ pr (wdP S p) 0 c ≤ 5000) (fun r => Fr fndW ν0 r.2 ∧ (told S p → r.1 = nI 1 ∧ Fnd S p r.2) ∧ (¬ told S p → r.1 = nI 0)) ?_ ?_ (mT S p) 0 _ FU (by omega) (FU_lt (by omega)) ⟨fr_si (by simp) Fr.refl, iS_eq, by show 1 ≤ 5000; omega⟩
    · rintro g k ν hk ⟨F, hA, hA2⟩
      obtain ⟨w1, w2, w3, w4⟩ := wd_pos W hp hk
      have R1 := R.fr F (by decide)
      have hA3 : pr (wdP S p) 0 (k + 1) ≤ 495000 := by rw [pre_s]; exact Nat.le_trans (Nat.mul_le_mul hA2 w2) (by omega)
      have e : ∀ o, (if (nI 5000) < nI (pr (wdP S p) 0 (k + 1)) then (mRz (nI 0)).bind fun z => some (z, mSI ν 1343 0 0 (nI (pr (wdP S p) 0 (k + 1)))) else M_findDishes_l1 (nI p) g (nI (k + 1)) (mSI ν 1343 0 0 (nI (pr (wdP S p) 0 (k + 1))))) = o → M_findDishes_l1 (nI p) (g + 1) (nI k) ν = o := by
        intro o ho
        show M_findDishes_l1b (nI p) (M_findDishes_l1 (nI p) g) (nI k) ν = _
        unfold M_findDishes_l1b
        rw [rd_n (by omega) (by decide), (R1.pg.2 p hp).1, bS, if_pos ((lt_n (by omega) (by omega)).mpr hk), mul_n, add_n, rng_M W ⟨R1.pg, R1.ho⟩ hp hk, bS, hA, mul_n, ← pre_s, bS, iS_eq, bS, add_n]
        exact ho
      by_cases h5 : 5000 < pr (wdP S p) 0 (k + 1)
      · right
        refine ⟨(nI 0, mSI ν 1343 0 0 (nI (pr (wdP S p) 0 (k + 1)))), e _ ?_, fr_si (by unfold fndW; simp) (F.mono (by unfold fndW; simp)), fun q => ?_, fun _ => rfl⟩
        · rw [if_pos ((lt_n (by decide) (by omega)).mpr h5), rz_0, bS]
        · have := pre_le W hp (show k + 1 ≤ mT S p by omega)
          unfold told at q
          omega
      · left
        refine ⟨mSI ν 1343 0 0 (nI (pr (wdP S p) 0 (k + 1))), e _ ?_, fr_si (by simp) F, iS_eq, by omega⟩
        rw [if_neg (fun q => h5 ((lt_n (by decide) (by omega)).mp q))]
    · rintro g ν ⟨F, hA, hA2⟩
      have R1 := R.fr F (by decide)
      have ht : told S p := hA2
      have F2 : Fr [1342] ν (mSI ν 1342 0 0 (nI 0)) := fr_si (by simp) Fr.refl
      obtain ⟨ν', a1, a2, a3⟩ := find2 (ν0 := mSI ν 1342 0 0 (nI 0)) W (R1.fr F2 (by decide)) hp ht ((iS_v (by decide)).trans hA) iS_eq
      refine ⟨(nI 1, ν'), ?_, ((F.mono (by unfold fndW; simp)).trans (F2.mono (by unfold fndW; simp))).trans (a2.mono (by unfold fndW; simp)), fun _ => ⟨rfl, a3⟩, fun q => absurd ht q⟩
      show M_findDishes_l1b (nI p) (M_findDishes_l1 (nI p) g) (nI (mT S p)) ν = _
      unfold M_findDishes_l1b
      rw [rd_n (by omega) (by decide), (R1.pg.2 p hp).1, bS, if_neg (fun q => absurd ((lt_n (by omega) (by omega)).mp q) (by omega)), bS, a1, bS, rz_1, bS]
  obtain ⟨⟨x, ν'⟩, k1, k2, k3, k4⟩ := key
  have k5 : M_findDishes (nI p) ν0 = some (x, ν') := by unfold M_findDishes; rw [bS]; exact k1
  simp only at k2 k3 k4
  constructor
  · intro ht
    obtain ⟨rfl, q2⟩ := k3 ht
    exact ⟨ν', k5, R.fr k2 (by decide), q2, k2⟩
  · intro ht
    have := k4 ht
    subst this
    exact ⟨ν', k5, R.fr k2 (by decide), k2⟩
theorem told_yes {S : St} {p : Nat} {ν0 : Mem} (W : WF S) (R : MR S ν0) (hp : p < nPg S) (ht : told S p) : ∃ ν', M_isTold (nI p) ν0 = some (nI 1, ν') ∧ MR S ν' ∧ Fnd S p ν' ∧ Fr fndW ν0 ν' := by
  obtain ⟨ν', a1, a2, a3, a4⟩ := (find_M W R hp).1 ht
  refine ⟨ν', ?_, a2, a3, a4⟩
  unfold M_isTold
  rw [mpg_in R.pg.1 (by have := W.pg.1; omega) hp, bS, if_neg (by decide), a1, bS]
  simp only []
  rw [if_neg (by decide), rz_1, bS]
theorem told_not {S : St} {p : Nat} {ν0 : Mem} (W : WF S) (R : MR S ν0) (hp : p < nPg S) (ht : ¬ told S p) : ∃ ν', M_isTold (nI p) ν0 = some (nI 0, ν') ∧ MR S ν' := by
  obtain ⟨ν', a1, a2, a4⟩ := (find_M W R hp).2 ht
  refine ⟨ν', ?_, a2⟩
  unfold M_isTold
  rw [mpg_in R.pg.1 (by have := W.pg.1; omega) hp, bS, if_neg (by decide), a1, bS]
  simp only []
  rw [if_pos (by decide), rz_0, bS]
theorem told_out {S : St} {x : Int32} {ν0 : Mem} (W : WF S) (R : MR S ν0) (hx : outN x (nPg S)) : M_isTold x ν0 = some (nI 0, ν0) := by
  unfold M_isTold
  rw [mpg_out R.pg.1 (by have := W.pg.1; omega) hx, bS, if_pos (by decide), rz_0, bS]
/-- the reference's parts and letters -/
def Wnt (S : St) (p d : Nat) (ν : Mem) : Prop := (∀ k, k < mT S p → mI ν 1340 0 k = nI (prtP S p d k)) ∧ ∀ i, i < 9 → mI ν 1332 0 i = ltP S p d i
theorem dl_lt {S : St} {p i d : Nat} (h : (dl S p)[i]? = some d) : d < totP S p ∧ i < (dl S p).length :=
  ⟨List.mem_range.mp (List.mem_filter.mp (List.mem_of_getElem? h)).1, (List.getElem?_eq_some_iff.mp h).1⟩
theorem layi_M {S : St} {p i d : Nat} {ν0 : Mem} (W : WF S) (R : MR S ν0) (hp : p < nPg S) (ht : told S p) (hF : Fnd S p ν0) (hd : (dl S p)[i]? = some d) :
    mRd ν0 1341 0 5000 (nI i) = some (nI d) ∧ ∃ ν', M_lay (nI p) (nI d) ν0 = some ν' ∧ MR S ν' ∧ Fnd S p ν' ∧ (∀ k, k < mT S p → mI ν' 1340 0 k = nI (prtP S p d k)) ∧ Fr [1340] ν0 ν' := by
  obtain ⟨d1, d2⟩ := dl_lt hd
  have h5 := dl_le ht
  have ht' := ht
  unfold told at ht'
  refine ⟨by rw [rd_n (by omega) (by decide), hF.2 i d hd], ?_⟩
  obtain ⟨ν', a1, a2, a3⟩ := lay_M (d := d) W ⟨R.pg, R.ho⟩ hp (by omega)
  exact ⟨ν', a1, R.fr a2 (by decide), ⟨by rw [a2.i 1342 (by decide)]; exact hF.1, by rw [a2.i 1341 (by decide)]; exact hF.2⟩, a3, a2⟩
theorem go_M {S : St} {p i d : Nat} {ν0 : Mem} (W : WF S) (R : MR S ν0) (hp : p < nPg S) (ht : told S p) (hF : Fnd S p ν0) (hd : (dl S p)[i]? = some d) :
    ∃ ν', M_go (nI p) (nI i) ν0 = some ν' ∧ MR S ν' ∧ Fnd S p ν' ∧ Wnt S p d ν' ∧ Fr [1332, 1340] ν0 ν' := by
  obtain ⟨h1, ν1, a1, a2, a3, a4, a5⟩ := layi_M W R hp ht hF hd
  obtain ⟨ν2, b1, b2, b3⟩ := spell_M W ⟨a2.pg, a2.th⟩ hp a4
  refine ⟨ν2, ?_, a2.fr b2 (by decide), ⟨by rw [b2.i 1342 (by decide)]; exact a3.1, by rw [b2.i 1341 (by decide)]; exact a3.2⟩, ⟨by rw [b2.i 1340 (by decide)]; exact a4, b3⟩, (a5.mono (by simp)).trans (b2.mono (by simp))⟩
  unfold M_go
  rw [h1, bS, a1, bS, b1, bS]
/-- the number of a dish, asked -/
theorem num_yes {S : St} {p i d : Nat} {ν0 : Mem} (ht : told S p) (hF : Fnd S p ν0) (hd : (dl S p)[i]? = some d) : M_in (nI i) (nI 0) (mI ν0 1342 0 0 - nI 1) = some (nI 1) := by
  rw [hF.1, sub1, in_lt (dl_lt hd).2 (by have := dl_le ht; omega)]
theorem num_no {S : St} {p : Nat} {y : Int32} {ν0 : Mem} (ht : told S p) (hF : Fnd S p ν0) (h : ∀ i d, y = nI i → ¬ (dl S p)[i]? = some d) : M_in y (nI 0) (mI ν0 1342 0 0 - nI 1) = some (nI 0) := by
  have h5 := dl_le ht
  rw [hF.1, sub1]
  rcases arg_n y (dl S p).length (by omega) with hy | ⟨i, hi, rfl⟩
  · exact in_out hy (by omega)
  · exact absurd (List.getElem?_eq_getElem hi) (h i _ rfl)
