/-! PURE: all things of a page that is read, in both -/
theorem things_L {S : St} {q p : Nat} (W : W_tp S) (h12 : nTh S ≤ 12) (hq : q ≤ 16) (hp : p ≤ 16) : ∀ {r m i f g : Nat} {L lo hi : Nat → Nat} {μ ν : Mem}, m + r = 8 → r < f → r < g → K_C S i μ → K_M S i ν → i ≤ nTp S → mI μ 712 0 0 = nI q → mI μ 808 0 0 = nI (nTh S) → mI ν 1314 0 0 = nI (nTh S) → PgC q m L lo hi μ → PgM p m L lo hi ν → PgW S m L lo hi →
    (∃ j μ' ν', j ≤ nTp S ∧ Pages_readsThings_l1 f (nI m) μ = some (nI 0, μ') ∧ mI μ' 1003 0 0 = nI j ∧ Ft (XC q) μ μ' ∧ (M_item (nI p) ν).bind (M_readPage_l1 (nI p) g) = some ν' ∧ mI ν' 1304 0 0 = nI j ∧ Ft (XM p) ν ν') ∨
    ∃ m' L' lo' hi' i' μ' ν', 1 ≤ m' ∧ m' ≤ 8 ∧ i' ≤ nTp S ∧ skp S i' = i' ∧ Pages_readsThings_l1 f (nI m) μ = some (nI 1, μ') ∧ K_C S i' μ' ∧ Ft (XC q) μ μ' ∧ PgC q m' L' lo' hi' μ' ∧ (M_item (nI p) ν).bind (M_readPage_l1 (nI p) g) = some ν' ∧ K_M S i' ν' ∧ Ft (XM p) ν ν' ∧ PgM p m' L' lo' hi' ν' ∧ PgW S m' L' lo' hi' := by
  have hn := W.1
  have stop : ∀ g ν1 j, mI ν1 1304 0 0 = nI j → j ≤ nTp S → M_readPage_l1 (nI p) (g + 1) ν1 = some ν1 := fun g ν1 j h hj => by
    show M_readPage_l1b (nI p) (M_readPage_l1 (nI p) g) ν1 = _
    unfold M_readPage_l1b
    rw [h, if_neg (fun z => neg_n (by omega) z.symm)]
  intro r
  induction r with
  | zero =>
    intro m i f g L lo hi μ ν hm hf hg KC KM hiS e12 e808 e14 P R V
    obtain ⟨f, rfl⟩ : ∃ z, f = z + 1 := ⟨f - 1, by omega⟩
    obtain ⟨g, rfl⟩ : ∃ z, g = z + 1 := ⟨g - 1, by omega⟩
    have hm : m = 8 := by omega
    subst hm
    left
    obtain ⟨μa, a1, a2, a3⟩ := look_C W KC hiS
    obtain ⟨μw, w1, w2, w3⟩ := wrong_C a2
    obtain ⟨ν', n1, n2, n3⟩ := item_no W h12 KM hiS hp (Nat.le_refl 8) e14 R (Or.inr (Or.inr rfl))
    have hs := (skp_le hiS).2
    refine ⟨skp S i, μw, ν', hs, ?_, w2, (xc_fr a3 (by decide)).trans (xc_fr w3 (by decide)), ?_, n2, n3⟩
    · show Pages_readsThings_l1b (Pages_readsThings_l1 f) (nI 8) μ = _
      unfold Pages_readsThings_l1b
      rw [if_neg (by decide), a1, bS]
      simp only []
      rw [w1, bS]
      simp only []
      rw [rz_0, bS]
    · rw [n1, bS]; exact stop g ν' _ n2 hs
  | succ r ih =>
    intro m i f g L lo hi μ ν hm hf hg KC KM hiS e12 e808 e14 P R V
    obtain ⟨f, rfl⟩ : ∃ z, f = z + 1 := ⟨f - 1, by omega⟩
    obtain ⟨g, rfl⟩ : ∃ z, g = z + 1 := ⟨g - 1, by omega⟩
    have cls : ∀ x μ1, Pages_readsThing μ = some (x, μ1) → Pages_readsThings_l1 (f + 1) (nI m) μ = if x = 0 then (mRz (nI 0)).bind fun z => some (z, μ1) else (Tape_takes (nI 44) μ1).bind fun (x7, μ8) => if x7 = 0 then (mRz (nI 1)).bind fun z => some (z, μ8) else (some (nI m + nI 1)).bind fun x9 => Pages_readsThings_l1 f x9 μ8 := fun x μ1 h => by
      show Pages_readsThings_l1b (Pages_readsThings_l1 f) (nI m) μ = _
      unfold Pages_readsThings_l1b
      rw [if_pos ((lt_n (by omega) (by omega)).mpr (by omega)), h, bS]
    rcases thing_L W h12 KC KM hiS hq hp (by omega) e12 e808 e14 P R V with ⟨j, μ', ν', r1, r2, r3, r4, r5, r6, r7⟩ | ⟨t, l, h, i', μ', ν', r1, r2, r3, r4, r5, r6, r7, r8, r9, r10⟩
    · left
      refine ⟨j, μ', ν', r1, ?_, r3, r4, ?_, r6, r7⟩
      · rw [cls _ _ r2, if_pos z00, rz_0, bS]
      · rw [r5, bS]; exact stop g ν' j r6 r1
    · obtain ⟨μ2, t1, t2, t3⟩ := takes_C (c := 44) W r3 r1 (by decide)
      obtain ⟨ν2, g1, g2, g3⟩ := look_M W r7 r1
      have hs := skp_le r1
      have FC : Ft (XC q) μ μ2 := r4.trans (xc_fr t3 (by decide))
      have FM : Ft (XM p) ν ν2 := r8.trans (xm_fr g3 (by decide))
      have P2 : PgC q (m + 1) (upX L m t) (upX lo m l) (upX hi m h) μ2 := by
        unfold PgC
        rw [t3.i 702 (by decide), t3.i 703 (by decide), t3.i 704 (by decide), t3.i 705 (by decide), t3.i 706 (by decide), t3.i 707 (by decide)]
        exact r5
      have R2 : PgM p (m + 1) (upX L m t) (upX lo m l) (upX hi m h) ν2 := by
        unfold PgM
        rw [g3.i 1315 (by decide), g3.i 1316 (by decide), g3.i 1317 (by decide), g3.i 1318 (by decide)]
        exact r9
      have ref : (M_item (nI p) ν).bind (M_readPage_l1 (nI p) (g + 1)) = if lkI S i' = nI 44 then ((some (mSI ν2 1303 0 0 ((mI ν2 1303 0 0) + (nI 1)))).bind fun μ3 => (M_item (nI p) μ3).bind fun μ4 => M_readPage_l1 (nI p) g μ4) else some ν2 := by
        rw [r6, bS]
        show M_readPage_l1b (nI p) (M_readPage_l1 (nI p) g) ν' = _
        unfold M_readPage_l1b
        rw [r7.2.2, if_pos rfl, g1, bS]
      by_cases h44 : lkI S i' = nI 44
      · have hin := lk_in (by decide) h44
        rw [if_pos h44] at t1 t2 ref
        have K3 : K_M S (skp S i' + 1) (mSI ν2 1303 0 0 (nI (skp S i' + 1))) := g2.at
        have F3 : Ft (fun v r c => v = 1303) ν2 (mSI ν2 1303 0 0 (nI (skp S i' + 1))) := Ft.refl.si rfl
        have R3 : PgM p (m + 1) (upX L m t) (upX lo m l) (upX hi m h) (mSI ν2 1303 0 0 (nI (skp S i' + 1))) := ⟨(iS_v (by decide)).trans R2.1, fun k hk => ⟨(iS_v (by decide)).trans (R2.2 k hk).1, (iS_v (by decide)).trans (R2.2 k hk).2.1, (iS_v (by decide)).trans (R2.2 k hk).2.2⟩⟩
        rw [g2.2.1, add_n, bS] at ref
        have cl2 := cls _ _ r2
        rw [if_neg n10, t1, bS] at cl2
        simp only [] at cl2
        rw [if_neg n10, bS, add_n] at cl2
        rcases ih (m := m + 1) (f := f) (g := g) (by omega) (by omega) (by omega) t2 K3 (by omega) ((FC 712 0 0 (by simp [XC])).trans e12) ((FC 808 0 0 (by simp [XC])).trans e808) ((iS_v (by decide)).trans ((FM 1314 0 0 (by simp [XM])).trans e14)) P2 R3 r10 with ⟨j, μ', ν', u1, u2, u3, u4, u5, u6, u7⟩ | ⟨m', L', lo', hi', i2, μ', ν', u1, u2, u3, u4, u5, u6, u7, u8, u9, u10, u11, u12, u13⟩
        · left
          exact ⟨j, μ', ν', u1, cl2.trans u2, u3, FC.trans u4, ref.trans u5, u6, (FM.trans (F3.mono fun _ _ _ z => Or.inl z)).trans u7⟩
        · right
          exact ⟨m', L', lo', hi', i2, μ', ν', u1, u2, u3, u4, cl2.trans u5, u6, FC.trans u7, u8, ref.trans u9, u10, (FM.trans (F3.mono fun _ _ _ z => Or.inl z)).trans u11, u12, u13⟩
      · right
        rw [if_neg h44] at t1 t2 ref
        refine ⟨m + 1, _, _, _, skp S i', μ2, ν2, by omega, by omega, hs.2, skp_skp r1, ?_, t2, FC, P2, ref, g2, FM, R2, r10⟩
        rw [cls _ _ r2, if_neg n10, t1, bS]
        simp only []
        rw [if_pos z00, rz_1, bS]
/-! the acts -/
def cntF (A : Nat → Nat) (a : Nat) : Nat → Nat
  | 0 => 0
  | i + 1 => cntF A a i + (if A i = a then 1 else 0)
theorem cntF_A {S : St} {p a : Nat} : ∀ n, cntA S p a n = cntF (sN S 708 p) a n := by
  intro n
  induction n with
  | zero => rfl
  | succ n ih => show _ + _ = _ + _; rw [ih]
theorem cntF_congr {A B : Nat → Nat} {a : Nat} : ∀ {n : Nat}, (∀ i, i < n → A i = B i) → cntF A a n = cntF B a n := by
  intro n
  induction n with
  | zero => intro _; rfl
  | succ n ih => intro h; show _ + _ = _ + _; rw [ih fun i hi => h i (by omega), h n (by omega)]
theorem cntF_le {A : Nat → Nat} {a : Nat} : ∀ {n : Nat}, cntF A a n ≤ n := by
  intro n
  induction n with
  | zero => exact Nat.le_refl _
  | succ n ih =>
    show _ + _ ≤ _
    split <;> omega
def AcC (q na : Nat) (A : Nat → Nat) (μ : Mem) : Prop := mI μ 709 0 q = nI na ∧ (∀ i, i < na → mI μ 708 q i = nI (A i)) ∧ ∀ a, a < 4 → mI μ 710 q a = nI (cntF A a na)
def AcM (p na : Nat) (A : Nat → Nat) (ν : Mem) : Prop := mI ν 1319 0 p = nI na ∧ ∀ i, i < na → mI ν 1320 0 (72 * p + i) = nI (acd (A i))
def exA (A : Nat → Nat) (na a : Nat) : Nat → Nat := fun i => if i < na then A i else a
theorem exA_old {A : Nat → Nat} {na a i : Nat} (h : i < na) : exA A na a i = A i := if_pos h
theorem exA_new {A : Nat → Nat} {na a i : Nat} (h : ¬ i < na) : exA A na a i = a := if_neg h
theorem cntF_ex {A : Nat → Nat} {na a b : Nat} : ∀ x, cntF (exA A na a) b (na + x) = cntF A b na + (if a = b then x else 0) := by
  intro x
  induction x with
  | zero =>
    rw [Nat.add_zero, cntF_congr (B := A) fun i hi => exA_old hi]
    split <;> rfl
  | succ x ih =>
    show cntF (exA A na a) b (na + x) + (if exA A na a (na + x) = b then 1 else 0) = _
    rw [ih, exA_new (by omega)]
    split <;> omega
theorem putAct_C {q na a x : Nat} {A : Nat → Nat} {μ : Mem} (hq : q ≤ 16) (ha : a < 4) (hx : na + x ≤ 72) (e12 : mI μ 712 0 0 = nI q) (P : AcC q na A μ) : ∃ μ', Pages_putAct (nI a) (nI x) μ = some μ' ∧ AcC q (na + x) (exA A na a) μ' ∧ Ft (fun v r c => (v = 708 ∧ r = q) ∨ (v = 709 ∧ r = 0 ∧ c = q) ∨ (v = 710 ∧ r = q)) μ μ' := by
  obtain ⟨P1, P2, P3⟩ := P
  have hc := cntF_le (A := A) (a := a) (n := na)
  obtain ⟨μ0, hμ0⟩ : ∃ z, z = mSI μ 710 q a (nI (cntF A a na + x)) := ⟨_, rfl⟩
  have F0 : Ft (fun v r c => v = 710 ∧ r = q ∧ c = a) μ μ0 := by rw [hμ0]; exact Ft.refl.si ⟨rfl, rfl, rfl⟩
  have hl : ∃ μ', Pages_putAct_l1 (nI a) (nI x) FU (nI 0) μ0 = some μ' ∧ (∀ i, i < na + x → mI μ' 708 q i = nI (exA A na a i)) ∧ mI μ' 709 0 q = nI (na + x) ∧ Ft (fun v r c => (v = 708 ∧ r = q) ∨ (v = 709 ∧ r = 0 ∧ c = q)) μ0 μ' := by
    refine loopE (fun f v s => Pages_putAct_l1 (nI a) (nI x) f v s) x (fun k s => (∀ i, i < na + k → mI s 708 q i = nI (exA A na a i)) ∧ mI s 709 0 q = nI (na + k) ∧ Ft (fun v r c => (v = 708 ∧ r = q) ∨ (v = 709 ∧ r = 0 ∧ c = q)) μ0 s) _ ?_ ?_ x 0 μ0 FU (by omega) (FU_lt (by omega)) ⟨fun i hi => ?_, ?_, Ft.refl⟩
    · rintro f k s hk ⟨h1, h2, F⟩
      left
      have f12 : mI s 712 0 0 = nI q := (F 712 0 0 (by simp)).trans ((F0 712 0 0 (by simp)).trans e12)
      refine ⟨mSI (mSI s 708 q (na + k) (nI a)) 709 0 q (nI (na + k + 1)), ?_, fun i hi => ?_, iS_eq, (F.si (Or.inl ⟨rfl, rfl⟩)).si (Or.inr ⟨rfl, rfl, rfl⟩)⟩
      · show Pages_putAct_l1b (nI a) (nI x) (Pages_putAct_l1 (nI a) (nI x) f) (nI k) s = _
        unfold Pages_putAct_l1b
        rw [if_pos ((lt_n (by omega) (by omega)).mpr hk), f12, rd_n (by omega) (by decide), h2, bS, if_pos ((lt_n (by omega) (by omega)).mpr (by omega)), ix_n (by omega) (by decide), bS, bS, wr_n (by omega) (by decide), bS, iS_v (show (712 : Nat) ≠ 708 by decide), f12, rd_n (by omega) (by decide), iS_v (show (709 : Nat) ≠ 708 by decide), h2, bS, add_n, wr_n (by omega) (by decide), bS, bS, add_n]
      · refine (iS_v (by decide)).trans ?_
        by_cases e : i = na + k
        · subst e
          rw [exA_new (by omega)]; exact iS_eq
        · exact (iS_c e).trans (h1 i (by omega))
    · rintro f s ⟨h1, h2, F⟩
      refine ⟨s, ?_, h1, h2, F⟩
      show Pages_putAct_l1b (nI a) (nI x) (Pages_putAct_l1 (nI a) (nI x) f) (nI x) s = _
      unfold Pages_putAct_l1b
      rw [if_neg (fun z => absurd ((lt_n (by omega) (by omega)).mp z) (by omega))]
    · rw [exA_old (by omega), hμ0]; exact (iS_v (by decide)).trans (P2 i (by omega))
    · rw [hμ0]; exact (iS_v (by decide)).trans P1
  obtain ⟨μ', l1, l2, l3, l4⟩ := hl
  refine ⟨μ', ?_, ⟨l3, l2, fun b hb => ?_⟩, (F0.mono fun v r c z => Or.inr (Or.inr ⟨z.1, z.2.1⟩)).trans (l4.mono fun v r c z => z.elim Or.inl fun z => Or.inr (Or.inl z))⟩
  · unfold Pages_putAct
    rw [e12, ix_n (by omega) (by decide), bS, rd_n (by omega) (by decide), P3 a ha, bS, add_n, wr_n (by omega) (by decide), bS, ← hμ0, l1, bS]
  · rw [l4 710 q b (by simp), cntF_ex, hμ0]
    by_cases e : b = a
    · subst e; rw [if_pos rfl]; exact iS_eq
    · rw [if_neg (fun z => e z.symm)]; exact (iS_c e).trans (P3 b hb)
theorem acts2_M {p na a x : Nat} {v2 : Int32} {A : Nat → Nat} {ν : Mem} (hp : p ≤ 16) (hx : na + x ≤ 72) (P : AcM p na A ν) : ∃ ν', M_acts_l2 (nI p) v2 (nI (acd a)) (nI x) FU (nI 0) ν = some ν' ∧ AcM p (na + x) (exA A na a) ν' ∧ Ft (fun v r c => (v = 1319 ∧ r = 0 ∧ c = p) ∨ (v = 1320 ∧ r = 0 ∧ 72 * p ≤ c ∧ c < 72 * p + 72)) ν ν' := by
  refine loopE (fun f v s => M_acts_l2 (nI p) v2 (nI (acd a)) (nI x) f v s) x (fun k s => AcM p (na + k) (exA A na a) s ∧ Ft (fun v r c => (v = 1319 ∧ r = 0 ∧ c = p) ∨ (v = 1320 ∧ r = 0 ∧ 72 * p ≤ c ∧ c < 72 * p + 72)) ν s) _ ?_ ?_ x 0 ν FU (by omega) (FU_lt (by omega)) ⟨⟨P.1, fun i hi => by rw [exA_old (by omega)]; exact P.2 i (by omega)⟩, Ft.refl⟩
  · rintro f k s hk ⟨⟨h2, h1⟩, F⟩
    left
    refine ⟨mSI (mSI s 1320 0 (72 * p + (na + k)) (nI (acd a))) 1319 0 p (nI (na + k + 1)), ?_, ⟨iS_eq, fun i hi => ?_⟩, (F.si (Or.inr ⟨rfl, rfl, by omega, by omega⟩)).si (Or.inl ⟨rfl, rfl, rfl⟩)⟩
    · show M_acts_l2b (nI p) v2 (nI (acd a)) (nI x) (M_acts_l2 (nI p) v2 (nI (acd a)) (nI x) f) (nI k) s = _
      unfold M_acts_l2b
      rw [if_pos ((lt_n (by omega) (by omega)).mpr hk), rd_n (by omega) (by decide), h2, bS, mul_n, add_n, wr_n (by omega) (by decide), bS, rd_n (by omega) (by decide), iS_v (show (1319 : Nat) ≠ 1320 by decide), h2, bS, add_n, wr_n (by omega) (by decide), bS, bS, add_n]
    · refine (iS_v (by decide)).trans ?_
      by_cases e : i = na + k
      · subst e
        rw [exA_new (by omega)]; exact iS_eq
      · exact (iS_c (by omega)).trans (h1 i (by omega))
  · rintro f s ⟨h1, F⟩
    refine ⟨s, ?_, h1, F⟩
    show M_acts_l2b (nI p) v2 (nI (acd a)) (nI x) (M_acts_l2 (nI p) v2 (nI (acd a)) (nI x) f) (nI x) s = _
    unfold M_acts_l2b
    rw [if_neg (fun z => absurd ((lt_n (by omega) (by omega)).mp z) (by omega))]
theorem acts3_M {p na a x : Nat} {v2 : Int32} {A : Nat → Nat} {ν : Mem} (hp : p ≤ 16) (hx : na + x ≤ 72) (P : AcM p na A ν) : ∃ ν', M_acts_l3 (nI p) v2 (nI (acd a)) (nI x) FU (nI 0) ν = some ν' ∧ AcM p (na + x) (exA A na a) ν' ∧ Ft (fun v r c => (v = 1319 ∧ r = 0 ∧ c = p) ∨ (v = 1320 ∧ r = 0 ∧ 72 * p ≤ c ∧ c < 72 * p + 72)) ν ν' := by
  refine loopE (fun f v s => M_acts_l3 (nI p) v2 (nI (acd a)) (nI x) f v s) x (fun k s => AcM p (na + k) (exA A na a) s ∧ Ft (fun v r c => (v = 1319 ∧ r = 0 ∧ c = p) ∨ (v = 1320 ∧ r = 0 ∧ 72 * p ≤ c ∧ c < 72 * p + 72)) ν s) _ ?_ ?_ x 0 ν FU (by omega) (FU_lt (by omega)) ⟨⟨P.1, fun i hi => by rw [exA_old (by omega)]; exact P.2 i (by omega)⟩, Ft.refl⟩
  · rintro f k s hk ⟨⟨h2, h1⟩, F⟩
    left
    refine ⟨mSI (mSI s 1320 0 (72 * p + (na + k)) (nI (acd a))) 1319 0 p (nI (na + k + 1)), ?_, ⟨iS_eq, fun i hi => ?_⟩, (F.si (Or.inr ⟨rfl, rfl, by omega, by omega⟩)).si (Or.inl ⟨rfl, rfl, rfl⟩)⟩
    · show M_acts_l3b (nI p) v2 (nI (acd a)) (nI x) (M_acts_l3 (nI p) v2 (nI (acd a)) (nI x) f) (nI k) s = _
      unfold M_acts_l3b
      rw [if_pos ((lt_n (by omega) (by omega)).mpr hk), rd_n (by omega) (by decide), h2, bS, mul_n, add_n, wr_n (by omega) (by decide), bS, rd_n (by omega) (by decide), iS_v (show (1319 : Nat) ≠ 1320 by decide), h2, bS, add_n, wr_n (by omega) (by decide), bS, bS, add_n]
    · refine (iS_v (by decide)).trans ?_
      by_cases e : i = na + k
      · subst e
        rw [exA_new (by omega)]; exact iS_eq
      · exact (iS_c (by omega)).trans (h1 i (by omega))
  · rintro f s ⟨h1, F⟩
    refine ⟨s, ?_, h1, F⟩
    show M_acts_l3b (nI p) v2 (nI (acd a)) (nI x) (M_acts_l3 (nI p) v2 (nI (acd a)) (nI x) f) (nI x) s = _
    unfold M_acts_l3b
    rw [if_neg (fun z => absurd ((lt_n (by omega) (by omega)).mp z) (by omega))]
theorem act_or (x : Int32) : (Pages_actOf x = some (-1) ∧ M_isAct x = some (nI 0)) ∨ ∃ a, a < 4 ∧ x = nI (acd a) ∧ Pages_actOf x = some (nI a) ∧ M_isAct x = some (nI 1) := by
  unfold Pages_actOf M_isAct
  by_cases h1 : x = nI 66
  · right; refine ⟨0, by decide, h1, ?_, ?_⟩ <;> rw [if_pos h1]; rfl
  rw [if_neg h1, if_neg h1]
  by_cases h2 : x = nI 82
  · right; refine ⟨1, by decide, h2, ?_, ?_⟩ <;> rw [if_pos h2]; rfl
  rw [if_neg h2, if_neg h2]
  by_cases h3 : x = nI 83
  · right
    subst h3
    exact ⟨3, by decide, rfl, rfl, rfl⟩
  by_cases h4 : x = nI 84
  · right
    subst h4
    exact ⟨2, by decide, rfl, rfl, rfl⟩
  left
  rw [if_neg h3, if_neg h4, if_neg h4, if_neg h3]
  exact ⟨rfl, rfl⟩
