/-! PURE: the acts of a page that is read, and the end -/
def tailM (μ11 : Mem) : Option (Int32 × Mem) := if (mI μ11 1304 0 0) = (-1) then ((M_look μ11).bind fun (x12, μ13) => if x12 = (-1) then some ((mI μ13 1304 0 0), μ13) else (M_bad μ13).bind fun μ14 => some ((mI μ14 1304 0 0), μ14)) else some ((mI μ11 1304 0 0), μ11)
theorem acd_lt {a : Nat} : acd a < 1000 := by
  unfold acd
  split
  · omega
  · split
    · omega
    · split <;> omega
theorem tail_bad {ν : Mem} {j : Nat} (h : mI ν 1304 0 0 = nI j) (hj : j < 1000000) : tailM ν = some (nI j, ν) := by
  unfold tailM
  rw [h, if_neg (fun z => neg_n hj z.symm)]
theorem tail_M {S : St} {i : Nat} {ν : Mem} (W : W_tp S) (K : K_M S i ν) (hi : i ≤ nTp S) : (lkI S i = -1 ∧ ∃ ν', tailM ν = some (-1, ν') ∧ Fr [1303, 1304] ν ν') ∨ (¬ lkI S i = -1 ∧ ∃ ν', tailM ν = some (nI (skp S i), ν') ∧ Fr [1303, 1304] ν ν') := by
  obtain ⟨ν1, a1, a2, a3⟩ := look_M W K hi
  by_cases h : lkI S i = -1
  · refine Or.inl ⟨h, ν1, ?_, a3.mono (by simp)⟩
    unfold tailM
    rw [K.2.2, if_pos rfl, a1, bS]
    simp only []
    rw [if_pos h, a2.2.2]
  · obtain ⟨ν2, b1, b2, b3⟩ := bad_M a2
    refine Or.inr ⟨h, ν2, ?_, (a3.mono (by simp)).trans (b3.mono (by simp))⟩
    unfold tailM
    rw [K.2.2, if_pos rfl, a1, bS]
    simp only []
    rw [if_neg h, b1, bS, b2]
/-- the class at a sign that is no act -/
theorem act_badC {S : St} {i v f : Nat} {μ : Mem} (W : W_tp S) (K : K_C S i μ) (hi : i ≤ nTp S) (hv : v ≤ 8) (h1 : ¬ lkI S i = -1) (h2 : Pages_actOf (lkI S i) = some (-1)) : ∃ μ', Pages_readsActs_l1 (f + 1) (nI v) μ = some (nI 0, μ') ∧ mI μ' 1003 0 0 = nI (skp S i) ∧ Fr [1002, 1003] μ μ' := by
  obtain ⟨μ1, a1, a2, a3⟩ := look_C W K hi
  obtain ⟨μ2, w1, w2, w3⟩ := wrong_C a2
  refine ⟨μ2, ?_, w2, (a3.mono (by simp)).trans (w3.mono (by simp))⟩
  show Pages_readsActs_l1b (Pages_readsActs_l1 f) (nI v) μ = _
  unfold Pages_readsActs_l1b
  by_cases h8 : v < 8
  · rw [if_pos ((lt_n (by omega) (by omega)).mpr h8), a1, bS]
    simp only []
    unfold kj
    simp only []
    rw [if_neg h1, h2, bS, if_pos rfl, w1, bS]
    simp only []
    rw [rz_0, bS]
  · rw [if_neg (fun z => h8 ((lt_n (by omega) (by omega)).mp z)), a1, bS]
    simp only []
    rw [if_neg h1, w1, bS]
    simp only []
    rw [if_pos z00, rz_0, bS]
def XA (q v r c : Nat) : Prop := v = 1002 ∨ v = 1003 ∨ (v = 708 ∧ r = q) ∨ (v = 709 ∧ r = 0 ∧ c = q) ∨ (v = 710 ∧ r = q)
def XAM (p v r c : Nat) : Prop := v = 1303 ∨ v = 1304 ∨ (v = 1319 ∧ r = 0 ∧ c = p) ∨ (v = 1320 ∧ r = 0 ∧ 72 * p ≤ c ∧ c < 72 * p + 72)
theorem xa_fr {q : Nat} {W : List Nat} {a b : Mem} (h : Fr W a b) (hW : (W.all fun v => v == 1002 || v == 1003) = true) : Ft (XA q) a b := Ft.of h fun v hv r c => by
  have := List.all_eq_true.mp hW v hv
  simp at this
  rcases this with e | e
  · exact Or.inl e
  · exact Or.inr (Or.inl e)
theorem xam_fr {p : Nat} {W : List Nat} {a b : Mem} (h : Fr W a b) (hW : (W.all fun v => v == 1303 || v == 1304) = true) : Ft (XAM p) a b := Ft.of h fun v hv r c => by
  have := List.all_eq_true.mp hW v hv
  simp at this
  rcases this with e | e
  · exact Or.inl e
  · exact Or.inr (Or.inl e)
theorem AcC.fr {q na : Nat} {A : Nat → Nat} {W : List Nat} {μ μ' : Mem} (P : AcC q na A μ) (F : Fr W μ μ') (hW : nIn W [708, 709, 710] = true) : AcC q na A μ' := by
  have e : ∀ v, v ∈ [708, 709, 710] → mI μ' v = mI μ v := fun v hv => F.i v (nIn_of hW hv)
  unfold AcC at *
  rw [e 708 (by decide), e 709 (by decide), e 710 (by decide)]; exact P
theorem AcM.fr {p na : Nat} {A : Nat → Nat} {W : List Nat} {ν ν' : Mem} (P : AcM p na A ν) (F : Fr W ν ν') (hW : nIn W [1319, 1320] = true) : AcM p na A ν' := by
  have e : ∀ v, v ∈ [1319, 1320] → mI ν' v = mI ν v := fun v hv => F.i v (nIn_of hW hv)
  unfold AcM at *
  rw [e 1319 (by decide), e 1320 (by decide)]; exact P
theorem acts_L {S : St} {q p : Nat} (W : W_tp S) (hq : q ≤ 16) (hp : p ≤ 16) : ∀ {r v i f g na : Nat} {A : Nat → Nat} {μ ν : Mem}, v + r = 8 → r + 1 < f → r + 1 < g → na ≤ 9 * v → (∀ i, i < na → A i < 4) → K_C S i μ → K_M S i ν → i ≤ nTp S → mI μ 712 0 0 = nI q → AcC q na A μ → AcM p na A ν →
    (∃ j μ' ν', j ≤ nTp S ∧ Pages_readsActs_l1 f (nI v) μ = some (nI 0, μ') ∧ mI μ' 1003 0 0 = nI j ∧ Ft (XA q) μ μ' ∧ (M_acts_l1 (nI p) g (nI v) ν).bind tailM = some (nI j, ν') ∧ Ft (XAM p) ν ν') ∨
    ∃ na' A' μ' ν', na' ≤ 72 ∧ (∀ i, i < na' → A' i < 4) ∧ Pages_readsActs_l1 f (nI v) μ = some (nI 1, μ') ∧ mI μ' 1003 0 0 = -1 ∧ Ft (XA q) μ μ' ∧ AcC q na' A' μ' ∧ (M_acts_l1 (nI p) g (nI v) ν).bind tailM = some (-1, ν') ∧ Ft (XAM p) ν ν' ∧ AcM p na' A' ν' := by
  have hn := W.1
  intro r
  induction r with
  | zero =>
    intro v i f g na A μ ν hv hf hg hna hA KC KM hi e12 P R
    obtain ⟨f, rfl⟩ : ∃ z, f = z + 1 := ⟨f - 1, by omega⟩
    obtain ⟨g, rfl⟩ : ∃ z, g = z + 1 := ⟨g - 1, by omega⟩
    have hv : v = 8 := by omega
    subst hv
    have hs := skp_le hi
    obtain ⟨μ1, a1, a2, a3⟩ := look_C W KC hi
    obtain ⟨μ2, w1, w2, w3⟩ := wrong_C a2
    obtain ⟨ν1, b1, b2, b3⟩ := look_M W KM hi
    obtain ⟨ν2, d1, d2, d3⟩ := bad_M b2
    have ref : M_acts_l1 (nI p) (g + 1) (nI 8) ν = (M_isAct (lkI S i)).bind fun x4 => if x4 = 0 then (if nI 8 = 0 then (M_bad ν1).bind fun μ5 => some μ5 else some ν1) else if nI 8 = (nI 8) then (M_bad ν1).bind fun μ18 => some μ18 else (some (nI 8 + (nI 1))).bind fun x6 => (M_here ν1).bind fun x7 => (some (mSI ν1 1303 0 0 ((mI ν1 1303 0 0) + (nI 1)))).bind fun μ8 => (M_look μ8).bind fun (x9, μ10) => (M_isDigit x9).bind fun x11 => if x11 = 0 then ((M_acts_l2 (nI p) x6 x7 (nI 1) FU (nI 0) μ10).bind fun μ12 => M_acts_l1 (nI p) g x6 μ12) else (M_here μ10).bind fun x13 => (some (x13 - (nI 48))).bind fun x14 => if x14 = 0 then ((M_bad μ10).bind fun μ17 => some μ17) else (some (mSI μ10 1303 0 0 ((mI μ10 1303 0 0) + (nI 1)))).bind fun μ15 => (M_acts_l3 (nI p) x6 x7 x14 FU (nI 0) μ15).bind fun μ16 => M_acts_l1 (nI p) g x6 μ16 := by
      show M_acts_l1b (nI p) (M_acts_l1 (nI p) g) (nI 8) ν = _
      unfold M_acts_l1b
      rw [KM.2.2, if_pos rfl, b1, bS]
    rcases act_or (lkI S i) with ⟨h1, h2⟩ | ⟨a, ha, h1, h2, h3⟩
    · rw [h2, bS, if_pos z00, if_neg (by decide)] at ref
      rcases tail_M W b2 hs.2 with ⟨t1, ν3, t2, t3⟩ | ⟨t1, ν3, t2, t3⟩
      · rw [lk_lk hi] at t1
        right
        refine ⟨na, A, μ1, ν3, by omega, hA, ?_, a2.2.2, xa_fr a3 (by decide), P.fr a3 (by decide), ?_, (xam_fr b3 (by decide)).trans (xam_fr t3 (by decide)), (R.fr b3 (by decide)).fr t3 (by decide)⟩
        · show Pages_readsActs_l1b (Pages_readsActs_l1 f) (nI 8) μ = _
          unfold Pages_readsActs_l1b
          rw [if_neg (by decide), a1, bS]
          simp only []
          rw [if_pos t1, rz_1, bS]
        · rw [ref, bS]; exact t2
      · rw [lk_lk hi, skp_skp hi] at *
        left
        obtain ⟨μ3, c1, c2, c3⟩ := act_badC (f := f) (v := 8) W KC hi (Nat.le_refl 8) t1 h1
        refine ⟨skp S i, μ3, ν3, hs.2, c1, c2, xa_fr c3 (by decide), ?_, (xam_fr b3 (by decide)).trans (xam_fr t3 (by decide))⟩
        rw [ref, bS]; exact t2
    · left
      rw [h3, bS, if_neg n10, if_pos rfl, d1, bS] at ref
      have hne : ¬ lkI S i = -1 := fun z => neg_n (c := acd a) (by have := acd_lt (a := a); omega) (by rw [← z]; exact h1)
      refine ⟨skp S i, μ2, ν2, hs.2, ?_, w2, (xa_fr a3 (by decide)).trans (xa_fr w3 (by decide)), ?_, (xam_fr b3 (by decide)).trans (xam_fr d3 (by decide))⟩
      · show Pages_readsActs_l1b (Pages_readsActs_l1 f) (nI 8) μ = _
        unfold Pages_readsActs_l1b
        rw [if_neg (by decide), a1, bS]
        simp only []
        rw [if_neg hne, w1, bS]
        simp only []
        rw [if_pos z00, rz_0, bS]
      · rw [ref, bS]; exact tail_bad d2 (by omega)
  | succ r ih =>
    intro v i f g na A μ ν hv hf hg hna hA KC KM hi e12 P R
    obtain ⟨f, rfl⟩ : ∃ z, f = z + 1 := ⟨f - 1, by omega⟩
    obtain ⟨g, rfl⟩ : ∃ z, g = z + 1 := ⟨g - 1, by omega⟩
    have hs := skp_le hi
    obtain ⟨μ1, a1, a2, a3⟩ := look_C W KC hi
    obtain ⟨ν1, b1, b2, b3⟩ := look_M W KM hi
    have cls : Pages_readsActs_l1 (f + 1) (nI v) μ = kj (fun (_ : Unit) => (Pages_actOf (lkI S i)).bind fun x8 => if x8 = (-1) then ((Tape_wrongHere μ1).bind fun (x21, μ22) => (mRz x21).bind fun z => some (z, μ22)) else (Tape_step μ1).bind fun μ9 => (Tape_look μ9).bind fun (x10, μ11) => (B_isWithin x10 (nI 49) (nI 57)).bind fun x12 => (if x12 = 0 then some ((nI 1), μ11) else (Tape_look μ11).bind fun (x13, μ14) => (some (x13 - (nI 48))).bind fun x15 => (Tape_step μ14).bind fun μ16 => some (x15, μ16)).bind fun (x17, μ18) => (Pages_putAct x8 x17 μ18).bind fun μ19 => (some (nI v + (nI 1))).bind fun x20 => Pages_readsActs_l1 f x20 μ19) (fun k7 => if lkI S i = (-1) then (if 0 < nI v then (mRz (nI 1)).bind fun z => some (z, μ1) else k7 ()) else k7 ()) := by
      show Pages_readsActs_l1b (Pages_readsActs_l1 f) (nI v) μ = _
      unfold Pages_readsActs_l1b
      rw [if_pos ((lt_n (by omega) (by omega)).mpr (by omega)), a1, bS]
    have ref : M_acts_l1 (nI p) (g + 1) (nI v) ν = (M_isAct (lkI S i)).bind fun x4 => if x4 = 0 then (if nI v = 0 then (M_bad ν1).bind fun μ5 => some μ5 else some ν1) else if nI v = (nI 8) then (M_bad ν1).bind fun μ18 => some μ18 else (some (nI v + (nI 1))).bind fun x6 => (M_here ν1).bind fun x7 => (some (mSI ν1 1303 0 0 ((mI ν1 1303 0 0) + (nI 1)))).bind fun μ8 => (M_look μ8).bind fun (x9, μ10) => (M_isDigit x9).bind fun x11 => if x11 = 0 then ((M_acts_l2 (nI p) x6 x7 (nI 1) FU (nI 0) μ10).bind fun μ12 => M_acts_l1 (nI p) g x6 μ12) else (M_here μ10).bind fun x13 => (some (x13 - (nI 48))).bind fun x14 => if x14 = 0 then ((M_bad μ10).bind fun μ17 => some μ17) else (some (mSI μ10 1303 0 0 ((mI μ10 1303 0 0) + (nI 1)))).bind fun μ15 => (M_acts_l3 (nI p) x6 x7 x14 FU (nI 0) μ15).bind fun μ16 => M_acts_l1 (nI p) g x6 μ16 := by
      show M_acts_l1b (nI p) (M_acts_l1 (nI p) g) (nI v) ν = _
      unfold M_acts_l1b
      rw [KM.2.2, if_pos rfl, b1, bS]
    unfold kj at cls
    simp only [] at cls
    rcases act_or (lkI S i) with ⟨h1, h2⟩ | ⟨a, ha, h1, h2, h3⟩
    · rw [h2, bS, if_pos z00] at ref
      by_cases h0 : v = 0
      · left
        obtain ⟨ν2, d1, d2, d3⟩ := bad_M b2
        obtain ⟨μ2, w1, w2, w3⟩ := wrong_C a2
        rw [if_pos ((eq0_n (by omega)).mpr h0), d1, bS] at ref
        refine ⟨skp S i, μ2, ν2, hs.2, ?_, w2, (xa_fr a3 (by decide)).trans (xa_fr w3 (by decide)), ?_, (xam_fr b3 (by decide)).trans (xam_fr d3 (by decide))⟩
        · rw [cls, h1, bS, if_pos rfl, w1, bS]
          simp only []
          rw [rz_0, bS, if_neg (c := 0 < nI v) (fun z => absurd ((gt0_n (by omega)).mp z) (by omega))]
          split <;> rfl
        · rw [ref, bS]; exact tail_bad d2 (by omega)
      · rw [if_neg (fun z => h0 ((eq0_n (by omega)).mp z))] at ref
        rcases tail_M W b2 hs.2 with ⟨t1, ν3, t2, t3⟩ | ⟨t1, ν3, t2, t3⟩
        · rw [lk_lk hi] at t1
          right
          refine ⟨na, A, μ1, ν3, by omega, hA, ?_, a2.2.2, xa_fr a3 (by decide), P.fr a3 (by decide), ?_, (xam_fr b3 (by decide)).trans (xam_fr t3 (by decide)), (R.fr b3 (by decide)).fr t3 (by decide)⟩
          · rw [cls, if_pos t1, if_pos ((gt0_n (by omega)).mpr (by omega)), rz_1, bS]
          · rw [ref, bS]; exact t2
        · rw [lk_lk hi, skp_skp hi] at *
          left
          obtain ⟨μ3, c1, c2, c3⟩ := act_badC (f := f) (v := v) W KC hi (by omega) t1 h1
          refine ⟨skp S i, μ3, ν3, hs.2, c1, c2, xa_fr c3 (by decide), ?_, (xam_fr b3 (by decide)).trans (xam_fr t3 (by decide))⟩
          rw [ref, bS]; exact t2
    · have hac := acd_lt (a := a)
      have hne : ¬ lkI S i = -1 := fun z => neg_n (c := acd a) (by omega) (by rw [← z]; exact h1)
      have hin := lk_in (by omega) h1
      obtain ⟨μ2, s1, s2, s3⟩ := step_C W a2 hin
      obtain ⟨μ3, l1, l2, l3⟩ := look_C W s2 (show skp S i + 1 ≤ nTp S by omega)
      have K2 : K_M S (skp S i + 1) (mSI ν1 1303 0 0 (nI (skp S i + 1))) := b2.at
      obtain ⟨ν3, m1, m2, m3⟩ := look_M W K2 (show skp S i + 1 ≤ nTp S by omega)
      obtain ⟨u, hu⟩ : ∃ u, u = skp S (skp S i + 1) := ⟨_, rfl⟩
      have hun : u ≤ nTp S := by rw [hu]; exact (skp_le (by omega)).2
      have huu : skp S u = u := by rw [hu]; exact skp_skp (by omega)
      have hlu : lkI S (skp S i + 1) = hrI S u := by rw [hu]; rfl
      rw [hlu] at l1 m1
      rw [← hu] at l2 m2
      have F3 : Fr [1002] μ μ3 := (a3.trans s3).trans l3
      have G3 : Fr [1303] ν ν3 := b3.trans ((fr_si (by simp) Fr.refl).trans m3)
      rw [if_neg hne, h2, bS, if_neg (fun z => neg_n (by omega) z.symm), s1, bS, l1, bS] at cls
      simp only [] at cls
      rw [h3, bS, if_neg n10, if_neg (fun z => absurd ((eq_n (by omega) (by omega)).mp z) (by omega)), bS, here_M W b2 (by omega), bS, show hrI S (skp S i) = nI (acd a) from h1, b2.2.1, add_n, bS, m1, bS] at ref
      simp only [] at ref
      rw [add_n] at cls ref
      have f12 : mI μ3 712 0 0 = nI q := by rw [F3.i 712 (by decide)]; exact e12
      -- go on with x acts put, at cursor w
      have go : ∀ x w μ4 ν4, 1 ≤ x → x ≤ 9 → w ≤ nTp S → K_C S w μ4 → Fr [1002] μ μ4 → K_M S w ν4 → Fr [1303] ν ν4 → ∀ ca ra, ca = ((Pages_putAct (nI a) (nI x) μ4).bind fun μ19 => (some (nI (v + 1))).bind fun x20 => Pages_readsActs_l1 f x20 μ19) → (ra = ((M_acts_l2 (nI p) (nI (v + 1)) (nI (acd a)) (nI x) FU (nI 0) ν4).bind fun μ12 => M_acts_l1 (nI p) g (nI (v + 1)) μ12) ∨ ra = ((M_acts_l3 (nI p) (nI (v + 1)) (nI (acd a)) (nI x) FU (nI 0) ν4).bind fun μ12 => M_acts_l1 (nI p) g (nI (v + 1)) μ12)) →
          (∃ j μ' ν', j ≤ nTp S ∧ ca = some (nI 0, μ') ∧ mI μ' 1003 0 0 = nI j ∧ Ft (XA q) μ μ' ∧ ra.bind tailM = some (nI j, ν') ∧ Ft (XAM p) ν ν') ∨ ∃ na' A' μ' ν', na' ≤ 72 ∧ (∀ i, i < na' → A' i < 4) ∧ ca = some (nI 1, μ') ∧ mI μ' 1003 0 0 = -1 ∧ Ft (XA q) μ μ' ∧ AcC q na' A' μ' ∧ ra.bind tailM = some (-1, ν') ∧ Ft (XAM p) ν ν' ∧ AcM p na' A' ν' := by
        intro x w μ4 ν4 hx1 hx9 hw KC4 F4 KM4 G4 ca ra hca hra
        obtain ⟨μ5, p1, p2, p3⟩ := putAct_C (a := a) (x := x) hq ha (by omega) (by rw [F4.i 712 (by decide)]; exact e12) (P.fr F4 (by decide))
        have KC5 : K_C S w μ5 := KC4.ft p3 (fun r c => by simp)
        have e12' : mI μ5 712 0 0 = nI q := (p3 712 0 0 (by simp)).trans (by rw [F4.i 712 (by decide)]; exact e12)
        have FC5 : Ft (XA q) μ μ5 := (xa_fr F4 (by decide)).trans (p3.mono fun v r c z => Or.inr (Or.inr z))
        rw [p1, bS, bS] at hca
        have hA' : ∀ i, i < na + x → exA A na a i < 4 := fun i hi => by
          by_cases e : i < na
          · rw [exA_old e]; exact hA i e
          · rw [exA_new e]; exact ha
        have refx : ∃ ν5, ra = M_acts_l1 (nI p) g (nI (v + 1)) ν5 ∧ AcM p (na + x) (exA A na a) ν5 ∧ Ft (fun v r c => (v = 1319 ∧ r = 0 ∧ c = p) ∨ (v = 1320 ∧ r = 0 ∧ 72 * p ≤ c ∧ c < 72 * p + 72)) ν4 ν5 := by
          rcases hra with h | h
          · obtain ⟨ν5, q1, q2, q3⟩ := acts2_M (a := a) (x := x) (v2 := nI (v + 1)) hp (by omega) (R.fr G4 (by decide))
            rw [q1, bS] at h
            exact ⟨ν5, h, q2, q3⟩
          · obtain ⟨ν5, q1, q2, q3⟩ := acts3_M (a := a) (x := x) (v2 := nI (v + 1)) hp (by omega) (R.fr G4 (by decide))
            rw [q1, bS] at h
            exact ⟨ν5, h, q2, q3⟩
        obtain ⟨ν5, q1, q2, q3⟩ := refx
        have KM5 : K_M S w ν5 := KM4.ft q3 (fun r c => by simp)
        have FM5 : Ft (XAM p) ν ν5 := (xam_fr G4 (by decide)).trans (q3.mono fun v r c z => Or.inr (Or.inr z))
        rw [hca, q1]
        rcases ih (v := v + 1) (f := f) (g := g) (na := na + x) (by omega) (by omega) (by omega) (by omega) hA' KC5 KM5 hw e12' p2 q2 with ⟨j, μ', ν', u1, u2, u3, u4, u5, u6⟩ | ⟨na', A', μ', ν', u1, u2, u3, u4, u5, u6, u7, u8, u9⟩
        · exact Or.inl ⟨j, μ', ν', u1, u2, u3, FC5.trans u4, u5, FM5.trans u6⟩
        · exact Or.inr ⟨na', A', μ', ν', u1, u2, u3, u4, FC5.trans u5, u6, u7, FM5.trans u8, u9⟩
      cases hd : dgN S u with
      | none =>
        have ed := dg_no W hd
        have ew : B_isWithin (hrI S u) (nI 49) (nI 57) = some (nI 0) := by
          rcases in_nat (hrI S u) 49 57 (by decide) (by decide) with h | ⟨k, k1, k2, k3, k4⟩
          · exact h
          · exfalso
            rw [k3] at ed
            have : B_isDigit (nI k) = some (nI 1) := in_num (by omega) (by omega) (by omega)
            rw [this] at ed
            exact absurd (Option.some.inj ed) (by decide)
        rw [ew, bS, if_pos z00, bS] at cls
        simp only [] at cls
        rw [dig_M, ed, bS, if_pos z00] at ref
        exact go 1 u μ3 ν3 (Nat.le_refl 1) (by decide) hun l2 F3 m2 G3 _ _ cls (Or.inl ref)
      | some d =>
        obtain ⟨g1, g2, g3, g4, g5⟩ := dg_at hd
        rw [dig_M, g5, bS, if_neg n10, here_M W m2 (by omega), bS, g4, sub_n (by omega), bS, show 48 + d - 48 = d by omega] at ref
        by_cases h0 : d = 0
        · subst h0
          left
          have ew : B_isWithin (hrI S u) (nI 49) (nI 57) = some (nI 0) := by rw [g4]; rfl
          rw [ew, bS, if_pos z00, bS] at cls
          simp only [] at cls
          obtain ⟨ν4, d1, d2, d3⟩ := bad_M m2
          rw [if_pos z00, d1, bS] at ref
          obtain ⟨μ5, p1, p2, p3⟩ := putAct_C (a := a) (x := 1) hq ha (by omega) f12 (P.fr F3 (by decide))
          have KC5 : K_C S u μ5 := l2.ft p3 (fun r c => by simp)
          rw [p1, bS, bS] at cls
          obtain ⟨f, rfl⟩ : ∃ z, f = z + 1 := ⟨f - 1, by omega⟩
          have hlu2 : lkI S u = nI 48 := by unfold lkI; rw [huu]; exact g4
          obtain ⟨μ6, c1, c2, c3⟩ := act_badC (f := f) (v := v + 1) W KC5 hun (by omega) (by rw [hlu2]; decide) (by rw [hlu2]; rfl)
          rw [huu] at c2
          refine ⟨u, μ6, ν4, hun, cls.trans c1, c2, ((xa_fr F3 (by decide)).trans (p3.mono fun v r c z => Or.inr (Or.inr z))).trans (xa_fr c3 (by decide)), ?_, (xam_fr G3 (by decide)).trans (xam_fr d3 (by decide))⟩
          rw [ref, bS]; exact tail_bad d2 (by omega)
        · have ew : B_isWithin (hrI S u) (nI 49) (nI 57) = some (nI 1) := by rw [g4]; exact in_num (by omega) (by omega) (by omega)
          obtain ⟨μ4, l4, l5, l6⟩ := look_C W l2 hun
          rw [show lkI S u = hrI S u by unfold lkI; rw [huu], g4] at l4
          rw [huu] at l5
          obtain ⟨μ5, s4, s5, s6⟩ := step_C W l5 g1
          rw [ew, bS, if_neg n10, l4, bS] at cls
          simp only [] at cls
          rw [sub_n (by omega), show 48 + d - 48 = d by omega, bS, s4, bS, bS] at cls
          simp only [] at cls
          rw [if_neg (fun z => h0 ((eq0_n (by omega)).mp z)), m2.2.1, add_n, bS] at ref
          exact go d (u + 1) μ5 _ (by omega) g2 (by omega) s5 ((F3.trans l6).trans s6) m2.at (G3.trans (fr_si (by simp) Fr.refl)) _ _ cls (Or.inr ref)
