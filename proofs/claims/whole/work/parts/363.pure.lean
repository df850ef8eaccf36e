/-! PURE: sums and products of a law that is read, in both -/
def gC (c1 c2 s1 s2 : Nat) (r : Mem → Option (Int32 × Mem)) (rec : Int32 → Mem → Option (Int32 × Mem)) (v2 : Int32) (μ : Mem) : Option (Int32 × Mem) :=
  if v2 < (nI 120) then ((Tape_look μ).bind fun (x3, μ4) => kj (fun (_ : Unit) => (Tape_step μ4).bind fun μ6 => (r μ6).bind fun (x7, μ8) => if x7 = 0 then (mRz (nI 0)).bind fun z => some (z, μ8) else (if x3 = (nI c1) then some (nI s1) else some (nI s2)).bind fun x9 => (Laws_emit x9 μ8).bind fun μ10 => (some (v2 + (nI 1))).bind fun x11 => rec x11 μ10) fun k5 => if x3 = (nI c1) then k5 () else if x3 = (nI c2) then k5 () else (mRz (nI 1)).bind fun z => some (z, μ4)) else (Tape_wrongHere μ).bind fun (x1, μ2) => (mRz x1).bind fun z => some (z, μ2)
def gCl (c1 c2 s1 s2 : Nat) (r : Mem → Option (Int32 × Mem)) : Nat → Int32 → Mem → Option (Int32 × Mem)
  | 0 => fun _ _ => none
  | n + 1 => gC c1 c2 s1 s2 r (gCl c1 c2 s1 s2 r n)
def gM (c1 c2 k1 k2 : Nat) (r : Mem → Option Mem) (rec : Int32 → Mem → Option Mem) (v1 : Int32) (μ : Mem) : Option Mem :=
  kj (fun (_ : Unit) => (some (mSI μ 1303 0 0 ((mI μ 1303 0 0) + (nI 1)))).bind fun μ2 => (r μ2).bind fun μ3 => (if v1 = (nI c1) then some (nI k1) else some (nI k2)).bind fun x4 => (M_put x4 (nI 0) μ3).bind fun μ5 => (if (mI μ5 1304 0 0) = (-1) then ((M_look μ5).bind fun (x6, μ7) => some (x6, μ7)) else some (((-1) : Int32), μ5)).bind fun (x8, μ9) => rec x8 μ9) fun k1 => if v1 = (nI c1) then k1 () else if v1 = (nI c2) then k1 () else some μ
def gMl (c1 c2 k1 k2 : Nat) (r : Mem → Option Mem) : Nat → Int32 → Mem → Option Mem
  | 0 => fun _ _ => none
  | n + 1 => gM c1 c2 k1 k2 r (gMl c1 c2 k1 k2 r n)
theorem sumC_g {rT : Int32 → Mem → Option (Int32 × Mem)} {a : Int32} : ∀ n, LawReader_sum_l1 rT a n = gCl 43 45 10100 10101 (rT a) n := by
  intro n
  induction n with
  | zero => rfl
  | succ n ih => show LawReader_sum_l1b rT a (LawReader_sum_l1 rT a n) = gC 43 45 10100 10101 (rT a) (gCl 43 45 10100 10101 (rT a) n); rw [ih]; rfl
theorem termC_g {rT : Int32 → Mem → Option (Int32 × Mem)} {a : Int32} : ∀ n, LawReader_term_l1 rT a n = gCl 42 47 10102 10103 (rT a) n := by
  intro n
  induction n with
  | zero => rfl
  | succ n ih => show LawReader_term_l1b rT a (LawReader_term_l1 rT a n) = gC 42 47 10102 10103 (rT a) (gCl 42 47 10102 10103 (rT a) n); rw [ih]; rfl
theorem sumM1_g {rT : Mem → Option Mem} : ∀ n, M_sum_l1 rT n = gMl 43 45 2 3 rT n := by
  intro n
  induction n with
  | zero => rfl
  | succ n ih => show M_sum_l1b rT (M_sum_l1 rT n) = gM 43 45 2 3 rT (gMl 43 45 2 3 rT n); rw [ih]; rfl
theorem sumM2_g {rT : Mem → Option Mem} : ∀ n, M_sum_l2 rT n = gMl 43 45 2 3 rT n := by
  intro n
  induction n with
  | zero => rfl
  | succ n ih => show M_sum_l2b rT (M_sum_l2 rT n) = gM 43 45 2 3 rT (gMl 43 45 2 3 rT n); rw [ih]; rfl
theorem termM1_g {rT : Mem → Option Mem} : ∀ n, M_term_l1 rT n = gMl 42 47 4 5 rT n := by
  intro n
  induction n with
  | zero => rfl
  | succ n ih => show M_term_l1b rT (M_term_l1 rT n) = gM 42 47 4 5 rT (gMl 42 47 4 5 rT n); rw [ih]; rfl
theorem termM2_g {rT : Mem → Option Mem} : ∀ n, M_term_l2 rT n = gMl 42 47 4 5 rT n := by
  intro n
  induction n with
  | zero => rfl
  | succ n ih => show M_term_l2b rT (M_term_l2 rT n) = gM 42 47 4 5 rT (gMl 42 47 4 5 rT n); rw [ih]; rfl
theorem gM_stop {c1 c2 k1 k2 g : Nat} {r : Mem → Option Mem} {x : Int32} {ν : Mem} (h1 : ¬ x = nI c1) (h2 : ¬ x = nI c2) : gMl c1 c2 k1 k2 r (g + 1) x ν = some ν := by
  show gM c1 c2 k1 k2 r (gMl c1 c2 k1 k2 r g) x ν = _
  unfold gM kj
  simp only []
  rw [if_neg h1, if_neg h2]
/-- both loops over the signs of a sum or a product -/
theorem bin_L {S : St} {l p dep d d2 c1 c2 s1 s2 k1 k2 : Nat} {rB : Mem → Option (Int32 × Mem)} {rM : Mem → Option Mem} (W : W_tp S) (hl : l < 7) (hp : p < 7) (hr : Lock S l p dep d2 false rB rM) (hd2 : d2 + 1 ≤ d) (hd : 2 ≤ d) (hc1 : c1 < 256) (hc2 : c2 < 256) (hs1 : vbn s1 ∧ s1 < 10107) (hs2 : vbn s2 ∧ s2 < 10107) (hk1 : cdM s1 = k1 ∧ vlM s1 = 0) (hk2 : cdM s2 = k2 ∧ vlM s2 = 0) :
    ∀ {m i v f g : Nat} {X Y c : List Nat} {μ ν : Mem}, i + m = nTp S → v + 1 ≤ i → m < f → m < g → K_C S i μ → K_M S (skp S i) ν → mI μ 504 0 0 = nI l → mI ν 1331 0 0 = nI p → mI ν 1305 0 0 = nI dep → LC l (X ++ c) μ → LM p (Y ++ c) ν → X.length + c.length ≤ i → Y.length + c.length ≤ i → Frag d false c →
    (∃ j μ' ν', j ≤ nTp S ∧ gCl c1 c2 s1 s2 rB f (nI v) μ = some (nI 0, μ') ∧ mI μ' 1003 0 0 = nI j ∧ Ft (XL l) μ μ' ∧ gMl c1 c2 k1 k2 rM g (lkI S i) ν = some ν' ∧ FM p j ν' ∧ Ft (XLM p) ν ν') ∨
    ∃ c' i' μ' ν', Frag d false c' ∧ i + c'.length ≤ i' + c.length ∧ i' ≤ nTp S ∧ gCl c1 c2 s1 s2 rB f (nI v) μ = some (nI 1, μ') ∧ K_C S i' μ' ∧ LC l (X ++ c') μ' ∧ Ft (XL l) μ μ' ∧ gMl c1 c2 k1 k2 rM g (lkI S i) ν = some ν' ∧ K_M S i' ν' ∧ mI ν' 1305 0 0 = nI dep ∧ LM p (Y ++ c') ν' ∧ Ft (XLM p) ν ν' := by
  have hn := W.1
  intro m
  induction m using Nat.strongRecOn with
  | ind m ih =>
    intro i v f g X Y c μ ν hm hv hf hg KC KM e4 e31 e5 hX hY hXi hYi hF
    obtain ⟨f, rfl⟩ : ∃ z, f = z + 1 := ⟨f - 1, by omega⟩
    obtain ⟨g, rfl⟩ : ∃ z, g = z + 1 := ⟨g - 1, by omega⟩
    have hi : i ≤ nTp S := by omega
    have hsk := skp_le hi
    obtain ⟨μ1, a1, a2, a3⟩ := look_C W KC hi
    by_cases hop : lkI S i = nI c1 ∨ lkI S i = nI c2
    · have hin : skp S i < nTp S := by
        rcases hop with h | h
        · exact lk_in (by omega) h
        · exact lk_in (by omega) h
      obtain ⟨μ2, b1, b2, b3⟩ := step_C W a2 hin
      have K2 : K_M S (skp S i + 1) (mSI ν 1303 0 0 (nI (skp S i + 1))) := KM.at
      have F2 : Fr [1303] ν (mSI ν 1303 0 0 (nI (skp S i + 1))) := fr_si (by simp) Fr.refl
      -- the step's sign
      obtain ⟨s, k, hs, hk, esC, esM⟩ : ∃ s k, (vbn s ∧ s < 10107) ∧ (cdM s = k ∧ vlM s = 0) ∧ (if lkI S i = nI c1 then some (nI s1) else some (nI s2)) = some (nI s) ∧ (if lkI S i = nI c1 then some (nI k1) else some (nI k2)) = some (nI k) := by
        by_cases h : lkI S i = nI c1
        · exact ⟨s1, k1, hs1, hk1, if_pos h, if_pos h⟩
        · exact ⟨s2, k2, hs2, hk2, if_neg h, if_neg h⟩
      have cls : gCl c1 c2 s1 s2 rB (f + 1) (nI v) μ = (rB μ2).bind fun (x7, μ8) => if x7 = 0 then (mRz (nI 0)).bind fun z => some (z, μ8) else (Laws_emit (nI s) μ8).bind fun μ10 => gCl c1 c2 s1 s2 rB f (nI (v + 1)) μ10 := by
        show gC c1 c2 s1 s2 rB (gCl c1 c2 s1 s2 rB f) (nI v) μ = _
        unfold gC kj
        rw [if_pos ((lt_n (by omega) (by omega)).mpr (show v < 120 by omega)), a1, bS]
        simp only []
        rw [b1, bS, esC]
        rcases hop with h | h
        · rw [if_pos h]; simp only [bS, add_n]
        · by_cases h' : lkI S i = nI c1
          · rw [if_pos h']; simp only [bS, add_n]
          · rw [if_neg h', if_pos h]; simp only [bS, add_n]
      have ref : gMl c1 c2 k1 k2 rM (g + 1) (lkI S i) ν = (rM (mSI ν 1303 0 0 (nI (skp S i + 1)))).bind fun μ3 => (M_put (nI k) (nI 0) μ3).bind fun μ5 => (if (mI μ5 1304 0 0) = (-1) then ((M_look μ5).bind fun (x6, μ7) => some (x6, μ7)) else some (((-1) : Int32), μ5)).bind fun (x8, μ9) => gMl c1 c2 k1 k2 rM g x8 μ9 := by
        show gM c1 c2 k1 k2 rM (gMl c1 c2 k1 k2 rM g) (lkI S i) ν = _
        unfold gM kj
        simp only []
        rw [KM.2.1, add_n, bS, esM]
        rcases hop with h | h
        · rw [if_pos h]; simp only [bS]
        · by_cases h' : lkI S i = nI c1
          · rw [if_pos h']; simp only [bS]
          · rw [if_neg h', if_pos h]; simp only [bS]
      rcases hr (skp S i + 1) (X ++ c) (Y ++ c) μ2 _ b2 K2 (by omega) (by rw [b3.i 504 (by decide), a3.i 504 (by decide)]; exact e4) (by rw [F2.i 1331 (by decide)]; exact e31) (by rw [F2.i 1305 (by decide)]; exact e5) ((hX.fr a3 (by decide)).fr b3 (by decide)) (hY.fr F2 (by decide)) (by rw [List.length_append]; omega) (by rw [List.length_append]; omega) with ⟨j, μ', ν', r1, r2, r3, r4, r5, r6, r7⟩ | ⟨c', i', μ', ν', r1, r2, r3, r4, r5, r6, r7, r8, r9, r10, r11, r12⟩
      · left
        obtain ⟨ν4, y1, y2, y3⟩ := put_F (x := nI k) (y := nI 0) hp r6
        obtain ⟨g', rfl⟩ : ∃ z, g = z + 1 := ⟨g - 1, by omega⟩
        rw [r2, bS] at cls
        simp only [] at cls
        rw [if_pos z00, rz_0, bS] at cls
        rw [r5, bS, y1, bS, y2.1, if_neg (fun z => neg_n (by omega) z.symm), bS] at ref
        simp only [] at ref
        rw [gM_stop (neg_n (by omega)) (neg_n (by omega))] at ref
        exact ⟨j, μ', ν4, r1, cls, r3, ((xl_fr a3 (by decide)).trans (xl_fr b3 (by decide))).trans r4, ref, y2, ((xlm_fr F2 (by decide)).trans r7).trans (y3.mono fun v r c => pt_XLM)⟩
      · have hlenX : (X ++ c ++ c').length < 120 := by rw [List.length_append, List.length_append]; omega
        have hlenY : (Y ++ c ++ c').length < 260 := by rw [List.length_append, List.length_append]; omega
        obtain ⟨μ3, m1, m2, m3⟩ := emit_C (s := s) hl hlenX (show mI μ' 504 0 0 = nI l by rw [xl4 r7, b3.i 504 (by decide), a3.i 504 (by decide)]; exact e4) r6
        obtain ⟨ν3, p1, p2, p3⟩ := put_M (s := s) hp hlenY (show mI ν' 1331 0 0 = nI p by rw [xlm31 r12, F2.i 1331 (by decide)]; exact e31) r11
        rw [hk.1, hk.2] at p1
        have KC3 : K_C S i' μ3 := r5.ft m3 (fun r c => by omega)
        have KM3 : K_M S i' ν3 := r9.ft p3 (fun r c => by unfold XPt; omega)
        obtain ⟨ν4, q1, q2, q3⟩ := look_M W KM3 r3
        rw [r4, bS] at cls
        simp only [] at cls
        rw [if_neg n10, m1, bS] at cls
        rw [r8, bS, p1, bS, KM3.2.2, if_pos rfl, q1, bS] at ref
        simp only [] at ref
        rw [bS] at ref
        simp only [] at ref
        have FC3 : Ft (XL l) μ μ3 := (((xl_fr a3 (by decide)).trans (xl_fr b3 (by decide))).trans r7).trans (m3.mono fun v r c => em_XL)
        have FM4 : Ft (XLM p) ν ν4 := (((xlm_fr F2 (by decide)).trans r12).trans (p3.mono fun v r c => pt_XLM)).trans (xlm_fr q3 (by decide))
        have hF' : Frag d false (c ++ (c' ++ [s])) := Frag_bin hF r1 hs.1 (Nat.le_refl _) hd2 hd (fun z => nomatch z) (fun z => absurd z (by omega))
        have hlen : (c ++ (c' ++ [s])).length = c.length + c'.length + 1 := by rw [List.length_append, List.length_append, List.length_singleton]; omega
        rw [show X ++ c ++ c' ++ [s] = X ++ (c ++ (c' ++ [s])) by simp [List.append_assoc]] at m2
        rw [show Y ++ c ++ c' ++ [s] = Y ++ (c ++ (c' ++ [s])) by simp [List.append_assoc]] at p2
        rcases ih (nTp S - i') (by omega) (i := i') (v := v + 1) (f := f) (g := g) (X := X) (Y := Y) (by omega) (by omega) (by omega) (by omega) KC3 q2 (by rw [xl4 FC3]; exact e4) (by rw [xlm31 FM4]; exact e31) (by rw [q3.i 1305 (by decide), p3 1305 0 0 (by unfold XPt; omega)]; exact r10) m2 (p2.fr q3 (by decide)) (by omega) (by omega) hF' with ⟨j, μ5, ν5, t1, t2, t3, t4, t5, t6, t7⟩ | ⟨c5, i5, μ5, ν5, t1, t2, t3, t4, t5, t6, t7, t8, t9, t10, t11, t12⟩
        · left
          exact ⟨j, μ5, ν5, t1, cls.trans t2, t3, FC3.trans t4, ref.trans t5, t6, FM4.trans t7⟩
        · right
          exact ⟨c5, i5, μ5, ν5, t1, by omega, t3, cls.trans t4, t5, t6, FC3.trans t7, ref.trans t8, t9, t10, t11, FM4.trans t12⟩
    · right
      have h1 : ¬ lkI S i = nI c1 := fun z => hop (Or.inl z)
      have h2 : ¬ lkI S i = nI c2 := fun z => hop (Or.inr z)
      refine ⟨c, skp S i, μ1, ν, hF, by omega, hsk.2, ?_, a2, hX.fr a3 (by decide), xl_fr a3 (by decide), gM_stop h1 h2, KM, e5, hY, Ft.refl⟩
      show gC c1 c2 s1 s2 rB (gCl c1 c2 s1 s2 rB f) (nI v) μ = _
      unfold gC kj
      rw [if_pos ((lt_n (by omega) (by omega)).mpr (show v < 120 by omega)), a1, bS]
      simp only []
      rw [if_neg h1, if_neg h2, rz_1, bS]
theorem binop_L {S : St} {l p dep d d2 c1 c2 s1 s2 k1 k2 : Nat} {rB : Mem → Option (Int32 × Mem)} {rM : Mem → Option Mem} (W : W_tp S) (hl : l < 7) (hp : p < 7) (hr : Lock S l p dep d2 false rB rM) (hd2 : d2 + 1 ≤ d) (hd : 2 ≤ d) (hc1 : c1 < 256) (hc2 : c2 < 256) (hs1 : vbn s1 ∧ s1 < 10107) (hs2 : vbn s2 ∧ s2 < 10107) (hk1 : cdM s1 = k1 ∧ vlM s1 = 0) (hk2 : cdM s2 = k2 ∧ vlM s2 = 0) :
    Lock S l p dep d false (fun μ => (rB μ).bind fun (x1, μ2) => if x1 = 0 then (mRz (nI 0)).bind fun z => some (z, μ2) else gCl c1 c2 s1 s2 rB FU (nI 0) μ2) (fun μ => (rM μ).bind fun μ1 => if (mI μ1 1304 0 0) = (-1) then ((M_look μ1).bind fun (x3, μ4) => (gMl c1 c2 k1 k2 rM FU x3 μ4).bind fun μ5 => some μ5) else (gMl c1 c2 k1 k2 rM FU (-1) μ1).bind fun μ2 => some μ2) := by
  intro i X Y μ ν KC KM hi e4 e31 e5 hX hY hXi hYi
  have hn := W.1
  have hFU : 120 < FU := by unfold FU; decide
  have eFU : FU = 999999 + 1 := rfl
  simp only []
  rcases hr i X Y μ ν KC KM hi e4 e31 e5 hX hY hXi hYi with ⟨j, μ', ν', r1, r2, r3, r4, r5, r6, r7⟩ | ⟨c', i', μ', ν', r1, r2, r3, r4, r5, r6, r7, r8, r9, r10, r11, r12⟩
  · left
    refine ⟨j, μ', ν', r1, ?_, r3, r4, ?_, r6, r7⟩
    · rw [r2, bS]
      simp only []
      rw [if_pos z00, rz_0, bS]
    · rw [r5, bS, r6.1, if_neg (fun z => neg_n (by omega) z.symm), eFU, gM_stop (neg_n (by omega)) (neg_n (by omega)), bS]
  · have hne : 0 < c'.length := by
      have := r1.1
      cases c' with
      | nil => exact absurd rfl this
      | cons _ _ => simp
    obtain ⟨ν4, q1, q2, q3⟩ := look_M W r9 r3
    rw [r4, bS, r8, bS]
    simp only []
    rw [if_neg n10, r9.2.2, if_pos rfl, q1, bS]
    simp only []
    rcases bin_L W hl hp hr hd2 hd hc1 hc2 hs1 hs2 hk1 hk2 (m := nTp S - i') (i := i') (v := 0) (f := FU) (g := FU) (X := X) (Y := Y) (by omega) (by omega) (by omega) (by omega) r5 q2 (by rw [xl4 r7]; exact e4) (by rw [q3.i 1331 (by decide), xlm31 r12]; exact e31) (by rw [q3.i 1305 (by decide)]; exact r10) r6 (r11.fr q3 (by decide)) (by omega) (by omega) (r1.mono (by omega)) with ⟨j, μ5, ν5, t1, t2, t3, t4, t5, t6, t7⟩ | ⟨c5, i5, μ5, ν5, t1, t2, t3, t4, t5, t6, t7, t8, t9, t10, t11, t12⟩
    · left
      exact ⟨j, μ5, ν5, t1, t2, t3, r7.trans t4, by rw [t5, bS], t6, (r12.trans (xlm_fr q3 (by decide))).trans t7⟩
    · right
      exact ⟨c5, i5, μ5, ν5, t1, by omega, t3, t4, t5, t6, r7.trans t7, by rw [t8, bS], t9, t10, t11, (r12.trans (xlm_fr q3 (by decide))).trans t12⟩
theorem term_L {S : St} {l p dep d : Nat} {rC : Int32 → Mem → Option (Int32 × Mem)} {rM : Mem → Option Mem} (W : W_tp S) (hl : l < 7) (hp : p < 7) (hd : 1 ≤ d) (hr : Lock S l p dep d false (rC (nI dep)) rM) : Lock S l p dep (d + 1) false (LawReader_term_B rC (nI dep)) (M_term_B rM) := by
  have := binop_L (c1 := 42) (c2 := 47) (s1 := 10102) (s2 := 10103) (k1 := 4) (k2 := 5) W hl hp hr (Nat.le_refl _) (by omega) (by decide) (by decide) (by unfold vbn; omega) (by unfold vbn; omega) (by decide) (by decide)
  have eC : LawReader_term_B rC (nI dep) = fun μ => (rC (nI dep) μ).bind fun (x1, μ2) => if x1 = 0 then (mRz (nI 0)).bind fun z => some (z, μ2) else gCl 42 47 10102 10103 (rC (nI dep)) FU (nI 0) μ2 := by
    funext μ
    unfold LawReader_term_B
    rw [termC_g]
  have eM : M_term_B rM = fun μ => (rM μ).bind fun μ1 => if (mI μ1 1304 0 0) = (-1) then ((M_look μ1).bind fun (x3, μ4) => (gMl 42 47 4 5 rM FU x3 μ4).bind fun μ5 => some μ5) else (gMl 42 47 4 5 rM FU (-1) μ1).bind fun μ2 => some μ2 := by
    funext μ
    unfold M_term_B
    rw [termM1_g, termM2_g]
  rw [eC, eM]
  exact this
theorem sum_L {S : St} {l p dep d : Nat} {rC : Int32 → Mem → Option (Int32 × Mem)} {rM : Mem → Option Mem} (W : W_tp S) (hl : l < 7) (hp : p < 7) (hd : 1 ≤ d) (hr : Lock S l p dep d false (rC (nI dep)) rM) : Lock S l p dep (d + 1) false (LawReader_sum_B rC (nI dep)) (M_sum_B rM) := by
  have := binop_L (c1 := 43) (c2 := 45) (s1 := 10100) (s2 := 10101) (k1 := 2) (k2 := 3) W hl hp hr (Nat.le_refl _) (by omega) (by decide) (by decide) (by unfold vbn; omega) (by unfold vbn; omega) (by decide) (by decide)
  have eC : LawReader_sum_B rC (nI dep) = fun μ => (rC (nI dep) μ).bind fun (x1, μ2) => if x1 = 0 then (mRz (nI 0)).bind fun z => some (z, μ2) else gCl 43 45 10100 10101 (rC (nI dep)) FU (nI 0) μ2 := by
    funext μ
    unfold LawReader_sum_B
    rw [sumC_g]
  have eM : M_sum_B rM = fun μ => (rM μ).bind fun μ1 => if (mI μ1 1304 0 0) = (-1) then ((M_look μ1).bind fun (x3, μ4) => (gMl 43 45 2 3 rM FU x3 μ4).bind fun μ5 => some μ5) else (gMl 43 45 2 3 rM FU (-1) μ1).bind fun μ2 => some μ2 := by
    funext μ
    unfold M_sum_B
    rw [sumM1_g, sumM2_g]
  rw [eC, eM]
  exact this
/-- all sums of a law, at every depth -/
theorem sums_L {S : St} {l p : Nat} (W : W_tp S) (hl : l < 7) (hp : p < 7) : ∀ e, e ≤ 6 → ∀ n k, 3 * e + 3 ≤ n → 3 * e + 3 ≤ k → Lock S l p (6 - e) (3 + 2 * e) false ((G_LawReader_sum n).1 (nI (6 - e))) ((G_M_atom k).2.2) := by
  intro e
  induction e with
  | zero =>
    intro _ n k hn hk
    obtain ⟨n, rfl⟩ : ∃ z, n = z + 3 := ⟨n - 3, by omega⟩
    obtain ⟨k, rfl⟩ : ∃ z, k = z + 3 := ⟨k - 3, by omega⟩
    have hA : Lock S l p 6 1 false (LawReader_atom_B (G_LawReader_sum n).1 (nI 6)) (M_atom_B (G_M_atom k).2.2) := atom_L W hl hp (Nat.le_refl 6) (Nat.le_refl 1) (fun h => absurd h (by omega))
    have hT : Lock S l p 6 2 false (LawReader_term_B (LawReader_atom_B (G_LawReader_sum n).1) (nI 6)) (M_term_B (M_atom_B (G_M_atom k).2.2)) := term_L W hl hp (Nat.le_refl 1) hA
    exact sum_L (rC := LawReader_term_B (LawReader_atom_B (G_LawReader_sum n).1)) W hl hp (by omega) hT
  | succ e ih =>
    intro he n k hn hk
    obtain ⟨n, rfl⟩ : ∃ z, n = z + 3 := ⟨n - 3, by omega⟩
    obtain ⟨k, rfl⟩ : ∃ z, k = z + 3 := ⟨k - 3, by omega⟩
    have h1 := ih (by omega) n k (by omega) (by omega)
    rw [show 6 - e = 6 - (e + 1) + 1 by omega] at h1
    have hA : Lock S l p (6 - (e + 1)) (3 + 2 * e) false (LawReader_atom_B (G_LawReader_sum n).1 (nI (6 - (e + 1)))) (M_atom_B (G_M_atom k).2.2) := atom_L W hl hp (by omega) (by omega) (fun _ => h1)
    have hT : Lock S l p (6 - (e + 1)) (3 + 2 * e + 1) false (LawReader_term_B (LawReader_atom_B (G_LawReader_sum n).1) (nI (6 - (e + 1)))) (M_term_B (M_atom_B (G_M_atom k).2.2)) := term_L W hl hp (by omega) hA
    have hS := sum_L (d := 3 + 2 * e + 1) (rC := LawReader_term_B (LawReader_atom_B (G_LawReader_sum n).1)) W hl hp (by omega) hT
    rw [show 3 + 2 * e + 1 + 1 = 3 + 2 * (e + 1) by omega] at hS
    exact hS
