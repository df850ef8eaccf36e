/-! PURE: all conditions of a law; what follows y and the colon -/
theorem conds_L {S : St} {l p : Nat} (W : W_tp S) (hl : l < 7) (hp : p < 7) : ∀ e, e ≤ 6 → ∀ n k, 4 * e + 4 ≤ n → 4 * e + 4 ≤ k → Lock S l p (6 - e) (4 + 2 * e) true ((G_LawReader_condition n).2.2.1 (nI (6 - e)) (nI 0)) (G_M_unit k).1 ∧ Lock S l p (6 - e) (6 + 2 * e) true ((G_LawReader_condition n).1 (nI (6 - e)) (nI 0)) (G_M_unit k).2.2 := by
  intro e
  induction e with
  | zero =>
    intro _ n k hn hk
    have hS := sumRF (e := 0) W hl hp (by omega)
    have hU : ∀ n k, 2 ≤ n → 1 ≤ k → Lock S l p 6 4 true ((G_LawReader_condition n).2.2.1 (nI 6) (nI 0)) (G_M_unit k).1 := fun n k hn hk => by
      obtain ⟨n, rfl⟩ : ∃ z, n = z + 2 := ⟨n - 2, by omega⟩
      obtain ⟨k, rfl⟩ : ∃ z, k = z + 1 := ⟨k - 1, by omega⟩
      exact unit_L (rCond := (G_LawReader_condition n).1) (rUnit := (G_LawReader_condition n).2.2.1) (rU := (G_M_unit k).1) (rK := (G_M_unit k).2.2) (dU := 4) (dC := 4) W hl hp (Nat.le_refl 6) hS (by omega) (by omega) (fun h => absurd h (by omega)) (by omega) (fun h => absurd h (by omega)) (by omega)
    refine ⟨hU n k (by omega) (by omega), ?_⟩
    obtain ⟨n, rfl⟩ : ∃ z, n = z + 4 := ⟨n - 4, by omega⟩
    obtain ⟨k, rfl⟩ : ∃ z, k = z + 3 := ⟨k - 3, by omega⟩
    have hT := truth_L (rC := (G_LawReader_condition (n + 2)).2.2.1) (rM := (G_M_unit (k + 1)).1) W hl hp (by omega) (hU (n + 2) (k + 1) (by omega) (by omega))
    exact cond_L (rC := (G_LawReader_condition (n + 3)).2.1) (rM := (G_M_unit (k + 2)).2.1) W hl hp (by omega) hT
  | succ e ih =>
    intro he n k hn hk
    have hS := sumRF (e := e + 1) W hl hp he
    have hU : ∀ n k, 4 * e + 6 ≤ n → 4 * e + 5 ≤ k → Lock S l p (6 - (e + 1)) (4 + 2 * (e + 1)) true ((G_LawReader_condition n).2.2.1 (nI (6 - (e + 1))) (nI 0)) (G_M_unit k).1 := fun n k hn hk => by
      obtain ⟨n, rfl⟩ : ∃ z, n = z + 2 := ⟨n - 2, by omega⟩
      obtain ⟨k, rfl⟩ : ∃ z, k = z + 1 := ⟨k - 1, by omega⟩
      obtain ⟨i1, i2⟩ := ih (by omega) n k (by omega) (by omega)
      rw [show 6 - e = 6 - (e + 1) + 1 by omega] at i1 i2
      exact unit_L (rCond := (G_LawReader_condition n).1) (rUnit := (G_LawReader_condition n).2.2.1) (rU := (G_M_unit k).1) (rK := (G_M_unit k).2.2) W hl hp (by omega) hS (by omega) (by omega) (fun _ => i1) (by omega) (fun _ => i2) (by omega)
    refine ⟨hU n k (by omega) (by omega), ?_⟩
    obtain ⟨n, rfl⟩ : ∃ z, n = z + 4 := ⟨n - 4, by omega⟩
    obtain ⟨k, rfl⟩ : ∃ z, k = z + 3 := ⟨k - 3, by omega⟩
    have hT := truth_L (rC := (G_LawReader_condition (n + 2)).2.2.1) (rM := (G_M_unit (k + 1)).1) W hl hp (by omega) (hU (n + 2) (k + 1) (by omega) (by omega))
    have hC := cond_L (d2 := 4 + 2 * (e + 1) + 1) (rC := (G_LawReader_condition (n + 3)).2.1) (rM := (G_M_unit (k + 2)).2.1) W hl hp (by omega) hT
    rw [show 4 + 2 * (e + 1) + 1 + 1 = 6 + 2 * (e + 1) by omega] at hC
    exact hC
theorem condRF {S : St} {l p : Nat} (W : W_tp S) (hl : l < 7) (hp : p < 7) : Lock S l p 0 18 true (LawReader_condition RF (nI 0) (nI 0)) (M_condition RF) :=
  (conds_L W hl hp 6 (Nat.le_refl 6) RF RF (show 4 * 6 + 4 ≤ 60 by decide) (show 4 * 6 + 4 ≤ 60 by decide)).2
theorem goOn_L {S : St} {l p : Nat} (W : W_tp S) (hl : l < 7) (hp : p < 7) : LockP S l p 0 (Frag 15 false) 18 true (LawReader_condition RF (nI 0) (nI 1)) M_goOn := by
  have hS := sumRF (e := 6) W hl hp (Nat.le_refl 6)
  have hcmp : LockP S l p 0 (Frag 15 false) 16 true (cmpC (nI 0)) M_compare := cmp_L W hl hp (by omega) hS
  have hu : Lock S l p 0 16 true ((G_LawReader_condition 58).2.2.1 (nI 0) (nI 0)) (M_unit RF) := (conds_L W hl hp 6 (Nat.le_refl 6) 58 RF (by decide) (show 4 * 6 + 4 ≤ 60 by decide)).1
  have hu59 : Lock S l p 0 16 true ((G_LawReader_condition 58).2.2.1 (nI 0) (nI 0)) (G_M_unit 59).1 := (conds_L W hl hp 6 (Nat.le_refl 6) 58 59 (by decide) (by decide)).1
  have e1 : (G_LawReader_condition 58).2.2.1 (nI 0) (nI 1) = cmpC (nI 0) := by
    funext μ
    show LawReader_unit_B (G_LawReader_condition 57).2.2.2 (nI 0) (nI 1) μ = _
    unfold LawReader_unit_B kj cmpC
    simp only [if_neg n10]
  have h1 : LockP S l p 0 (Frag 15 false) 16 true ((G_LawReader_condition 58).2.2.1 (nI 0) (nI 1)) M_compare := by rw [e1]; exact hcmp
  have hT := truth_P (b0 := true) (d0 := 0) (B1 := fun _ => none) W hl hp (by omega) h1 hu
  have hTt : Lock S l p 0 17 true ((G_LawReader_condition 59).2.1 (nI 0) (nI 0)) (M_truth RF) := truth_L (rC := (G_LawReader_condition 58).2.2.1) (rM := (G_M_unit 59).1) W hl hp (by omega) hu59
  have hC := cond_P (rC := (G_LawReader_condition 59).2.1) (rM := M_truth RF) W hl hp (by omega) hT hTt
  have eM : M_goOn = fun ν => ((M_compare ν).bind (hMl 38 10 (M_unit RF) FU)).bind (hMl 124 11 (M_truth RF) FU) := by
    funext ν
    unfold M_goOn
    rw [goOn1_g, goOn2_g]
    cases M_compare ν with
    | none => rfl
    | some s =>
      rw [bS, bS]
      cases hMl 38 10 (M_unit RF) FU s with
      | none => rfl
      | some t => rw [bS, bS, bind_id]
  rw [eM]
  exact hC
/-! a clause behind y and the colon -/
def restC (μ6 : Mem) : Option (Int32 × Mem) :=
  (Tape_look μ6).bind fun (x7, μ8) => (LawReader_opensUnit x7).bind fun x9 => kj (fun (μ16 : Mem) => (if x9 = 0 then some (nI 1) else some (nI 0)).bind fun x18 => (LawReader_condition RF (nI 0) x18 μ16).bind fun (x19, μ20) => if x19 = 0 then (mRz (nI 0)).bind fun z => some (z, μ20) else (LawReader_conditioned μ20).bind fun (x21, μ22) => if x21 = 0 then (mRz (nI 0)).bind fun z => some (z, μ22) else (mRz (nI 1)).bind fun z => some (z, μ22)) fun k17 => if x9 = 0 then ((LawReader_sum RF (nI 0) μ8).bind fun (x10, μ11) => if x10 = 0 then (mRz (nI 0)).bind fun z => some (z, μ11) else (Tape_look μ11).bind fun (x12, μ13) => (LawReader_comparing x12).bind fun x14 => if x14 = (-1) then ((Laws_emit (nI 10111) μ13).bind fun μ15 => (mRz (nI 1)).bind fun z => some (z, μ15)) else k17 μ13) else k17 μ8
def condC (μ20 : Mem) : Option (Int32 × Mem) := (LawReader_conditioned μ20).bind fun (x21, μ22) => if x21 = 0 then (mRz (nI 0)).bind fun z => some (z, μ22) else (mRz (nI 1)).bind fun z => some (z, μ22)
def restM (μ14 : Mem) : Option (Int32 × Mem) :=
  (M_look μ14).bind fun (x15, μ16) => (if x15 = (nI 33) then some ((nI 1), μ16) else (M_look μ16).bind fun (x17, μ18) => if x17 = (nI 40) then some ((nI 1), μ18) else some ((nI 0), μ18)).bind fun (x19, μ20) => (if x19 = 0 then ((M_sum RF μ20).bind fun μ21 => (if (mI μ21 1304 0 0) = (-1) then ((M_look μ21).bind fun (x22, μ23) => (M_isSign x22).bind fun x24 => if x24 = 0 then some ((nI 0), μ23) else some ((nI 1), μ23)) else some ((nI 0), μ21)).bind fun (x25, μ26) => if x25 = 0 then some (x25, μ26) else (M_goOn μ26).bind fun μ27 => some (x25, μ27)) else (M_condition RF μ20).bind fun μ28 => some (x19, μ28))
theorem rest_L {S : St} {l p i : Nat} {X Y : List Nat} {μ ν : Mem} (W : W_tp S) (hl : l < 7) (hp : p < 7) (KC : K_C S i μ) (KM : K_M S i ν) (hi : i ≤ nTp S) (e4 : mI μ 504 0 0 = nI l) (e31 : mI ν 1331 0 0 = nI p) (e5 : mI ν 1305 0 0 = nI 0) (hX : LC l X μ) (hY : LM p Y ν) (hXi : X.length ≤ i) (hYi : Y.length ≤ i) :
    (∃ j x μ' ν', j ≤ nTp S ∧ restC μ = some (nI 0, μ') ∧ mI μ' 1003 0 0 = nI j ∧ Ft (XL l) μ μ' ∧ restM ν = some (x, ν') ∧ (x = nI 0 ∨ x = nI 1) ∧ FM p j ν' ∧ Ft (XLM p) ν ν') ∨
    (∃ s i' μ' ν', Frag 15 false s ∧ i + s.length ≤ i' ∧ i' ≤ nTp S ∧ restC μ = ((Laws_emit (nI 10111) μ').bind fun μ15 => (mRz (nI 1)).bind fun z => some (z, μ15)) ∧ K_C S i' μ' ∧ LC l (X ++ s) μ' ∧ Ft (XL l) μ μ' ∧ restM ν = some (nI 0, ν') ∧ K_M S i' ν' ∧ mI ν' 1305 0 0 = nI 0 ∧ LM p (Y ++ s) ν' ∧ Ft (XLM p) ν ν') ∨
    ∃ c i' μ' ν', Frag 18 true c ∧ i + c.length ≤ i' ∧ i' ≤ nTp S ∧ restC μ = condC μ' ∧ K_C S i' μ' ∧ LC l (X ++ c) μ' ∧ Ft (XL l) μ μ' ∧ restM ν = some (nI 1, ν') ∧ K_M S i' ν' ∧ mI ν' 1305 0 0 = nI 0 ∧ LM p (Y ++ c) ν' ∧ Ft (XLM p) ν ν' := by
  have hn := W.1
  have hsk := skp_le hi
  obtain ⟨μ1, a1, a2, a3⟩ := look_C W KC hi
  obtain ⟨ν1, b1, b2, b3⟩ := look_M W KM hi
  obtain ⟨ν2, b4, b5, b6⟩ := look_M W b2 hsk.2
  rw [lk_lk hi] at b4
  rw [skp_skp hi] at b5
  have hX1 := hX.fr a3 (by decide)
  have hY1 := hY.fr b3 (by decide)
  have hY2 := hY1.fr b6 (by decide)
  have f4 : mI μ1 504 0 0 = nI l := by rw [a3.i 504 (by decide)]; exact e4
  have f31 : mI ν1 1331 0 0 = nI p := by rw [b3.i 1331 (by decide)]; exact e31
  have f5 : mI ν1 1305 0 0 = nI 0 := by rw [b3.i 1305 (by decide)]; exact e5
  -- a condition from the start
  have viaC : ∀ ν3, K_M S (skp S i) ν3 → Fr [1303] ν ν3 → LawReader_opensUnit (lkI S i) = some (nI 1) → restM ν = ((M_condition RF ν3).bind fun μ28 => some (nI 1, μ28)) → (∃ j x μ' ν', j ≤ nTp S ∧ restC μ = some (nI 0, μ') ∧ mI μ' 1003 0 0 = nI j ∧ Ft (XL l) μ μ' ∧ restM ν = some (x, ν') ∧ (x = nI 0 ∨ x = nI 1) ∧ FM p j ν' ∧ Ft (XLM p) ν ν') ∨ ∃ c i' μ' ν', Frag 18 true c ∧ i + c.length ≤ i' ∧ i' ≤ nTp S ∧ restC μ = condC μ' ∧ K_C S i' μ' ∧ LC l (X ++ c) μ' ∧ Ft (XL l) μ μ' ∧ restM ν = some (nI 1, ν') ∧ K_M S i' ν' ∧ mI ν' 1305 0 0 = nI 0 ∧ LM p (Y ++ c) ν' ∧ Ft (XLM p) ν ν' := by
    intro ν3 K3 F3 hop href
    have cls : restC μ = (LawReader_condition RF (nI 0) (nI 0) μ1).bind fun (x19, μ20) => if x19 = 0 then (mRz (nI 0)).bind fun z => some (z, μ20) else condC μ20 := by
      unfold restC kj condC
      rw [a1, bS]
      simp only []
      rw [hop, bS, if_neg n10, if_neg n10, bS]
    rcases condRF W hl hp (skp S i) X Y μ1 ν3 a2 K3 hsk.2 f4 (by rw [F3.i 1331 (by decide)]; exact e31) (by rw [F3.i 1305 (by decide)]; exact e5) hX1 (hY.fr F3 (by decide)) (by omega) (by omega) with ⟨j, μ', ν', r1, r2, r3, r4, r5, r6, r7⟩ | ⟨c', i', μ', ν', r1, r2, r3, r4, r5, r6, r7, r8, r9, r10, r11, r12⟩
    · left
      rw [r2, bS] at cls
      simp only [] at cls
      rw [if_pos z00, rz_0, bS] at cls
      rw [r5, bS] at href
      exact ⟨j, nI 1, μ', ν', r1, cls, r3, (xl_fr a3 (by decide)).trans r4, href, Or.inr rfl, r6, (xlm_fr F3 (by decide)).trans r7⟩
    · right
      rw [r4, bS] at cls
      simp only [] at cls
      rw [if_neg n10] at cls
      rw [r8, bS] at href
      exact ⟨c', i', μ', ν', r1, by omega, r3, cls, r5, r6, (xl_fr a3 (by decide)).trans r7, href, r9, r10, r11, (xlm_fr F3 (by decide)).trans r12⟩
  by_cases h33 : lkI S i = nI 33
  · have hop : LawReader_opensUnit (lkI S i) = some (nI 1) := by rw [h33]; rfl
    have href : restM ν = ((M_condition RF ν1).bind fun μ28 => some (nI 1, μ28)) := by
      unfold restM
      rw [b1, bS]
      simp only []
      rw [if_pos h33, bS]
      simp only []
      rw [if_neg n10]
    rcases viaC ν1 b2 b3 hop href with h | h
    · exact Or.inl h
    · exact Or.inr (Or.inr h)
  by_cases h40 : lkI S i = nI 40
  · have hop : LawReader_opensUnit (lkI S i) = some (nI 1) := by rw [h40]; rfl
    have href : restM ν = ((M_condition RF ν2).bind fun μ28 => some (nI 1, μ28)) := by
      unfold restM
      rw [b1, bS]
      simp only []
      rw [if_neg h33, b4, bS]
      simp only []
      rw [if_pos h40, bS]
      simp only []
      rw [if_neg n10]
    rcases viaC ν2 b5 (b3.trans b6) hop href with h | h
    · exact Or.inl h
    · exact Or.inr (Or.inr h)
  have hop : LawReader_opensUnit (lkI S i) = some (nI 0) := by
    unfold LawReader_opensUnit
    rw [if_neg h33, if_neg h40, rz_0]
  have cls : restC μ = (LawReader_sum RF (nI 0) μ1).bind fun (x10, μ11) => if x10 = 0 then (mRz (nI 0)).bind fun z => some (z, μ11) else (Tape_look μ11).bind fun (x12, μ13) => (LawReader_comparing x12).bind fun x14 => if x14 = (-1) then ((Laws_emit (nI 10111) μ13).bind fun μ15 => (mRz (nI 1)).bind fun z => some (z, μ15)) else (LawReader_condition RF (nI 0) (nI 1) μ13).bind fun (x19, μ20) => if x19 = 0 then (mRz (nI 0)).bind fun z => some (z, μ20) else condC μ20 := by
    unfold restC kj condC
    rw [a1, bS]
    simp only []
    rw [hop, bS, if_pos z00]
    simp only [if_pos z00, bS]
  have ref : restM ν = (M_sum RF ν2).bind fun μ21 => (if (mI μ21 1304 0 0) = (-1) then ((M_look μ21).bind fun (x22, μ23) => (M_isSign x22).bind fun x24 => if x24 = 0 then some ((nI 0), μ23) else some ((nI 1), μ23)) else some ((nI 0), μ21)).bind fun (x25, μ26) => if x25 = 0 then some (x25, μ26) else (M_goOn μ26).bind fun μ27 => some (x25, μ27) := by
    unfold restM
    rw [b1, bS]
    simp only []
    rw [if_neg h33, b4, bS]
    simp only []
    rw [if_neg h40, bS]
    simp only []
    rw [if_pos z00]
  have F2 : Fr [1303] ν ν2 := b3.trans b6
  rcases sumRF (e := 6) W hl hp (Nat.le_refl 6) (skp S i) X Y μ1 ν2 a2 b5 hsk.2 f4 (by rw [b6.i 1331 (by decide)]; exact f31) (by rw [b6.i 1305 (by decide)]; exact f5) hX1 hY2 (by omega) (by omega) with ⟨j, μ', ν', r1, r2, r3, r4, r5, r6, r7⟩ | ⟨c', i', μ', ν', r1, r2, r3, r4, r5, r6, r7, r8, r9, r10, r11, r12⟩
  · left
    rw [show LawReader_sum RF (nI 0) μ1 = _ from r2, bS] at cls
    simp only [] at cls
    rw [if_pos z00, rz_0, bS] at cls
    rw [r5, bS, r6.1, if_neg (fun z => neg_n (by omega) z.symm), bS] at ref
    simp only [] at ref
    rw [if_pos z00] at ref
    exact ⟨j, nI 0, μ', ν', r1, cls, r3, (xl_fr a3 (by decide)).trans r4, ref, Or.inl rfl, r6, (xlm_fr F2 (by decide)).trans r7⟩
  · have hsk2 := skp_le r3
    obtain ⟨μ3, c1, c2, c3⟩ := look_C W r5 r3
    obtain ⟨ν3, d1, d2, d3⟩ := look_M W r9 r3
    have FC3 : Ft (XL l) μ μ3 := ((xl_fr a3 (by decide)).trans r7).trans (xl_fr c3 (by decide))
    have FM3 : Ft (XLM p) ν ν3 := ((xlm_fr F2 (by decide)).trans r12).trans (xlm_fr d3 (by decide))
    rw [show LawReader_sum RF (nI 0) μ1 = _ from r4, bS] at cls
    simp only [] at cls
    rw [if_neg n10, c1, bS] at cls
    simp only [] at cls
    rw [r8, bS, r9.2.2, if_pos rfl, d1, bS] at ref
    simp only [] at ref
    have g5 : mI ν3 1305 0 0 = nI 0 := by rw [d3.i 1305 (by decide)]; exact r10
    rcases cmp_or (lkI S i') with ⟨h1, h2⟩ | ⟨s, k, b, hb, hxb, hs, hs4, hs7, hk1, hk2, h1, h2, h3⟩
    · right; left
      rw [h1, bS, if_pos rfl] at cls
      rw [h2, bS, if_pos z00, bS] at ref
      simp only [] at ref
      rw [if_pos z00] at ref
      exact ⟨c', skp S i', μ3, ν3, r1, by omega, hsk2.2, cls, c2, r6.fr c3 (by decide), FC3, ref, d2, g5, r11.fr d3 (by decide), FM3⟩
    · rw [h1, bS, if_neg (fun z => neg_n (by omega) z.symm)] at cls
      rw [h2, bS, if_neg n10, bS] at ref
      simp only [] at ref
      rw [if_neg n10] at ref
      rcases goOn_L W hl hp (skp S i') X Y c' μ3 ν3 c2 d2 hsk2.2 (by rw [xl4 FC3]; exact e4) (by rw [xlm31 FM3]; exact e31) g5 (r6.fr c3 (by decide)) (r11.fr d3 (by decide)) (by omega) (by omega) r1 with ⟨j, μ5, ν5, t1, t2, t3, t4, t5, t6, t7⟩ | ⟨c5, i5, μ5, ν5, t1, t2, t3, t4, t5, t6, t7, t8, t9, t10, t11, t12⟩
      · left
        rw [t2, bS] at cls
        simp only [] at cls
        rw [if_pos z00, rz_0, bS] at cls
        rw [t5, bS] at ref
        exact ⟨j, nI 1, μ5, ν5, t1, cls, t3, FC3.trans t4, ref, Or.inr rfl, t6, FM3.trans t7⟩
      · right; right
        rw [t4, bS] at cls
        simp only [] at cls
        rw [if_neg n10] at cls
        rw [t8, bS] at ref
        exact ⟨c5, i5, μ5, ν5, t1, by omega, t3, cls, t5, t6, FC3.trans t7, ref, t9, t10, t11, FM3.trans t12⟩
