/-! PURE: a law that is read, in both -/
theorem ClM_old {p : Nat} {L : LawT} {Y c : List Nat} {ν ν' : Mem} (h : ClM p L Y ν) (hY : LM p Y ν) (h' : LM p (Y ++ c) ν') (e : ∀ v j, v = 1327 ∨ v = 1328 ∨ v = 1329 → j < L.length → mI ν' v 0 (60 * p + j) = mI ν v 0 (60 * p + j)) : ∀ j x s, L[j]? = some (x, s) → ∃ a, mI ν' 1327 0 (60 * p + j) = nI a ∧ mI ν' 1328 0 (60 * p + j) = nI (a + x.length) ∧ mI ν' 1329 0 (60 * p + j) = nI (a + x.length + s.length) ∧ a + x.length + s.length ≤ (Y ++ c).length ∧ RowM ν' (260 * p + a) (x ++ s) := by
  intro j x s hj
  have hjl := (List.getElem?_eq_some_iff.mp hj).1
  obtain ⟨a, h1, h2, h3, h4, h5⟩ := h.2 j x s hj
  refine ⟨a, by rw [e 1327 _ (by decide) hjl]; exact h1, by rw [e 1328 _ (by decide) hjl]; exact h2, by rw [e 1329 _ (by decide) hjl]; exact h3, by rw [List.length_append]; omega, ?_⟩
  have k1 := (RowM_app.mp h'.2).1
  have same : ∀ (Z : List Nat) (b : Nat), RowM ν b Z → RowM ν' b Z → ∀ i, b ≤ i → i < b + Z.length → mI ν' 1323 0 i = mI ν 1323 0 i ∧ mI ν' 1324 0 i = mI ν 1324 0 i := by
    intro Z
    induction Z with
    | nil => intro b _ _ i h1 h2; simp at h2; omega
    | cons z t ih =>
      intro b g1 g2 i i1 i2
      by_cases e : i = b
      · subst e; exact ⟨g2.1.trans g1.1.symm, g2.2.1.trans g1.2.1.symm⟩
      · exact ih (b + 1) g1.2.2 g2.2.2 i (by omega) (by simp at i2; omega)
  refine RowM_keep h5 fun i i1 i2 => same Y (260 * p) hY.2 k1 i (by omega) ?_
  rw [List.length_append] at i2
  omega
theorem ClM_new {p : Nat} {L : LawT} {Y x s : List Nat} {ν ν' : Mem} (h : ClM p L Y ν) (hY : LM p Y ν) (h' : LM p (Y ++ (x ++ s)) ν') (e : ∀ v j, v = 1327 ∨ v = 1328 ∨ v = 1329 → j < L.length → mI ν' v 0 (60 * p + j) = mI ν v 0 (60 * p + j)) (e26 : mI ν' 1326 0 p = nI (L.length + 1)) (e27 : mI ν' 1327 0 (60 * p + L.length) = nI Y.length) (e28 : mI ν' 1328 0 (60 * p + L.length) = nI (Y.length + x.length)) (e29 : mI ν' 1329 0 (60 * p + L.length) = nI (Y.length + x.length + s.length)) : ClM p (L ++ [(x, s)]) (Y ++ (x ++ s)) ν' := by
  have old := ClM_old h hY h' e
  refine ⟨by rw [e26, List.length_append]; rfl, fun j x' s' hj => ?_⟩
  by_cases hl : j < L.length
  · rw [List.getElem?_append_left hl] at hj
    exact old j x' s' hj
  · have hjl := (List.getElem?_eq_some_iff.mp hj).1
    rw [List.length_append, List.length_singleton] at hjl
    have hj2 : j = L.length := by omega
    subst hj2
    rw [List.getElem?_append_right (Nat.le_refl _), Nat.sub_self] at hj
    have hj := Option.some.inj hj
    obtain ⟨rfl, rfl⟩ := Prod.mk.inj hj
    exact ⟨Y.length, e27, e28, e29, by rw [List.length_append, List.length_append]; omega, (RowM_app.mp h'.2).2⟩
def Cls (S : St) (l p i : Nat) (L : LawT) (Y : List Nat) (μ ν : Mem) : Prop := K_C S i μ ∧ K_M S i ν ∧ i ≤ nTp S ∧ mI μ 504 0 0 = nI l ∧ mI ν 1331 0 0 = nI p ∧ mI ν 1305 0 0 = nI 0 ∧ LC l (encC 0 L) μ ∧ LM p Y ν ∧ ClM p L Y ν ∧ GoodC L ∧ (encC 0 L).length ≤ i ∧ Y.length ≤ i ∧ 2 * L.length ≤ i
theorem xlm_cl {p v r c : Nat} (h : XLM p v r c) : XCl p v r c := Or.inl h
theorem clause_L {S : St} {l p i : Nat} {L : LawT} {Y : List Nat} {μ ν : Mem} (W : W_tp S) (hl : l < 7) (hp : p < 7) (I : Cls S l p i L Y μ ν) :
    (∃ j μ' ν', j ≤ nTp S ∧ LawReader_clause μ = some (nI 0, μ') ∧ mI μ' 1003 0 0 = nI j ∧ Ft (XL l) μ μ' ∧ M_clause ν = some ν' ∧ mI ν' 1304 0 0 = nI j ∧ Ft (XCl p) ν ν') ∨
    ∃ L' Y' i' μ' ν', i < i' ∧ L' ≠ [] ∧ Cls S l p i' L' Y' μ' ν' ∧ LawReader_clause μ = some (nI 1, μ') ∧ Ft (XL l) μ μ' ∧ M_clause ν = some ν' ∧ Ft (XCl p) ν ν' := by
  obtain ⟨KC, KM, hi, e4, e31, e5, hX, hY, hCl, hG, hXi, hYi, hLi⟩ := I
  have hn := W.1
  have hsk := skp_le hi
  obtain ⟨m, hm⟩ : ∃ m, m = L.length := ⟨_, rfl⟩
  have e26 : mI ν 1326 0 p = nI m := by rw [hm]; exact hCl.1
  obtain ⟨μ1, a1, a2, a3⟩ := takes_C (c := 121) W KC hi (by decide)
  obtain ⟨ν1, b1, b2, b3⟩ := look_M W KM hi
  have cls0 : ∀ x μ', Tape_takes (nI 121) μ = some (x, μ') → LawReader_clause μ = if x = 0 then ((Tape_wrongHere μ').bind fun (x3, μ4) => (mRz x3).bind fun z => some (z, μ4)) else (Tape_takes (nI 58) μ').bind fun (x5, μ6) => if x5 = 0 then ((Tape_wrongHere μ6).bind fun (x23, μ24) => (mRz x23).bind fun z => some (z, μ24)) else restC μ6 := fun x μ' h => by
    unfold LawReader_clause
    rw [h, bS]
    rfl
  rw [a1] at cls0
  have cls := cls0 _ _ rfl
  have ref := clause_split ν
  rw [e31, rd_n (by omega) (by decide), e26, bS, mul_n, add_n, bS, KM.2.2, if_pos rfl, b1, bS] at ref
  simp only [] at ref
  by_cases h121 : lkI S i = nI 121
  · rw [if_pos h121] at a2 cls ref
    rw [if_neg n10] at cls
    have hin := lk_in (by decide) h121
    have hm60 : m < 60 := by omega
    rw [bS, b2.2.1, add_n, bS] at ref
    obtain ⟨ν2, hν2⟩ : ∃ z, z = mSI ν1 1303 0 0 (nI (skp S i + 1)) := ⟨_, rfl⟩
    rw [← hν2] at ref
    have K2 : K_M S (skp S i + 1) ν2 := by rw [hν2]; exact b2.at
    have F02 : Fr [1303] ν ν2 := b3.trans (by rw [hν2]; exact fr_si (by simp) Fr.refl)
    obtain ⟨μ3, c1, c2, c3⟩ := takes_C (c := 58) W a2 (show skp S i + 1 ≤ nTp S by omega) (by decide)
    obtain ⟨ν3, d1, d2, d3⟩ := look_M W K2 (show skp S i + 1 ≤ nTp S by omega)
    have hsk2 := skp_le (S := S) (show skp S i + 1 ≤ nTp S by omega)
    rw [c1, bS] at cls
    simp only [] at cls
    rw [K2.2.2, if_pos rfl, d1, bS] at ref
    simp only [] at ref
    have F03 : Fr [1303] ν ν3 := F02.trans d3
    have FC3 : Ft (XL l) μ μ3 := (xl_fr a3 (by decide)).trans (xl_fr c3 (by decide))
    by_cases h58 : lkI S (skp S i + 1) = nI 58
    · rw [if_pos h58] at c2 cls ref
      rw [if_neg n10] at cls
      have hin2 := lk_in (by decide) h58
      rw [bS, d2.2.1, add_n, bS] at ref
      obtain ⟨i2, hi2⟩ : ∃ z, z = skp S (skp S i + 1) + 1 := ⟨_, rfl⟩
      rw [← hi2] at c2 ref
      obtain ⟨ν4, hν4⟩ : ∃ z, z = mSI ν3 1303 0 0 (nI i2) := ⟨_, rfl⟩
      rw [← hν4] at ref
      have K4 : K_M S i2 ν4 := by rw [hν4]; exact d2.at
      have F04 : Fr [1303] ν ν4 := F03.trans (by rw [hν4]; exact fr_si (by simp) Fr.refl)
      obtain ⟨ν5, hν5⟩ : ∃ z, z = mSI ν4 1327 0 (60 * p + m) (nI Y.length) := ⟨_, rfl⟩
      have F45 : Ft (fun v r c => v = 1327 ∧ r = 0 ∧ c = 60 * p + m) ν4 ν5 := by rw [hν5]; exact Ft.refl.si ⟨rfl, rfl, rfl⟩
      have K5 : K_M S i2 ν5 := by rw [hν5]; exact K4.wr (by decide)
      have hY4 := hY.fr F04 (by decide)
      have hY5 : LM p Y ν5 := hY4.ft F45 (fun v r c hv => by omega)
      rw [K4.2.2, if_pos rfl, F04.i 1331 (by decide), e31, rd_n (by omega) (by decide), hY4.1, bS, wr_n (by omega) (by decide), bS, ← hν5] at ref
      have g31 : mI ν5 1331 0 0 = nI p := by rw [F45 1331 0 0 (by omega), F04.i 1331 (by decide)]; exact e31
      have g5 : mI ν5 1305 0 0 = nI 0 := by rw [F45 1305 0 0 (by omega), F04.i 1305 (by decide)]; exact e5
      have g26 : mI ν5 1326 0 p = nI m := by rw [F45 1326 0 p (by omega), F04.i 1326 (by decide)]; exact e26
      have g27 : mI ν5 1327 0 (60 * p + m) = nI Y.length := by rw [hν5]; exact iS_eq
      have F05 : Ft (XCl p) ν ν5 := ((xlm_fr F04 (by decide)).mono fun _ _ _ => xlm_cl).trans (F45.mono fun v r c z => Or.inr (Or.inr ⟨Or.inl z.1, z.2.1, by omega, by omega⟩))
      have keep5 : ∀ v j, v = 1327 ∨ v = 1328 ∨ v = 1329 → j < L.length → mI ν5 v 0 (60 * p + j) = mI ν v 0 (60 * p + j) := fun v j hv hj => by
        rw [F45 v 0 _ (by omega), F04.i v (by simp; omega)]
      have hX3 : LC l (encC 0 L) μ3 := (hX.fr a3 (by decide)).fr c3 (by decide)
      have f4 : mI μ3 504 0 0 = nI l := by rw [xl4 FC3]; exact e4
      rcases rest_L W hl hp c2 K5 (by omega) f4 g31 g5 hX3 hY5 (by omega) (by omega) with ⟨j, x, μ', ν', r1, r2, r3, r4, r5, rx, r6, r7⟩ | ⟨s, i', μ', ν', r1, r2, r3, r4, r5, r6, r7, r8, r9, r10, r11, r12⟩ | ⟨c, i', μ', ν', r1, r2, r3, r4, r5, r6, r7, r8, r9, r10, r11, r12⟩
      · left
        have k27 : mI ν' 1327 0 (60 * p + m) = nI Y.length := by rw [r7 1327 0 _ (by unfold XLM; omega)]; exact g27
        obtain ⟨ν6, h6⟩ : ∃ z, z = mSI ν' 1328 0 (60 * p + m) (nI Y.length) := ⟨_, rfl⟩
        have F6 : Ft (fun v r c => v = 1328 ∧ r = 0 ∧ c = 60 * p + m) ν' ν6 := by rw [h6]; exact Ft.refl.si ⟨rfl, rfl, rfl⟩
        have fin := end_any (ν := ν6) hp hm60 (by rw [F6 1331 0 0 (by omega)]; exact r6.2.1) (by rw [F6 1326 0 p (by omega), r7 1326 0 p (by unfold XLM; omega)]; exact g26)
        have k4 : mI ν6 1304 0 0 = nI j := by rw [F6 1304 0 0 (by omega)]; exact r6.1
        have dn : doneM (nI (60 * p + m)) x ν' = endM (nI (60 * p + m)) ν6 := by
          unfold doneM
          rw [rd_n (by omega) (by decide), k27, bS, wr_n (by omega) (by decide), bS, ← h6]
          rcases rx with rfl | rfl
          · rw [if_pos z00]
          · rw [if_neg n10, k4, if_neg (fun z => neg_n (by omega) z.symm)]
        rw [r5, bS] at ref
        simp only [] at ref
        rw [dn, fin] at ref
        exact ⟨j, μ', _, r1, cls.trans r2, r3, FC3.trans r4, ref, (iS_v (by decide)).trans ((iS_v (by decide)).trans k4), (((F05.trans (r7.mono fun _ _ _ => xlm_cl)).trans (F6.mono fun v r c z => Or.inr (Or.inr ⟨Or.inr (Or.inl z.1), z.2.1, by omega, by omega⟩))).si (Or.inr (Or.inr ⟨Or.inr (Or.inr rfl), rfl, by omega, by omega⟩))).si (Or.inr (Or.inl ⟨rfl, rfl, rfl⟩))⟩
      · right
        obtain ⟨μ5, m1, m2, m3⟩ := emit_C (s := 10111) hl (show (encC 0 L ++ s).length < 120 by rw [List.length_append]; omega) (show mI μ' 504 0 0 = nI l by rw [xl4 r7]; exact f4) r6
        rw [m1, bS, rz_1, bS] at r4
        have k27 : mI ν' 1327 0 (60 * p + m) = nI Y.length := by rw [r12 1327 0 _ (by unfold XLM; omega)]; exact g27
        obtain ⟨ν6, h6⟩ : ∃ z, z = mSI ν' 1328 0 (60 * p + m) (nI Y.length) := ⟨_, rfl⟩
        have F6 : Ft (fun v r c => v = 1328 ∧ r = 0 ∧ c = 60 * p + m) ν' ν6 := by rw [h6]; exact Ft.refl.si ⟨rfl, rfl, rfl⟩
        have fin := end_any (ν := ν6) hp hm60 (by rw [F6 1331 0 0 (by omega), xlm31 r12]; exact g31) (by rw [F6 1326 0 p (by omega), r12 1326 0 p (by unfold XLM; omega)]; exact g26)
        have dn : doneM (nI (60 * p + m)) (nI 0) ν' = endM (nI (60 * p + m)) ν6 := by
          unfold doneM
          rw [rd_n (by omega) (by decide), k27, bS, wr_n (by omega) (by decide), bS, ← h6, if_pos z00]
        have hY6 : LM p (Y ++ s) ν6 := r11.ft F6 (fun v r c hv => by omega)
        rw [r8, bS] at ref
        simp only [] at ref
        rw [dn, fin, hY6.1] at ref
        obtain ⟨ν7, h7⟩ : ∃ z, z = mSI (mSI ν6 1329 0 (60 * p + m) (nI (Y ++ s).length)) 1326 0 p (nI (m + 1)) := ⟨_, rfl⟩
        rw [← h7] at ref
        have F7 : Ft (fun v r c => (v = 1329 ∧ r = 0 ∧ c = 60 * p + m) ∨ (v = 1326 ∧ r = 0 ∧ c = p)) ν6 ν7 := by rw [h7]; exact (Ft.refl.si (Or.inl ⟨rfl, rfl, rfl⟩)).si (Or.inr ⟨rfl, rfl, rfl⟩)
        have hY7 : LM p (Y ++ ([] ++ s)) ν7 := hY6.ft F7 (fun v r c hv => by omega)
        have enc : encC 0 (L ++ [([], s)]) = encC 0 L ++ s ++ [10111] := by
          rw [encC_snoc]
          show encC 0 L ++ (if ([] : List Nat) = [] then s ++ [10111] else _) = _
          rw [if_pos rfl, List.append_assoc]
        have hCl' : ClM p (L ++ [([], s)]) (Y ++ ([] ++ s)) ν7 := by
          refine ClM_new hCl hY hY7 (fun v j hv hj => ?_) (by rw [h7, hm]; exact iS_eq) ?_ ?_ ?_
          · rw [F7 v 0 _ (by omega), F6 v 0 _ (by omega), r12 v 0 _ (by unfold XLM; omega)]; exact keep5 v j hv hj
          · rw [← hm, F7 1327 0 _ (by omega), F6 1327 0 _ (by omega)]; exact k27
          · rw [← hm, F7 1328 0 _ (by omega), h6]; exact iS_eq
          · rw [← hm, h7]
            refine (iS_v (by decide)).trans (iS_eq.trans ?_)
            rw [List.length_append]; rfl
        have hG' : GoodC (L ++ [([], s)]) := fun q hq => by
          rcases List.mem_append.mp hq with h | h
          · exact hG q h
          · have := List.mem_singleton.mp h
            subst this
            exact ⟨r1.mono (by omega), Or.inl rfl⟩
        refine ⟨L ++ [([], s)], Y ++ ([] ++ s), i', μ5, ν7, by omega, by simp, ⟨r5.ft m3 (fun r c => by omega), (r9.ft F6 (fun r c => by omega)).ft F7 (fun r c => by omega), r3, by rw [m3 504 0 0 (by omega), xl4 r7]; exact f4, by rw [F7 1331 0 0 (by omega), F6 1331 0 0 (by omega), xlm31 r12]; exact g31, by rw [F7 1305 0 0 (by omega), F6 1305 0 0 (by omega)]; exact r10, by rw [enc]; exact m2, hY7, hCl', hG', ?_, ?_, ?_⟩, cls.trans r4, (FC3.trans r7).trans (m3.mono fun v r c => em_XL), ref, ((F05.trans (r12.mono fun _ _ _ => xlm_cl)).trans (F6.mono fun v r c z => Or.inr (Or.inr ⟨Or.inr (Or.inl z.1), z.2.1, by omega, by omega⟩))).trans (F7.mono fun v r c z => ?_)⟩
        · rw [enc, List.length_append, List.length_append, List.length_singleton]; omega
        · rw [List.length_append]; show _ + s.length ≤ _; omega
        · rw [List.length_append, List.length_singleton]; omega
        · rcases z with ⟨z, z1, z2⟩ | z
          · exact Or.inr (Or.inr ⟨Or.inr (Or.inr z), z1, by omega, by omega⟩)
          · exact Or.inr (Or.inl z)
      · have k27 : mI ν' 1327 0 (60 * p + m) = nI Y.length := by rw [r12 1327 0 _ (by unfold XLM; omega)]; exact g27
        have k26 : mI ν' 1326 0 p = nI m := by rw [r12 1326 0 p (by unfold XLM; omega)]; exact g26
        rw [r8, bS] at ref
        simp only [] at ref
        rcases done_L (m := m) (X := encC 0 L) (Y := Y) W hl hp r5 r9 r3 (by rw [xl4 r7]; exact f4) (by rw [xlm31 r12]; exact g31) r10 r6 r11 (by omega) (by omega) r1 hm60 k26 k27 with ⟨j, μ5, ν6, t1, t2, t3, t4, t5, t6, t7⟩ | ⟨s, i5, μ5, ν6, t1, t2, t3, t4, t5, t6, t7, t8, t9, t10, t11, t12, t13, t14, t15, t16, t17⟩
        · left
          exact ⟨j, μ5, ν6, t1, cls.trans (r4.trans t2), t3, (FC3.trans r7).trans t4, ref.trans t5, t6, (F05.trans (r12.mono fun _ _ _ => xlm_cl)).trans t7⟩
        · right
          have enc : encC 0 (L ++ [(c, s)]) = encC 0 L ++ blkC (encC 0 L).length c s := by
            rw [encC_snoc, Nat.zero_add]
          have hbl : (blkC (encC 0 L).length c s).length = c.length + 2 + s.length + 1 := by
            unfold blkC
            rw [if_neg r1.1]
            simp only [List.length_append, List.length_cons, List.length_nil]
            omega
          have hCl' : ClM p (L ++ [(c, s)]) (Y ++ (c ++ s)) ν6 := by
            refine ClM_new hCl hY t11 (fun v j hv hj => ?_) (by rw [← hm]; exact t13) (by rw [← hm]; exact t14) (by rw [← hm]; exact t15) (by rw [← hm]; exact t16)
            rw [t17 v _ (by omega) (by omega) (by omega), r12 v 0 _ (by unfold XLM; omega)]; exact keep5 v j hv hj
          have hG' : GoodC (L ++ [(c, s)]) := fun q hq => by
            rcases List.mem_append.mp hq with h | h
            · exact hG q h
            · have := List.mem_singleton.mp h
              subst this
              exact ⟨t1.mono (by omega), Or.inr (r1.mono (by omega))⟩
          have FM6 : Ft (XCl p) ν ν6 := (F05.trans (r12.mono fun _ _ _ => xlm_cl)).trans t12
          refine ⟨L ++ [(c, s)], Y ++ (c ++ s), i5, μ5, ν6, by omega, by simp, ⟨t5, t9, t3, by rw [xl4 t7, xl4 r7]; exact f4, by rw [FM6 1331 0 0 (by unfold XCl XLM; omega)]; exact e31, t10, by rw [enc]; exact t6, t11, hCl', hG', ?_, ?_, ?_⟩, cls.trans (r4.trans t4), (FC3.trans r7).trans t7, ref.trans t8, FM6⟩
          · rw [enc, List.length_append, hbl]; omega
          · rw [List.length_append, List.length_append]; omega
          · rw [List.length_append, List.length_singleton]; omega
    · left
      rw [if_neg h58] at c2 cls ref
      obtain ⟨μ4, w1, w2, w3⟩ := wrong_C c2
      obtain ⟨ν4, v1, v2, v3⟩ := bad_M d2
      rw [if_pos z00, w1, bS] at cls
      simp only [] at cls
      rw [rz_0, bS] at cls
      rw [v1, bS, bS, bS, iS_v (show (1304 : Nat) ≠ 1303 by decide), v2, if_neg (fun z => neg_n (by omega) z.symm)] at ref
      exact ⟨skp S (skp S i + 1), μ4, _, hsk2.2, cls, w2, FC3.trans (xl_fr w3 (by decide)), ref, (iS_v (by decide)).trans v2, (((xlm_fr F03 (by decide)).trans (xlm_fr v3 (by decide))).si (Or.inl rfl)).mono fun _ _ _ => xlm_cl⟩
  · left
    rw [if_neg h121] at a2 cls ref
    obtain ⟨μ2, w1, w2, w3⟩ := wrong_C a2
    obtain ⟨ν2, v1, v2, v3⟩ := bad_M b2
    rw [if_pos z00, w1, bS] at cls
    simp only [] at cls
    rw [rz_0, bS] at cls
    rw [v1, bS, bS, bS, iS_v (show (1304 : Nat) ≠ 1303 by decide), v2, if_neg (fun z => neg_n (by omega) z.symm), bS, bS, iS_v (show (1304 : Nat) ≠ 1303 by decide), iS_v (show (1304 : Nat) ≠ 1303 by decide), v2, if_neg (fun z => neg_n (by omega) z.symm)] at ref
    exact ⟨skp S i, μ2, _, hsk.2, cls, w2, (xl_fr a3 (by decide)).trans (xl_fr w3 (by decide)), ref, (iS_v (by decide)).trans ((iS_v (by decide)).trans v2), ((((xlm_fr b3 (by decide)).trans (xlm_fr v3 (by decide))).si (Or.inl rfl)).si (Or.inl rfl)).mono fun _ _ _ => xlm_cl⟩
