/-! PURE: comparing, units of a condition -/
theorem bind_id {α : Type} (o : Option α) : (o.bind fun x => some x) = o := by cases o <;> rfl
theorem cmp_or (x : Int32) : (LawReader_comparing x = some (-1) ∧ M_isSign x = some (nI 0)) ∨ ∃ s k b, b < 256 ∧ x = nI b ∧ vbn s ∧ 10104 ≤ s ∧ s < 10107 ∧ cdM s = k ∧ vlM s = 0 ∧ LawReader_comparing x = some (nI s) ∧ M_isSign x = some (nI 1) ∧ ∀ ν, (if x = (nI 61) then ((M_put (nI 6) (nI 0) ν).bind fun μ10 => some μ10) else if x = (nI 60) then ((M_put (nI 7) (nI 0) ν).bind fun μ9 => some μ9) else (M_put (nI 8) (nI 0) ν).bind fun μ8 => some μ8) = M_put (nI k) (nI 0) ν := by
  by_cases h1 : x = nI 61
  · subst h1
    exact Or.inr ⟨10104, 6, 61, by decide, rfl, by unfold vbn; omega, by omega, by omega, rfl, rfl, rfl, rfl, fun ν => by rw [if_pos rfl, bind_id]⟩
  by_cases h2 : x = nI 60
  · subst h2
    exact Or.inr ⟨10105, 7, 60, by decide, rfl, by unfold vbn; omega, by omega, by omega, rfl, rfl, rfl, rfl, fun ν => by rw [if_neg h1, if_pos rfl, bind_id]⟩
  by_cases h3 : x = nI 62
  · subst h3
    exact Or.inr ⟨10106, 8, 62, by decide, rfl, by unfold vbn; omega, by omega, by omega, rfl, rfl, rfl, rfl, fun ν => by rw [if_neg h1, if_neg h2, bind_id]⟩
  left
  unfold LawReader_comparing M_isSign
  rw [if_neg h2, if_neg h1, if_neg h3, if_neg h1, if_neg h2, if_neg h3]
  exact ⟨rfl, rfl⟩
theorem bad_F {p j : Nat} {ν : Mem} (hj : j < 1000000) (h : FM p j ν) : ∃ ν', M_bad ν = some ν' ∧ FM p j ν' ∧ Fr [1304] ν ν' := by
  have F : Fr [1304] ν (mSI ν 1304 0 0 (mI ν 1304 0 0)) := fr_si (by simp) Fr.refl
  refine ⟨_, ?_, ⟨iS_eq.trans h.1, (iS_v (by decide)).trans h.2.1, ?_⟩, F⟩
  · unfold M_bad
    rw [if_neg (show ¬ mI ν 1304 0 0 = -1 from fun z => neg_n hj (z.symm.trans h.1)), bS]
  · obtain ⟨k, h1, h2⟩ := h.2.2
    exact ⟨k, h1, (iS_v (by decide)).trans h2⟩
def cmpC (a1 : Int32) (μ10 : Mem) : Option (Int32 × Mem) :=
  (Tape_look μ10).bind fun (x12, μ13) => (LawReader_comparing x12).bind fun x14 => if x14 = (-1) then ((Tape_wrongHere μ13).bind fun (x19, μ20) => (mRz x19).bind fun z => some (z, μ20)) else (Tape_step μ13).bind fun μ15 => (LawReader_sum RF a1 μ15).bind fun (x16, μ17) => if x16 = 0 then (mRz (nI 0)).bind fun z => some (z, μ17) else (Laws_emit x14 μ17).bind fun μ18 => (mRz (nI 1)).bind fun z => some (z, μ18)
theorem cmp_stay {p : Nat} : Stay p M_compare := by
  intro j ν hj h
  obtain ⟨ν1, b1, b2, b3⟩ := bad_F hj h
  refine ⟨ν1, ?_, b2, xlm_fr b3 (by decide)⟩
  unfold M_compare
  rw [if_neg (show ¬ mI ν 1304 0 0 = -1 from fun z => neg_n hj (z.symm.trans h.1)), bS]
  simp only []
  rw [show M_isSign (-1) = some (nI 0) from rfl, bS, if_pos z00, b1, bS]
theorem cmp_L {S : St} {l p dep d : Nat} (W : W_tp S) (hl : l < 7) (hp : p < 7) (hd : 1 ≤ d) (hr : Lock S l p dep d false (LawReader_sum RF (nI dep)) (M_sum RF)) : LockP S l p dep (Frag d false) (d + 1) true (cmpC (nI dep)) M_compare := by
  intro i X Y x μ ν KC KM hi e4 e31 e5 hX hY hXi hYi hF
  have hn := W.1
  have hsk := skp_le hi
  obtain ⟨μ1, a1, a2, a3⟩ := look_C W KC hi
  obtain ⟨ν1, b1, b2, b3⟩ := look_M W KM hi
  have hX1 := hX.fr a3 (by decide)
  have hY1 := hY.fr b3 (by decide)
  have f31 : mI ν1 1331 0 0 = nI p := by rw [b3.i 1331 (by decide)]; exact e31
  have cls : cmpC (nI dep) μ = (LawReader_comparing (lkI S i)).bind fun x14 => if x14 = (-1) then ((Tape_wrongHere μ1).bind fun (x19, μ20) => (mRz x19).bind fun z => some (z, μ20)) else (Tape_step μ1).bind fun μ15 => (LawReader_sum RF (nI dep) μ15).bind fun (x16, μ17) => if x16 = 0 then (mRz (nI 0)).bind fun z => some (z, μ17) else (Laws_emit x14 μ17).bind fun μ18 => (mRz (nI 1)).bind fun z => some (z, μ18) := by
    unfold cmpC
    rw [a1, bS]
  have ref : M_compare ν = (M_isSign (lkI S i)).bind fun x5 => if x5 = 0 then ((M_bad ν1).bind fun μ11 => some μ11) else (some (mSI ν1 1303 0 0 ((mI ν1 1303 0 0) + (nI 1)))).bind fun μ6 => (M_sum RF μ6).bind fun μ7 => if lkI S i = (nI 61) then ((M_put (nI 6) (nI 0) μ7).bind fun μ10 => some μ10) else if lkI S i = (nI 60) then ((M_put (nI 7) (nI 0) μ7).bind fun μ9 => some μ9) else (M_put (nI 8) (nI 0) μ7).bind fun μ8 => some μ8 := by
    unfold M_compare
    rw [KM.2.2, if_pos rfl, b1, bS, bS]
  rcases cmp_or (lkI S i) with ⟨h1, h2⟩ | ⟨s, k, b, hb, hxb, hs, hs4, hs7, hk1, hk2, h1, h2, h3⟩
  · left
    obtain ⟨μw, w1, w2, w3⟩ := wrong_C a2
    obtain ⟨νw, v1, v2, v3⟩ := bad_M b2
    rw [h1, bS, if_pos rfl, w1, bS] at cls
    simp only [] at cls
    rw [rz_0, bS] at cls
    rw [h2, bS, if_pos z00, v1, bS] at ref
    exact ⟨skp S i, μw, νw, hsk.2, cls, w2, (xl_fr a3 (by decide)).trans (xl_fr w3 (by decide)), ref, FM_of f31 hY1 (by rw [List.length_append]; omega) (v3.mono (by simp)) v2, (xlm_fr b3 (by decide)).trans (xlm_fr v3 (by decide))⟩
  · have hin := lk_in (by omega) hxb
    obtain ⟨μ2, s1, s2, s3⟩ := step_C W a2 hin
    have K2 : K_M S (skp S i + 1) (mSI ν1 1303 0 0 (nI (skp S i + 1))) := b2.at
    have F2 : Fr [1303] ν1 (mSI ν1 1303 0 0 (nI (skp S i + 1))) := fr_si (by simp) Fr.refl
    rw [h1, bS, if_neg (fun z => neg_n (by omega) z.symm), s1, bS] at cls
    rw [h2, bS, if_neg n10, b2.2.1, add_n, bS] at ref
    simp only [h3] at ref
    rcases hr (skp S i + 1) (X ++ x) (Y ++ x) μ2 _ s2 K2 (by omega) (by rw [s3.i 504 (by decide), a3.i 504 (by decide)]; exact e4) (by rw [F2.i 1331 (by decide)]; exact f31) (by rw [F2.i 1305 (by decide), b3.i 1305 (by decide)]; exact e5) (hX1.fr s3 (by decide)) (hY1.fr F2 (by decide)) (by rw [List.length_append]; omega) (by rw [List.length_append]; omega) with ⟨j, μ', ν', r1, r2, r3, r4, r5, r6, r7⟩ | ⟨c', i', μ', ν', r1, r2, r3, r4, r5, r6, r7, r8, r9, r10, r11, r12⟩
    · left
      obtain ⟨ν4, y1, y2, y3⟩ := put_F (x := nI k) (y := nI 0) hp r6
      rw [r2, bS] at cls
      simp only [] at cls
      rw [if_pos z00, rz_0, bS] at cls
      rw [r5, bS, y1] at ref
      exact ⟨j, μ', ν4, r1, cls, r3, ((xl_fr a3 (by decide)).trans (xl_fr s3 (by decide))).trans r4, ref, y2, (((xlm_fr b3 (by decide)).trans (xlm_fr F2 (by decide))).trans r7).trans (y3.mono fun v r c => pt_XLM)⟩
    · right
      have hlenX : (X ++ x ++ c').length < 120 := by rw [List.length_append, List.length_append]; omega
      have hlenY : (Y ++ x ++ c').length < 260 := by rw [List.length_append, List.length_append]; omega
      obtain ⟨μ3, m1, m2, m3⟩ := emit_C (s := s) hl hlenX (show mI μ' 504 0 0 = nI l by rw [xl4 r7, s3.i 504 (by decide), a3.i 504 (by decide)]; exact e4) r6
      obtain ⟨ν3, p1, p2, p3⟩ := put_M (s := s) hp hlenY (show mI ν' 1331 0 0 = nI p by rw [xlm31 r12, F2.i 1331 (by decide)]; exact f31) r11
      rw [hk1, hk2] at p1
      rw [r4, bS] at cls
      simp only [] at cls
      rw [if_neg n10, m1, bS, rz_1, bS] at cls
      rw [r8, bS, p1] at ref
      have hF' : Frag (d + 1) true (x ++ (c' ++ [s])) := Frag_bin hF r1 hs (by omega) (Nat.le_refl _) (by omega) (fun _ => hs4) (fun z => absurd z (by omega))
      have hlen : (x ++ (c' ++ [s])).length = x.length + c'.length + 1 := by rw [List.length_append, List.length_append, List.length_singleton]; omega
      rw [show X ++ x ++ c' ++ [s] = X ++ (x ++ (c' ++ [s])) by simp [List.append_assoc]] at m2
      rw [show Y ++ x ++ c' ++ [s] = Y ++ (x ++ (c' ++ [s])) by simp [List.append_assoc]] at p2
      exact ⟨x ++ (c' ++ [s]), i', μ3, ν3, hF', by omega, r3, cls, r5.ft m3 (fun r c => by omega), m2, (((xl_fr a3 (by decide)).trans (xl_fr s3 (by decide))).trans r7).trans (m3.mono fun v r c => em_XL), ref, r9.ft p3 (fun r c => by unfold XPt; omega), by rw [p3 1305 0 0 (by unfold XPt; omega)]; exact r10, p2, (((xlm_fr b3 (by decide)).trans (xlm_fr F2 (by decide))).trans r12).trans (p3.mono fun v r c => pt_XLM)⟩
/-! opening and closing in the reference -/
theorem K_M.wr5 {S : St} {i : Nat} {x : Int32} {ν : Mem} (K : K_M S i ν) : K_M S i (mSI ν 1305 0 0 x) := K.wr (by decide)
theorem opens_ok {S : St} {s dep : Nat} {ν : Mem} (K : K_M S s ν) (h5 : mI ν 1305 0 0 = nI dep) (h6 : dep < 6) : ∃ ν', M_opens ν = some ν' ∧ K_M S (s + 1) ν' ∧ mI ν' 1305 0 0 = nI (dep + 1) ∧ Fr [1303, 1305] ν ν' := by
  refine ⟨mSI (mSI ν 1305 0 0 (nI (dep + 1))) 1303 0 0 (nI (s + 1)), ?_, (K.wr5).at, (iS_v (by decide)).trans iS_eq, fr_si (by simp) (fr_si (by simp) Fr.refl)⟩
  unfold M_opens
  rw [h5, if_neg (fun z => absurd ((eq_n (by omega) (by omega)).mp z) (by omega)), bS, h5, add_n, bS, iS_v (show (1303 : Nat) ≠ 1305 by decide), K.2.1, add_n, bS]
theorem opens_no {S : St} {s : Nat} {ν : Mem} (K : K_M S s ν) (h5 : mI ν 1305 0 0 = nI 6) : ∃ ν', M_opens ν = some ν' ∧ mI ν' 1304 0 0 = nI s ∧ Fr [1303, 1304, 1305] ν ν' := by
  obtain ⟨ν1, b1, b2, b3⟩ := bad_M K
  refine ⟨mSI (mSI ν1 1305 0 0 ((mI ν1 1305 0 0) + nI 1)) 1303 0 0 ((mI ν1 1303 0 0) + nI 1), ?_, (iS_v (by decide)).trans ((iS_v (by decide)).trans b2), fr_si (by simp) (fr_si (by simp) (b3.mono (by simp)))⟩
  unfold M_opens
  rw [h5, if_pos rfl, b1, bS, bS, bS, iS_v (show (1303 : Nat) ≠ 1305 by decide), bS]
theorem closes_F {p j : Nat} {x : Int32} {ν : Mem} (hj : j < 1000000) (h : FM p j ν) : ∃ ν', M_closes x ν = some ν' ∧ FM p j ν' ∧ Ft (XLM p) ν ν' := by
  have Fz : Ft (fun v r c => v = 1303 ∨ v = 1305) ν (mSI (mSI ν 1303 0 0 ((mI ν 1303 0 0) + (nI 1))) 1305 0 0 ((mI ν 1305 0 0) - nI 1)) := (Ft.refl.si (Or.inl rfl)).si (Or.inr rfl)
  refine ⟨_, ?_, h.ft Fz (fun v r c hv => by omega), Fz.mono fun v r c z => ?_⟩
  · unfold M_closes
    rw [h.1, if_neg (fun z => neg_n hj z.symm), bS, bS, iS_v (show (1305 : Nat) ≠ 1303 by decide), bS]
  · rcases z with z | z
    · exact Or.inl z
    · exact Or.inr (Or.inr (Or.inl z))
theorem closes_M {S : St} {i c dep : Nat} {ν : Mem} (W : W_tp S) (K : K_M S i ν) (hi : i ≤ nTp S) (h5 : mI ν 1305 0 0 = nI (dep + 1)) : (lkI S i = nI c → ∃ ν', M_closes (nI c) ν = some ν' ∧ K_M S (skp S i + 1) ν' ∧ mI ν' 1305 0 0 = nI dep ∧ Fr [1303, 1305] ν ν') ∧ (¬ lkI S i = nI c → ∃ ν', M_closes (nI c) ν = some ν' ∧ mI ν' 1304 0 0 = nI (skp S i) ∧ Fr [1303, 1304, 1305] ν ν') := by
  obtain ⟨ν1, q1, q2, q3⟩ := look_M W K hi
  have g5 : mI ν1 1305 0 0 = nI (dep + 1) := by rw [q3.i 1305 (by decide)]; exact h5
  refine ⟨fun h => ?_, fun h => ?_⟩
  · refine ⟨mSI (mSI ν1 1303 0 0 (nI (skp S i + 1))) 1305 0 0 (nI dep), ?_, (q2.at).wr5, iS_eq, fr_si (by simp) (fr_si (by simp) (q3.mono (by simp)))⟩
    unfold M_closes
    rw [K.2.2, if_pos rfl, q1, bS]
    simp only []
    rw [if_pos h, bS, q2.2.1, add_n, bS, iS_v (show (1305 : Nat) ≠ 1303 by decide), g5, sub_n (by omega), Nat.add_sub_cancel, bS]
  · obtain ⟨ν4, x1, x2, x3⟩ := bad_M q2
    refine ⟨mSI (mSI ν4 1303 0 0 ((mI ν4 1303 0 0) + (nI 1))) 1305 0 0 ((mI ν4 1305 0 0) - nI 1), ?_, (iS_v (by decide)).trans ((iS_v (by decide)).trans x2), fr_si (by simp) (fr_si (by simp) ((q3.mono (by simp)).trans (x3.mono (by simp))))⟩
    unfold M_closes
    rw [K.2.2, if_pos rfl, q1, bS]
    simp only []
    rw [if_neg h, x1, bS, bS, bS, iS_v (show (1305 : Nat) ≠ 1303 by decide), bS]
