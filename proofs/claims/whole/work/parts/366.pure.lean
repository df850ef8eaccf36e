/-! PURE: units, truths, conditions, in both -/
theorem unit_L {S : St} {l p dep dS d dU dC : Nat} {rCond rUnit : Int32 → Int32 → Mem → Option (Int32 × Mem)} {rU rK : Mem → Option Mem} (W : W_tp S) (hl : l < 7) (hp : p < 7) (hdep : dep ≤ 6) (hSum : Lock S l p dep dS false (LawReader_sum RF (nI dep)) (M_sum RF)) (h1 : 1 ≤ dS) (h2 : dS + 1 ≤ d) (hU : dep < 6 → Lock S l p (dep + 1) dU true (rUnit (nI (dep + 1)) (nI 0)) rU) (h3 : dU ≤ d) (hC : dep < 6 → Lock S l p (dep + 1) dC true (rCond (nI (dep + 1)) (nI 0)) rK) (h4 : dC ≤ d) : Lock S l p dep d true (LawReader_unit_B (LawReader_opened_B rCond rUnit) (nI dep) (nI 0)) (M_unit_B rU rK) := by
  intro i X Y μ ν KC KM hi e4 e31 e5 hX hY hXi hYi
  have hn := W.1
  have hsk := skp_le hi
  obtain ⟨μ1, a1, a2, a3⟩ := look_C W KC hi
  obtain ⟨ν1, b1, b2, b3⟩ := look_M W KM hi
  have hX1 := hX.fr a3 (by decide)
  have hY1 := hY.fr b3 (by decide)
  have f4 : mI μ1 504 0 0 = nI l := by rw [a3.i 504 (by decide)]; exact e4
  have f31 : mI ν1 1331 0 0 = nI p := by rw [b3.i 1331 (by decide)]; exact e31
  have f5 : mI ν1 1305 0 0 = nI dep := by rw [b3.i 1305 (by decide)]; exact e5
  have cls : LawReader_unit_B (LawReader_opened_B rCond rUnit) (nI dep) (nI 0) μ = (LawReader_opensUnit (lkI S i)).bind fun x3 => if x3 = 0 then ((LawReader_sum RF (nI dep) μ1).bind fun (x8, μ9) => if x8 = 0 then (mRz (nI 0)).bind fun z => some (z, μ9) else cmpC (nI dep) μ9) else (LawReader_opened_B rCond rUnit (nI dep) μ1).bind fun (x4, μ5) => (mRz x4).bind fun z => some (z, μ5) := by
    unfold LawReader_unit_B kj cmpC
    simp only [if_pos z00]
    rw [a1, bS]
  have ref : M_unit_B rU rK ν = if lkI S i = (nI 33) then ((M_opens ν1).bind fun μ8 => if (mI μ8 1304 0 0) = (-1) then ((rU μ8).bind fun μ9 => (M_put (nI 9) (nI 0) μ9).bind fun μ10 => (some (mSI μ10 1305 0 0 ((mI μ10 1305 0 0) - (nI 1)))).bind fun μ11 => some μ11) else some μ8) else if lkI S i = (nI 40) then ((M_opens ν1).bind fun μ5 => if (mI μ5 1304 0 0) = (-1) then ((rK μ5).bind fun μ6 => (M_closes (nI 41) μ6).bind fun μ7 => some μ7) else some μ5) else (M_sum RF ν1).bind fun μ3 => if (mI μ3 1304 0 0) = (-1) then ((M_compare μ3).bind fun μ4 => some μ4) else some μ3 := by
    unfold M_unit_B
    rw [b1, bS]
  obtain ⟨μw, w1, w2, w3⟩ := wrong_C a2
  have FCw : Ft (XL l) μ μw := (xl_fr a3 (by decide)).trans (xl_fr w3 (by decide))
  -- opened too deep
  have deep : dep = 6 → LawReader_opened_B rCond rUnit (nI dep) μ1 = some (nI 0, μw) ∧ ∃ ν', M_opens ν1 = some ν' ∧ mI ν' 1304 0 0 = nI (skp S i) ∧ FM p (skp S i) ν' ∧ Ft (XLM p) ν ν' := fun h6 => by
    subst h6
    obtain ⟨ν', o1, o2, o3⟩ := opens_no b2 f5
    refine ⟨?_, ν', o1, o2, FM_of f31 hY1 (by omega) o3 o2, (xlm_fr b3 (by decide)).trans (xlm_fr o3 (by decide))⟩
    unfold LawReader_opened_B
    rw [if_neg (by decide), w1, bS]
    simp only []
    rw [rz_0, bS]
  by_cases h33 : lkI S i = nI 33
  · have hop : LawReader_opensUnit (lkI S i) = some (nI 1) := by rw [h33]; rfl
    rw [hop, bS, if_neg n10] at cls
    rw [if_pos h33] at ref
    by_cases h6 : dep < 6
    · have hin := lk_in (by decide) h33
      obtain ⟨ν2, o1, o2, o3, o4⟩ := opens_ok b2 f5 h6
      obtain ⟨μ2, t1, t2, t3⟩ := takes_C (c := 40) W a2 hsk.2 (by decide)
      rw [lk_lk hi, h33, if_neg (by decide), skp_skp hi] at t2
      rw [lk_lk hi, h33, if_neg (by decide)] at t1
      obtain ⟨μ3, s1, s2, s3⟩ := step_C W t2 hin
      have cO : LawReader_opened_B rCond rUnit (nI dep) μ1 = (rUnit (nI (dep + 1)) (nI 0) μ3).bind fun (x4, μ5) => if x4 = 0 then (mRz (nI 0)).bind fun z => some (z, μ5) else (Laws_emit (nI 10109) μ5).bind fun μ6 => (mRz (nI 1)).bind fun z => some (z, μ6) := by
        unfold LawReader_opened_B
        rw [if_pos ((lt_n (by omega) (by omega)).mpr h6), t1, bS]
        simp only []
        rw [if_pos z00, s1, bS, add_n]
      rw [o1, bS, o2.2.2, if_pos rfl] at ref
      rcases hU h6 (skp S i + 1) X Y μ3 ν2 s2 o2 (by omega) (by rw [s3.i 504 (by decide), t3.i 504 (by decide)]; exact f4) (by rw [o4.i 1331 (by decide)]; exact f31) o3 ((hX1.fr t3 (by decide)).fr s3 (by decide)) (hY1.fr o4 (by decide)) (by omega) (by omega) with ⟨j, μ', ν', r1, r2, r3, r4, r5, r6, r7⟩ | ⟨c', i', μ', ν', r1, r2, r3, r4, r5, r6, r7, r8, r9, r10, r11, r12⟩
      · left
        obtain ⟨ν4, y1, y2, y3⟩ := put_F (x := nI 9) (y := nI 0) hp r6
        have Fz : Fr [1305] ν4 (mSI ν4 1305 0 0 ((mI ν4 1305 0 0) - (nI 1))) := fr_si (by simp) Fr.refl
        rw [r2, bS] at cO
        simp only [] at cO
        rw [if_pos z00, rz_0, bS] at cO
        rw [cO, bS] at cls
        simp only [] at cls
        rw [rz_0, bS] at cls
        rw [r5, bS, y1, bS, bS] at ref
        exact ⟨j, μ', _, r1, cls, r3, (((xl_fr a3 (by decide)).trans (xl_fr t3 (by decide))).trans (xl_fr s3 (by decide))).trans r4, ref, y2.ft (Ft.of (X := fun v r c => v = 1305) Fz fun v hv r c => by simpa using hv) (fun v r c hv => by omega), ((((xlm_fr b3 (by decide)).trans (xlm_fr o4 (by decide))).trans r7).trans (y3.mono fun v r c => pt_XLM)).trans (xlm_fr Fz (by decide))⟩
      · right
        have hlenX : (X ++ c').length < 120 := by rw [List.length_append]; omega
        have hlenY : (Y ++ c').length < 260 := by rw [List.length_append]; omega
        obtain ⟨μ4, m1, m2, m3⟩ := emit_C (s := 10109) hl hlenX (show mI μ' 504 0 0 = nI l by rw [xl4 r7, s3.i 504 (by decide), t3.i 504 (by decide)]; exact f4) r6
        obtain ⟨ν4, p1, p2, p3⟩ := put_M (s := 10109) hp hlenY (show mI ν' 1331 0 0 = nI p by rw [xlm31 r12, o4.i 1331 (by decide)]; exact f31) r11
        have p1 : M_put (nI 9) (nI 0) ν' = some ν4 := p1
        rw [r4, bS] at cO
        simp only [] at cO
        rw [if_neg n10, m1, bS, rz_1, bS] at cO
        rw [cO, bS] at cls
        simp only [] at cls
        rw [rz_1, bS] at cls
        have g5 : mI ν4 1305 0 0 = nI (dep + 1) := by rw [p3 1305 0 0 (by unfold XPt; omega)]; exact r10
        rw [r8, bS, p1, bS, g5, sub_n (by omega), Nat.add_sub_cancel, bS] at ref
        have Fz : Fr [1305] ν4 (mSI ν4 1305 0 0 (nI dep)) := fr_si (by simp) Fr.refl
        have hlen : (c' ++ [10109]).length = c'.length + 1 := by rw [List.length_append, List.length_singleton]
        rw [List.append_assoc] at m2 p2
        exact ⟨c' ++ [10109], i', μ4, _, (Frag_not r1).mono h3, by omega, r3, cls, r5.ft m3 (fun r c => by omega), m2, ((((xl_fr a3 (by decide)).trans (xl_fr t3 (by decide))).trans (xl_fr s3 (by decide))).trans r7).trans (m3.mono fun v r c => em_XL), ref, (r9.ft p3 (fun r c => by unfold XPt; omega)).wr5, iS_eq, p2.fr Fz (by decide), ((((xlm_fr b3 (by decide)).trans (xlm_fr o4 (by decide))).trans r12).trans (p3.mono fun v r c => pt_XLM)).trans (xlm_fr Fz (by decide))⟩
    · left
      obtain ⟨d1, ν', d2, d3, d4, d5⟩ := deep (by omega)
      rw [d1, bS] at cls
      simp only [] at cls
      rw [rz_0, bS] at cls
      rw [d2, bS, d3, if_neg (fun z => neg_n (by omega) z.symm)] at ref
      exact ⟨skp S i, μw, ν', hsk.2, cls, w2, FCw, ref, d4, d5⟩
  rw [if_neg h33] at ref
  by_cases h40 : lkI S i = nI 40
  · have hop : LawReader_opensUnit (lkI S i) = some (nI 1) := by rw [h40]; rfl
    rw [hop, bS, if_neg n10] at cls
    rw [if_pos h40] at ref
    by_cases h6 : dep < 6
    · have hin := lk_in (by decide) h40
      obtain ⟨ν2, o1, o2, o3, o4⟩ := opens_ok b2 f5 h6
      obtain ⟨μ2, t1, t2, t3⟩ := takes_C (c := 40) W a2 hsk.2 (by decide)
      rw [lk_lk hi, if_pos h40, skp_skp hi] at t2
      rw [lk_lk hi, if_pos h40] at t1
      have cO : LawReader_opened_B rCond rUnit (nI dep) μ1 = (rCond (nI (dep + 1)) (nI 0) μ2).bind fun (x7, μ8) => if x7 = 0 then (mRz (nI 0)).bind fun z => some (z, μ8) else (Tape_takes (nI 41) μ8).bind fun (x9, μ10) => if x9 = 0 then ((Tape_wrongHere μ10).bind fun (x11, μ12) => if x11 = 0 then (mRz (nI 0)).bind fun z => some (z, μ12) else (mRz (nI 1)).bind fun z => some (z, μ12)) else (mRz (nI 1)).bind fun z => some (z, μ10) := by
        unfold LawReader_opened_B
        rw [if_pos ((lt_n (by omega) (by omega)).mpr h6), t1, bS]
        simp only []
        rw [if_neg n10, add_n]
      rw [o1, bS, o2.2.2, if_pos rfl] at ref
      rcases hC h6 (skp S i + 1) X Y μ2 ν2 t2 o2 (by omega) (by rw [t3.i 504 (by decide)]; exact f4) (by rw [o4.i 1331 (by decide)]; exact f31) o3 (hX1.fr t3 (by decide)) (hY1.fr o4 (by decide)) (by omega) (by omega) with ⟨j, μ', ν', r1, r2, r3, r4, r5, r6, r7⟩ | ⟨c', i', μ', ν', r1, r2, r3, r4, r5, r6, r7, r8, r9, r10, r11, r12⟩
      · left
        obtain ⟨ν4, y1, y2, y3⟩ := closes_F (x := nI 41) (show j < 1000000 by omega) r6
        rw [r2, bS] at cO
        simp only [] at cO
        rw [if_pos z00, rz_0, bS] at cO
        rw [cO, bS] at cls
        simp only [] at cls
        rw [rz_0, bS] at cls
        rw [r5, bS, y1, bS] at ref
        exact ⟨j, μ', ν4, r1, cls, r3, ((xl_fr a3 (by decide)).trans (xl_fr t3 (by decide))).trans r4, ref, y2, (((xlm_fr b3 (by decide)).trans (xlm_fr o4 (by decide))).trans r7).trans y3⟩
      · have hsk2 := skp_le r3
        obtain ⟨μ3, u1, u2, u3⟩ := takes_C (c := 41) W r5 r3 (by decide)
        obtain ⟨cl1, cl2⟩ := closes_M (c := 41) W r9 r3 r10
        have FC3 : Ft (XL l) μ μ3 := (((xl_fr a3 (by decide)).trans (xl_fr t3 (by decide))).trans r7).trans (xl_fr u3 (by decide))
        have FM3 : Ft (XLM p) ν ν' := ((xlm_fr b3 (by decide)).trans (xlm_fr o4 (by decide))).trans r12
        rw [r4, bS] at cO
        simp only [] at cO
        rw [if_neg n10, u1, bS] at cO
        simp only [] at cO
        rw [r8, bS] at ref
        by_cases h41 : lkI S i' = nI 41
        · right
          have hin2 := lk_in (by decide) h41
          obtain ⟨ν4, q1, q2, q3, q4⟩ := cl1 h41
          rw [if_pos h41] at u2 cO
          rw [if_neg n10, rz_1, bS] at cO
          rw [cO, bS] at cls
          simp only [] at cls
          rw [rz_1, bS] at cls
          rw [q1, bS] at ref
          exact ⟨c', skp S i' + 1, μ3, ν4, r1.mono h4, by omega, by omega, cls, u2, r6.fr u3 (by decide), FC3, ref, q2, q3, r11.fr q4 (by decide), FM3.trans (xlm_fr q4 (by decide))⟩
        · left
          obtain ⟨ν4, q1, q2, q3⟩ := cl2 h41
          rw [if_neg h41] at u2 cO
          obtain ⟨μ4, v1, v2, v3⟩ := wrong_C u2
          rw [if_pos z00, v1, bS] at cO
          simp only [] at cO
          rw [if_pos z00, rz_0, bS] at cO
          rw [cO, bS] at cls
          simp only [] at cls
          rw [rz_0, bS] at cls
          rw [q1, bS] at ref
          exact ⟨skp S i', μ4, ν4, hsk2.2, cls, v2, FC3.trans (xl_fr v3 (by decide)), ref, FM_of (by rw [xlm31 r12, o4.i 1331 (by decide)]; exact f31) r11 (by rw [List.length_append]; omega) q3 q2, FM3.trans (xlm_fr q3 (by decide))⟩
    · left
      obtain ⟨d1, ν', d2, d3, d4, d5⟩ := deep (by omega)
      rw [d1, bS] at cls
      simp only [] at cls
      rw [rz_0, bS] at cls
      rw [d2, bS, d3, if_neg (fun z => neg_n (by omega) z.symm)] at ref
      exact ⟨skp S i, μw, ν', hsk.2, cls, w2, FCw, ref, d4, d5⟩
  rw [if_neg h40] at ref
  have hop : LawReader_opensUnit (lkI S i) = some (nI 0) := by
    unfold LawReader_opensUnit
    rw [if_neg h33, if_neg h40, rz_0]
  rw [hop, bS, if_pos z00] at cls
  have hcmp : LockP S l p dep (Frag dS false) (dS + 1) true (cmpC (nI dep)) (fun μ3 => if (mI μ3 1304 0 0) = (-1) then ((M_compare μ3).bind fun μ4 => some μ4) else some μ3) := by
    intro i X Y c μ ν KC KM hi e4 e31 e5 hX hY hXi hYi hF
    have e : (fun μ3 => if (mI μ3 1304 0 0) = (-1) then ((M_compare μ3).bind fun μ4 => some μ4) else some μ3) ν = M_compare ν := by
      simp only []
      rw [if_pos KM.2.2, bind_id]
    rw [e]
    exact cmp_L W hl hp h1 hSum i X Y c μ ν KC KM hi e4 e31 e5 hX hY hXi hYi hF
  have hst : Stay p (fun μ3 => if (mI μ3 1304 0 0) = (-1) then ((M_compare μ3).bind fun μ4 => some μ4) else some μ3) := fun j ν hj h => ⟨ν, if_neg (fun z => neg_n hj (z.symm.trans h.1)), h, Ft.refl⟩
  have hseq := (seq_L W hSum.toP hcmp hst).of
  rcases hseq (skp S i) X Y μ1 ν1 a2 b2 hsk.2 f4 f31 f5 hX1 hY1 (by omega) (by omega) with ⟨j, μ', ν', r1, r2, r3, r4, r5, r6, r7⟩ | ⟨c', i', μ', ν', r1, r2, r3, r4, r5, r6, r7, r8, r9, r10, r11, r12⟩
  · exact Or.inl ⟨j, μ', ν', r1, cls.trans r2, r3, (xl_fr a3 (by decide)).trans r4, ref.trans r5, r6, (xlm_fr b3 (by decide)).trans r7⟩
  · exact Or.inr ⟨c', i', μ', ν', r1.mono h2, by omega, r3, cls.trans r4, r5, r6, (xl_fr a3 (by decide)).trans r7, ref.trans r8, r9, r10, r11, (xlm_fr b3 (by decide)).trans r12⟩
theorem sumRF {S : St} {l p e : Nat} (W : W_tp S) (hl : l < 7) (hp : p < 7) (he : e ≤ 6) : Lock S l p (6 - e) (3 + 2 * e) false (LawReader_sum RF (nI (6 - e))) (M_sum RF) :=
  sums_L W hl hp e he RF RF (show 3 * e + 3 ≤ 60 by omega) (show 3 * e + 3 ≤ 60 by omega)
/-- a truth: a unit, then others; the first part by any reader -/
theorem truth_P {S : St} {l p dep d0 d2 : Nat} {b0 : Bool} {P : List Nat → Prop} {B1 : Mem → Option (Int32 × Mem)} {M1 : Mem → Option Mem} {rC : Int32 → Int32 → Mem → Option (Int32 × Mem)} {rM : Mem → Option Mem} {a2 : Int32} (W : W_tp S) (hl : l < 7) (hp : p < 7) (hd : 1 ≤ d2) (h1 : LockP S l p dep P d2 true (rC (nI dep) a2) M1) (hu : Lock S l p dep d2 true (rC (nI dep) (nI 0)) rM) : LockP S l p dep P (d2 + 1) true (LawReader_truth_B rC (nI dep) a2) (fun ν => (M1 ν).bind (hMl 38 10 rM FU)) := by
  have h2 := loopP_L (c := 38) (s := 10107) (k := 10) (d := d2 + 1) W hl hp hu (Nat.le_refl _) (by omega) (by decide) (by unfold vbn; omega) (by decide)
  have := seq_L W h1 h2 (hM_stay (n := 999999))
  have eC : LawReader_truth_B rC (nI dep) a2 = fun μ => (rC (nI dep) a2 μ).bind fun (x1, μ2) => if x1 = 0 then (mRz (nI 0)).bind fun z => some (z, μ2) else hCl 38 10107 (rC (nI dep) (nI 0)) FU (nI 0) μ2 := by
    funext μ
    unfold LawReader_truth_B
    rw [truthC_g]
  rw [eC]
  exact this
theorem cond_P {S : St} {l p dep d2 : Nat} {P : List Nat → Prop} {M1 : Mem → Option Mem} {rC : Int32 → Int32 → Mem → Option (Int32 × Mem)} {rM : Mem → Option Mem} {a2 : Int32} (W : W_tp S) (hl : l < 7) (hp : p < 7) (hd : 1 ≤ d2) (h1 : LockP S l p dep P d2 true (rC (nI dep) a2) M1) (hu : Lock S l p dep d2 true (rC (nI dep) (nI 0)) rM) : LockP S l p dep P (d2 + 1) true (LawReader_condition_B rC (nI dep) a2) (fun ν => (M1 ν).bind (hMl 124 11 rM FU)) := by
  have h2 := loopP_L (c := 124) (s := 10108) (k := 11) (d := d2 + 1) W hl hp hu (Nat.le_refl _) (by omega) (by decide) (by unfold vbn; omega) (by decide)
  have := seq_L W h1 h2 (hM_stay (n := 999999))
  have eC : LawReader_condition_B rC (nI dep) a2 = fun μ => (rC (nI dep) a2 μ).bind fun (x1, μ2) => if x1 = 0 then (mRz (nI 0)).bind fun z => some (z, μ2) else hCl 124 10108 (rC (nI dep) (nI 0)) FU (nI 0) μ2 := by
    funext μ
    unfold LawReader_condition_B
    rw [condC_g]
  rw [eC]
  exact this
theorem truth_L {S : St} {l p dep d2 : Nat} {rC : Int32 → Int32 → Mem → Option (Int32 × Mem)} {rM : Mem → Option Mem} (W : W_tp S) (hl : l < 7) (hp : p < 7) (hd : 1 ≤ d2) (hu : Lock S l p dep d2 true (rC (nI dep) (nI 0)) rM) : Lock S l p dep (d2 + 1) true (LawReader_truth_B rC (nI dep) (nI 0)) (M_truth_B rM) := by
  have := (truth_P (b0 := true) (d0 := 0) (B1 := fun _ => none) W hl hp hd hu.toP hu).of
  have eM : M_truth_B rM = fun ν => (rM ν).bind (hMl 38 10 rM FU) := by
    funext ν
    unfold M_truth_B
    rw [truthM_g]
    cases rM ν with
    | none => rfl
    | some s => rw [bS, bS, bind_id]
  rw [eM]
  exact this
theorem cond_L {S : St} {l p dep d2 : Nat} {rC : Int32 → Int32 → Mem → Option (Int32 × Mem)} {rM : Mem → Option Mem} (W : W_tp S) (hl : l < 7) (hp : p < 7) (hd : 1 ≤ d2) (hu : Lock S l p dep d2 true (rC (nI dep) (nI 0)) rM) : Lock S l p dep (d2 + 1) true (LawReader_condition_B rC (nI dep) (nI 0)) (M_condition_B rM) := by
  have := (cond_P W hl hp hd hu.toP hu).of
  have eM : M_condition_B rM = fun ν => (rM ν).bind (hMl 124 11 rM FU) := by
    funext ν
    unfold M_condition_B
    rw [condM_g]
    cases rM ν with
    | none => rfl
    | some s => rw [bS, bS, bind_id]
  rw [eM]
  exact this
