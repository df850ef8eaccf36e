/-! PURE: an atom of a law that is read, in both -/
theorem FM_of {p i : Nat} {Y : List Nat} {ν ν' : Mem} (e31 : mI ν 1331 0 0 = nI p) (h : LM p Y ν) (hY : Y.length ≤ 260) (F : Fr [1303, 1304, 1305] ν ν') (hj : mI ν' 1304 0 0 = nI i) : FM p i ν' :=
  ⟨hj, by rw [F.i 1331 (by decide)]; exact e31, Y.length, hY, by rw [F.i 1325 (by decide)]; exact h.1⟩
theorem atom_L {S : St} {l p dep d : Nat} {rC : Int32 → Mem → Option (Int32 × Mem)} {rM : Mem → Option Mem} (W : W_tp S) (hl : l < 7) (hp : p < 7) (hdep : dep ≤ 6) (hd1 : 1 ≤ d) (hs : dep < 6 → Lock S l p (dep + 1) d false (rC (nI (dep + 1))) rM) : Lock S l p dep d false (LawReader_atom_B rC (nI dep)) (M_atom_B rM) := by
  intro i X Y μ ν KC KM hi e4 e31 e5 hX hY hXi hYi
  have hn := W.1
  have hsk := skp_le hi
  obtain ⟨μ1, a1, a2, a3⟩ := look_C W KC hi
  obtain ⟨ν1, b1, b2, b3⟩ := look_M W KM hi
  obtain ⟨s, hss⟩ : ∃ s, s = skp S i := ⟨_, rfl⟩
  have hlk : lkI S i = hrI S s := by rw [hss]; rfl
  rw [← hss] at a2 b2 hsk
  have hsss : skp S s = s := by rw [hss]; exact skp_skp hi
  have f4 : mI μ1 504 0 0 = nI l := by rw [a3.i 504 (by decide)]; exact e4
  have f31 : mI ν1 1331 0 0 = nI p := by rw [b3.i 1331 (by decide)]; exact e31
  have f5 : mI ν1 1305 0 0 = nI dep := by rw [b3.i 1305 (by decide)]; exact e5
  have hX1 := hX.fr a3 (by decide)
  have hY1 := hY.fr b3 (by decide)
  have cls : LawReader_atom_B rC (nI dep) μ = (B_isDigit (lkI S i)).bind fun x3 => if x3 = 0 then ((LawReader_letterOf (lkI S i)).bind fun x4 => if x4 = (-1) then (if lkI S i = (nI 91) then (if nI dep < (nI 6) then ((Tape_step μ1).bind fun μ7 => (rC (nI dep + (nI 1)) μ7).bind fun (x8, μ9) => if x8 = 0 then (mRz (nI 0)).bind fun z => some (z, μ9) else (Tape_takes (nI 93) μ9).bind fun (x10, μ11) => if x10 = 0 then ((Tape_wrongHere μ11).bind fun (x12, μ13) => if x12 = 0 then (mRz (nI 0)).bind fun z => some (z, μ13) else (mRz (nI 1)).bind fun z => some (z, μ13)) else (mRz (nI 1)).bind fun z => some (z, μ11)) else (Tape_wrongHere μ1).bind fun (x14, μ15) => (mRz x14).bind fun z => some (z, μ15)) else (Tape_wrongHere μ1).bind fun (x5, μ6) => (mRz x5).bind fun z => some (z, μ6)) else (Tape_step μ1).bind fun μ16 => (Laws_emit ((nI 10000) + x4) μ16).bind fun μ17 => (mRz (nI 1)).bind fun z => some (z, μ17)) else (Tape_readNumber (nI 4) μ1).bind fun (x18, μ19) => (Laws_emit x18 μ19).bind fun μ20 => if x18 = (-1) then (mRz (nI 0)).bind fun z => some (z, μ20) else (mRz (nI 1)).bind fun z => some (z, μ20) := by
    unfold LawReader_atom_B
    rw [a1, bS]
  have ref : M_atom_B rM ν = (M_isDigit (lkI S i)).bind fun x3 => if x3 = 0 then ((M_letterOf (lkI S i)).bind fun x4 => if x4 = (-1) then (if lkI S i = (nI 91) then ((M_opens ν1).bind fun μ6 => if (mI μ6 1304 0 0) = (-1) then ((rM μ6).bind fun μ7 => (M_closes (nI 93) μ7).bind fun μ8 => some μ8) else some μ6) else (M_bad ν1).bind fun μ5 => some μ5) else (some (mSI ν1 1303 0 0 ((mI ν1 1303 0 0) + (nI 1)))).bind fun μ9 => (M_letterOf (lkI S i)).bind fun x10 => (M_put (nI 1) x10 μ9).bind fun μ11 => some μ11) else (M_atom_l1 rM FU (nI 0) (nI 0) ν1).bind fun (x12, μ13) => (M_here μ13).bind fun x14 => (M_isDigit x14).bind fun x15 => (if x15 = 0 then some μ13 else (M_bad μ13).bind fun μ16 => some μ16).bind fun μ17 => (M_put (nI 0) x12 μ17).bind fun μ18 => some μ18 := by
    unfold M_atom_B
    rw [b1, bS]
  rw [dig_M] at ref
  obtain ⟨μw, w1, w2, w3⟩ := wrong_C a2
  obtain ⟨νw, v1, v2, v3⟩ := bad_M b2
  have FCw : Ft (XL l) μ μw := (xl_fr a3 (by decide)).trans (xl_fr w3 (by decide))
  have FMw : Ft (XLM p) ν νw := (xlm_fr b3 (by decide)).trans (xlm_fr v3 (by decide))
  have FMf : FM p s νw := FM_of f31 hY1 (by omega) (v3.mono (by simp)) v2
  cases hd : dgN S s with
  | none =>
    have e0 := dg_no W hd
    rw [← hlk] at e0
    rw [e0, bS, if_pos z00] at cls ref
    rcases let_or (lkI S i) with ⟨l1, l2⟩ | ⟨t, ht, ⟨b, hb, hxb⟩, l1, l2⟩
    · rw [l1, bS, if_pos rfl] at cls
      rw [l2, bS, if_pos rfl] at ref
      by_cases h91 : lkI S i = nI 91
      · rw [if_pos h91] at cls ref
        have hin : s < nTp S := by rw [hss]; exact lk_in (by decide) h91
        by_cases h6 : dep < 6
        · obtain ⟨μ2, s1, s2, s3⟩ := step_C W a2 hin
          obtain ⟨ν2, k2⟩ : ∃ z, z = mSI (mSI ν1 1305 0 0 (nI (dep + 1))) 1303 0 0 (nI (s + 1)) := ⟨_, rfl⟩
          have F2 : Fr [1303, 1305] ν1 ν2 := by rw [k2]; exact fr_si (by simp) (fr_si (by simp) Fr.refl)
          have K2 : K_M S (s + 1) ν2 := by rw [k2]; exact K_M.at (i := s) ⟨⟨(iS_v (by decide)).trans b2.1.1, fun k hk => (iS_v (by decide)).trans (b2.1.2 k hk)⟩, (iS_v (by decide)).trans b2.2.1, (iS_v (by decide)).trans b2.2.2⟩
          have g5 : mI ν2 1305 0 0 = nI (dep + 1) := by rw [k2]; exact (iS_v (by decide)).trans iS_eq
          have op : M_opens ν1 = some ν2 := by
            unfold M_opens
            rw [f5, if_neg (fun z => absurd ((eq_n (by omega) (by omega)).mp z) (by omega)), bS, f5, add_n, bS, iS_v (show (1303 : Nat) ≠ 1305 by decide), b2.2.1, add_n, ← k2, bS]
          rw [if_pos ((lt_n (by omega) (by omega)).mpr h6), s1, bS, add_n] at cls
          rw [op, bS, K2.2.2, if_pos rfl] at ref
          rcases hs h6 (s + 1) X Y μ2 ν2 s2 K2 (by omega) (by rw [s3.i 504 (by decide)]; exact f4) (by rw [F2.i 1331 (by decide)]; exact f31) g5 (hX1.fr s3 (by decide)) (hY1.fr F2 (by decide)) (by omega) (by omega) with ⟨j, μ', ν', r1, r2, r3, r4, r5, r6, r7⟩ | ⟨c, i', μ', ν', r1, r2, r3, r4, r5, r6, r7, r8, r9, r10, r11, r12⟩
          · left
            obtain ⟨νz, hz⟩ : ∃ z, z = mSI (mSI ν' 1303 0 0 ((mI ν' 1303 0 0) + (nI 1))) 1305 0 0 ((mI ν' 1305 0 0) - nI 1) := ⟨_, rfl⟩
            have Fz : Ft (fun v r c => v = 1303 ∨ v = 1305) ν' νz := by rw [hz]; exact (Ft.refl.si (Or.inl rfl)).si (Or.inr rfl)
            have cl : M_closes (nI 93) ν' = some νz := by
              unfold M_closes
              rw [r6.1, if_neg (fun z => neg_n (by omega) z.symm), bS, bS, iS_v (show (1305 : Nat) ≠ 1303 by decide), bS, ← hz]
            rw [r2, bS] at cls
            simp only [] at cls
            rw [if_pos z00, rz_0, bS] at cls
            rw [r5, bS, cl, bS] at ref
            refine ⟨j, μ', νz, r1, cls, r3, ((xl_fr a3 (by decide)).trans (xl_fr s3 (by decide))).trans r4, ref, r6.ft Fz (fun v r c hv => by omega), (((xlm_fr b3 (by decide)).trans (xlm_fr F2 (by decide))).trans r7).trans (Fz.mono fun v r c z => ?_)⟩
            rcases z with z | z
            · exact Or.inl z
            · exact Or.inr (Or.inr (Or.inl z))
          · have hsk2 := skp_le r3
            obtain ⟨μ3, t1, t2, t3⟩ := takes_C (c := 93) W r5 r3 (by decide)
            obtain ⟨ν3, q1, q2, q3⟩ := look_M W r9 r3
            have g5' : mI ν3 1305 0 0 = nI (dep + 1) := by rw [q3.i 1305 (by decide)]; exact r10
            have FC3 : Ft (XL l) μ μ3 := (((xl_fr a3 (by decide)).trans (xl_fr s3 (by decide))).trans r7).trans (xl_fr t3 (by decide))
            have FM3 : Ft (XLM p) ν ν3 := (((xlm_fr b3 (by decide)).trans (xlm_fr F2 (by decide))).trans r12).trans (xlm_fr q3 (by decide))
            rw [r4, bS] at cls
            simp only [] at cls
            rw [if_neg n10, t1, bS] at cls
            simp only [] at cls
            rw [r8, bS] at ref
            by_cases h93 : lkI S i' = nI 93
            · right
              rw [if_pos h93] at t2 cls
              rw [if_neg n10, rz_1, bS] at cls
              have hin2 := lk_in (by decide) h93
              obtain ⟨νz, hz⟩ : ∃ z, z = mSI (mSI ν3 1303 0 0 (nI (skp S i' + 1))) 1305 0 0 (nI dep) := ⟨_, rfl⟩
              have Fz : Fr [1303, 1305] ν3 νz := by rw [hz]; exact fr_si (by simp) (fr_si (by simp) Fr.refl)
              have cl : M_closes (nI 93) ν' = some νz := by
                unfold M_closes
                rw [r9.2.2, if_pos rfl, q1, bS]
                simp only []
                rw [if_pos h93, bS, q2.2.1, add_n, bS, iS_v (show (1305 : Nat) ≠ 1303 by decide), g5', sub_n (by omega), Nat.add_sub_cancel, ← hz, bS]
              rw [cl, bS] at ref
              refine ⟨c, skp S i' + 1, μ3, νz, r1, by omega, by omega, cls, t2, r6.fr t3 (by decide), FC3, ref, ?_, by rw [hz]; exact iS_eq, (r11.fr q3 (by decide)).fr Fz (by decide), FM3.trans (xlm_fr Fz (by decide))⟩
              rw [hz]
              exact K_M.wr (q2.at) (by decide)
            · left
              rw [if_neg h93] at t2 cls
              obtain ⟨μ4, u1, u2, u3⟩ := wrong_C t2
              obtain ⟨ν4, x1, x2, x3⟩ := bad_M q2
              rw [if_pos z00, u1, bS] at cls
              simp only [] at cls
              rw [if_pos z00, rz_0, bS] at cls
              obtain ⟨νz, hz⟩ : ∃ z, z = mSI (mSI ν4 1303 0 0 ((mI ν4 1303 0 0) + (nI 1))) 1305 0 0 ((mI ν4 1305 0 0) - nI 1) := ⟨_, rfl⟩
              have Fz : Fr [1303, 1305] ν4 νz := by rw [hz]; exact fr_si (by simp) (fr_si (by simp) Fr.refl)
              have cl : M_closes (nI 93) ν' = some νz := by
                unfold M_closes
                rw [r9.2.2, if_pos rfl, q1, bS]
                simp only []
                rw [if_neg h93, x1, bS, bS, bS, iS_v (show (1305 : Nat) ≠ 1303 by decide), ← hz, bS]
              rw [cl, bS] at ref
              have hlen : Y.length + c.length ≤ 260 := by omega
              refine ⟨skp S i', μ4, νz, hsk2.2, cls, u2, FC3.trans (xl_fr u3 (by decide)), ref, FM_of (Y := Y ++ c) (ν := ν3) ?_ (r11.fr q3 (by decide)) (by rw [List.length_append]; exact hlen) ((x3.mono (by simp)).trans (Fz.mono (by simp))) ?_, (FM3.trans (xlm_fr x3 (by decide))).trans (xlm_fr Fz (by decide))⟩
              · rw [q3.i 1331 (by decide), xlm31 r12, F2.i 1331 (by decide)]; exact f31
              · rw [Fz.i 1304 (by decide)]; exact x2
        · left
          have h6e : dep = 6 := by omega
          rw [if_neg (fun z => h6 ((lt_n (by omega) (by omega)).mp z)), w1, bS] at cls
          simp only [] at cls
          rw [rz_0, bS] at cls
          obtain ⟨νz, hz⟩ : ∃ z, z = mSI (mSI νw 1305 0 0 ((mI νw 1305 0 0) + nI 1)) 1303 0 0 ((mI νw 1303 0 0) + nI 1) := ⟨_, rfl⟩
          have Fz : Fr [1303, 1305] νw νz := by rw [hz]; exact fr_si (by simp) (fr_si (by simp) Fr.refl)
          have op : M_opens ν1 = some νz := by
            unfold M_opens
            rw [f5, h6e, if_pos rfl, v1, bS, bS, bS, iS_v (show (1303 : Nat) ≠ 1305 by decide), ← hz, bS]
          have g4 : mI νz 1304 0 0 = nI s := by rw [Fz.i 1304 (by decide)]; exact v2
          rw [op, bS, g4, if_neg (fun z => neg_n (by omega) z.symm)] at ref
          exact ⟨s, μw, νz, hsk.2, cls, w2, FCw, ref, FM_of f31 hY1 (by omega) ((v3.mono (by simp)).trans (Fz.mono (by simp))) g4, FMw.trans (xlm_fr Fz (by decide))⟩
      · left
        rw [if_neg h91, w1, bS] at cls
        simp only [] at cls
        rw [rz_0, bS] at cls
        rw [if_neg h91, v1, bS] at ref
        exact ⟨s, μw, νw, hsk.2, cls, w2, FCw, ref, FMf, FMw⟩
    · right
      have hin : s < nTp S := by rw [hss]; exact lk_in (by omega) hxb
      obtain ⟨μ2, s1, s2, s3⟩ := step_C W a2 hin
      obtain ⟨μ3, m1, m2, m3⟩ := emit_C (s := 10000 + t) (X := X) hl (by omega) (show mI μ2 504 0 0 = nI l by rw [s3.i 504 (by decide)]; exact f4) (hX1.fr s3 (by decide))
      rw [l1, bS, if_neg (fun z => neg_n (by omega) z.symm), s1, bS, add_n, m1, bS, rz_1, bS] at cls
      have K2 : K_M S (s + 1) (mSI ν1 1303 0 0 (nI (s + 1))) := b2.at
      have F2 : Fr [1303] ν1 (mSI ν1 1303 0 0 (nI (s + 1))) := fr_si (by simp) Fr.refl
      obtain ⟨hc1, hc2⟩ := cd_l ht
      obtain ⟨ν3, p1, p2, p3⟩ := put_M (s := 10000 + t) (Y := Y) hp (by omega) (show mI (mSI ν1 1303 0 0 (nI (s + 1))) 1331 0 0 = nI p by rw [F2.i 1331 (by decide)]; exact f31) (hY1.fr F2 (by decide))
      rw [hc1, hc2] at p1
      rw [l2, bS, if_neg (fun z => neg_n (by omega) z.symm), b2.2.1, add_n, bS, bS, p1, bS] at ref
      refine ⟨[10000 + t], s + 1, μ3, ν3, (Frag_let ht).mono hd1, by rw [List.length_singleton]; omega, by omega, cls, s2.ft m3 (fun r c => by omega), m2, (((xl_fr a3 (by decide)).trans (xl_fr s3 (by decide)))).trans (m3.mono fun v r c => em_XL), ref, K2.ft p3 (fun r c => by unfold XPt; omega), ?_, p2, ((xlm_fr b3 (by decide)).trans (xlm_fr F2 (by decide))).trans (p3.mono fun v r c => pt_XLM)⟩
      rw [p3 1305 0 0 (by unfold XPt; omega), F2.i 1305 (by decide)]; exact f5
  | some g =>
    obtain ⟨g1, g2, g3, g4, g5⟩ := dg_at hd
    rw [← hlk] at g5
    rw [g5, bS, if_neg n10] at cls ref
    obtain ⟨n1, n2⟩ := (num_C W a2 hsk.2 (k := 4) (by omega) (by omega)).2 g (by rw [hsss]; exact hd)
    rw [hsss] at n1 n2
    have h10 : (0 + 1) * 10 ^ 4 ≤ 1000000 := by decide
    obtain ⟨ν2, q1, q2, q3⟩ := an_l W rM (k := 4) (s := s) (v := 0) (f := FU) b2 hsk.2 (by omega) (by unfold FU; decide) h10
    rw [Nat.sub_self] at q1
    have hr := rdv_le (S := S) (k := 4) (s := s) (v := 0) hsk.2
    have hr1 := rdv_s (k := 4) (v := 0) hsk.2 hd (by omega)
    obtain ⟨r, hr'⟩ : ∃ r, r = rdv S 4 s 0 := ⟨_, rfl⟩
    rw [← hr'] at n1 n2 q1 q2 hr hr1
    obtain ⟨v, s2⟩ := r
    simp only at n1 n2 q1 q2 hr hr1
    have hv : v < 10000 := by have : (0 + 1) * 10 ^ 4 = 10000 := by decide
                              omega
    rw [q1, bS] at ref
    simp only [] at ref
    rw [here_M W q2 (by omega), bS] at ref
    obtain ⟨hc1, hc2⟩ := cd_n hv
    have FMν2 : Ft (XLM p) ν ν2 := (xlm_fr b3 (by decide)).trans (xlm_fr q3 (by decide))
    have f31' : mI ν2 1331 0 0 = nI p := by rw [q3.i 1331 (by decide)]; exact f31
    cases he : dgN S s2 with
    | some e =>
      left
      obtain ⟨-, -, -, -, e5'⟩ := dg_at he
      obtain ⟨μ2, m1, m2, m3⟩ := n1 e he
      obtain ⟨μ3, m4, m5⟩ := emit_any (x := -1) (X := X) hl (by omega) (show mI μ2 504 0 0 = nI l by rw [m3.i 504 (by decide)]; exact f4) (hX1.fr m3 (by decide))
      rw [m1, bS] at cls
      simp only [] at cls
      rw [m4, bS, if_pos trivial, rz_0, bS] at cls
      obtain ⟨ν3, x1, x2, x3⟩ := bad_M q2
      have hf : FM p s2 ν3 := FM_of f31' (hY1.fr q3 (by decide)) (by omega) (x3.mono (by simp)) x2
      obtain ⟨ν4, y1, y2, y3⟩ := put_F (x := nI 0) (y := nI v) hp hf
      rw [e5', bS, if_neg n10, x1, bS, bS, y1, bS] at ref
      refine ⟨s2, μ3, ν4, hr.2.1, cls, ?_, ((xl_fr a3 (by decide)).trans (xl_fr m3 (by decide))).trans (m5.mono fun v r c => em_XL), ref, y2, (FMν2.trans (xlm_fr x3 (by decide))).trans (y3.mono fun v r c => pt_XLM)⟩
      rw [m5 1003 0 0 (by omega)]; exact m2
    | none =>
      right
      obtain ⟨μ2, m1, m2, m3⟩ := n2 he
      obtain ⟨μ3, m4, m5, m6⟩ := emit_C (s := v) (X := X) hl (by omega) (show mI μ2 504 0 0 = nI l by rw [m3.i 504 (by decide)]; exact f4) (hX1.fr m3 (by decide))
      rw [m1, bS] at cls
      simp only [] at cls
      rw [m4, bS, if_neg (fun z => neg_n (by omega) z.symm), rz_1, bS] at cls
      obtain ⟨ν3, p1, p2, p3⟩ := put_M (s := v) (Y := Y) hp (by omega) f31' (hY1.fr q3 (by decide))
      rw [hc1, hc2] at p1
      rw [dg_no W he, bS, if_pos z00, bS, p1, bS] at ref
      refine ⟨[v], s2, μ3, ν3, (Frag_num hv).mono hd1, by rw [List.length_singleton]; omega, hr.2.1, cls, m2.ft m6 (fun r c => by omega), m5, ((xl_fr a3 (by decide)).trans (xl_fr m3 (by decide))).trans (m6.mono fun v r c => em_XL), ref, q2.ft p3 (fun r c => by unfold XPt; omega), ?_, p2, FMν2.trans (p3.mono fun v r c => pt_XLM)⟩
      rw [p3 1305 0 0 (by unfold XPt; omega), q3.i 1305 (by decide)]; exact f5
