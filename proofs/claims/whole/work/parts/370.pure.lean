/-! PURE: a law's text, the whole -/
theorem laws_L {S : St} {l p : Nat} (W : W_tp S) (hl : l < 7) (hp : p < 7) : ∀ {m i f g v : Nat} {L : LawT} {Y : List Nat} {μ ν : Mem}, i + m = nTp S → m + 1 < f → m + 1 < g → v ≤ i → v < 120 → Cls S l p i L Y μ ν →
    (∃ j μ' ν', j ≤ nTp S ∧ LawReader_readsTape_l1 f (nI v) μ = some (nI 0, μ') ∧ mI μ' 1003 0 0 = nI j ∧ Ft (XL l) μ μ' ∧ ((M_clause ν).bind (M_readLaw_l1 g)).bind tailM = some (nI j, ν') ∧ Ft (XCl p) ν ν') ∨
    ∃ L' Y' μ' ν', L' ≠ [] ∧ L'.length ≤ 60 ∧ GoodC L' ∧ (encC 0 L').length ≤ 120 ∧ Y'.length ≤ 260 ∧ LawReader_readsTape_l1 f (nI v) μ = some (nI 1, μ') ∧ LC l (encC 0 L') μ' ∧ Ft (XL l) μ μ' ∧ ((M_clause ν).bind (M_readLaw_l1 g)).bind tailM = some (-1, ν') ∧ ClM p L' Y' ν' ∧ Ft (XCl p) ν ν' := by
  have hn := W.1
  intro m
  induction m using Nat.strongRecOn with
  | ind m ih =>
    intro i f g v L Y μ ν hm hf hg hvi hv I
    obtain ⟨f, rfl⟩ : ∃ z, f = z + 1 := ⟨f - 1, by omega⟩
    obtain ⟨g, rfl⟩ : ∃ z, g = z + 1 := ⟨g - 1, by omega⟩
    have cls : ∀ x μ', LawReader_clause μ = some (x, μ') → LawReader_readsTape_l1 (f + 1) (nI v) μ = if x = 0 then (mRz (nI 0)).bind fun z => some (z, μ') else (Tape_takes (nI 59) μ').bind fun (x5, μ6) => if x5 = 0 then ((Tape_look μ6).bind fun (x8, μ9) => if x8 = (-1) then (mRz (nI 1)).bind fun z => some (z, μ9) else (Tape_wrongHere μ9).bind fun (x10, μ11) => if x10 = 0 then (mRz (nI 0)).bind fun z => some (z, μ11) else (mRz (nI 1)).bind fun z => some (z, μ11)) else (some (nI v + (nI 1))).bind fun x7 => LawReader_readsTape_l1 f x7 μ6 := fun x μ' h => by
      show LawReader_readsTape_l1b (LawReader_readsTape_l1 f) (nI v) μ = _
      unfold LawReader_readsTape_l1b
      rw [if_pos ((lt_n (by omega) (by omega)).mpr hv), h, bS]
    rcases clause_L W hl hp I with ⟨j, μ', ν', r1, r2, r3, r4, r5, r6, r7⟩ | ⟨L', Y', i', μ', ν', r1, r2, r3, r4, r5, r6, r7⟩
    · left
      refine ⟨j, μ', ν', r1, ?_, r3, r4, ?_, r7⟩
      · rw [cls _ _ r2, if_pos z00, rz_0, bS]
      · have : M_readLaw_l1 (g + 1) ν' = some ν' := by
          show M_readLaw_l1b (M_readLaw_l1 g) ν' = _
          unfold M_readLaw_l1b
          rw [r6, if_neg (fun z => neg_n (by omega) z.symm)]
        rw [r5, bS, this, bS]
        exact tail_bad r6 (by omega)
    · have cl := cls _ _ r4
      rw [if_neg n10] at cl
      obtain ⟨KC, KM, hi, e4, e31, e5, hX, hY, hCl, hG, hXi, hYi, hLi⟩ := r3
      have hsk := skp_le hi
      obtain ⟨μ2, t1, t2, t3⟩ := takes_C (c := 59) W KC hi (by decide)
      obtain ⟨ν2, b1, b2, b3⟩ := look_M W KM hi
      have ref : M_readLaw_l1 (g + 1) ν' = if lkI S i' = (nI 59) then ((some (mSI ν2 1303 0 0 ((mI ν2 1303 0 0) + (nI 1)))).bind fun μ3 => (M_clause μ3).bind fun μ4 => M_readLaw_l1 g μ4) else some ν2 := by
        show M_readLaw_l1b (M_readLaw_l1 g) ν' = _
        unfold M_readLaw_l1b
        rw [KM.2.2, if_pos rfl, b1, bS]
      rw [t1, bS] at cl
      simp only [] at cl
      have FC2 : Ft (XL l) μ μ2 := r5.trans (xl_fr t3 (by decide))
      have FM2 : Ft (XCl p) ν ν2 := r7.trans ((xlm_fr b3 (by decide)).mono fun _ _ _ => xlm_cl)
      by_cases h59 : lkI S i' = nI 59
      · rw [if_pos h59] at t2 cl ref
        rw [if_neg n10, bS, add_n] at cl
        have hin := lk_in (by decide) h59
        rw [b2.2.1, add_n, bS] at ref
        obtain ⟨ν3, h3⟩ : ∃ z, z = mSI ν2 1303 0 0 (nI (skp S i' + 1)) := ⟨_, rfl⟩
        rw [← h3] at ref
        have F23 : Fr [1303] ν2 ν3 := by rw [h3]; exact fr_si (by simp) Fr.refl
        have K3 : K_M S (skp S i' + 1) ν3 := by rw [h3]; exact b2.at
        have F13 : Fr [1303] ν' ν3 := b3.trans F23
        have hCl3 : ClM p L' Y' ν3 := by
          have := hCl
          unfold ClM at this ⊢
          rw [F13.i 1326 (by decide), F13.i 1327 (by decide), F13.i 1328 (by decide), F13.i 1329 (by decide)]
          exact ⟨this.1, fun j x s hj => by
            obtain ⟨a, q1, q2, q3, q4, q5⟩ := this.2 j x s hj
            exact ⟨a, q1, q2, q3, q4, RowM_keep q5 fun i _ _ => by rw [F13.i 1323 (by decide), F13.i 1324 (by decide)]; exact ⟨rfl, rfl⟩⟩⟩
        have I3 : Cls S l p (skp S i' + 1) L' Y' μ2 ν3 := ⟨t2, K3, by omega, by rw [t3.i 504 (by decide)]; exact e4, by rw [F13.i 1331 (by decide)]; exact e31, by rw [F13.i 1305 (by decide)]; exact e5, hX.fr t3 (by decide), hY.fr F13 (by decide), hCl3, hG, by omega, by omega, by omega⟩
        have FM3 : Ft (XCl p) ν ν3 := FM2.trans ((xlm_fr F23 (by decide)).mono fun _ _ _ => xlm_cl)
        have e : ((M_clause ν).bind (M_readLaw_l1 (g + 1))).bind tailM = ((M_clause ν3).bind (M_readLaw_l1 g)).bind tailM := by
          rw [r6, bS, ref]
        rcases ih (nTp S - (skp S i' + 1)) (by omega) (i := skp S i' + 1) (f := f) (g := g) (v := v + 1) (by omega) (by omega) (by omega) (by omega) (by omega) I3 with ⟨j, μ5, ν5, q1, q2, q3, q4, q5, q6⟩ | ⟨L5, Y5, μ5, ν5, q1, q2, q3, q4, q5, q6, q7, q8, q9, q10, q11⟩
        · left
          exact ⟨j, μ5, ν5, q1, cl.trans q2, q3, FC2.trans q4, e.trans q5, FM3.trans q6⟩
        · right
          exact ⟨L5, Y5, μ5, ν5, q1, q2, q3, q4, q5, cl.trans q6, q7, FC2.trans q8, e.trans q9, q10, FM3.trans q11⟩
      · rw [if_neg h59] at t2 cl ref
        rw [if_pos z00] at cl
        obtain ⟨μ3, l1, l2, l3⟩ := look_C W t2 hsk.2
        rw [lk_lk hi] at l1
        rw [skp_skp hi] at l2
        rw [l1, bS] at cl
        simp only [] at cl
        have e : ((M_clause ν).bind (M_readLaw_l1 (g + 1))).bind tailM = tailM ν2 := by
          rw [r6, bS, ref, bS]
        rcases tail_M W b2 hsk.2 with ⟨x1, ν5, x2, x3⟩ | ⟨x1, ν5, x2, x3⟩
        · rw [lk_lk hi] at x1
          right
          rw [if_pos x1, rz_1, bS] at cl
          have F15 : Fr [1303, 1304] ν' ν5 := (b3.mono (by simp)).trans x3
          have hCl5 : ClM p L' Y' ν5 := by
            have := hCl
            unfold ClM at this ⊢
            rw [F15.i 1326 (by decide), F15.i 1327 (by decide), F15.i 1328 (by decide), F15.i 1329 (by decide)]
            exact ⟨this.1, fun j x s hj => by
              obtain ⟨a, q1, q2, q3, q4, q5⟩ := this.2 j x s hj
              exact ⟨a, q1, q2, q3, q4, RowM_keep q5 fun i _ _ => by rw [F15.i 1323 (by decide), F15.i 1324 (by decide)]; exact ⟨rfl, rfl⟩⟩⟩
          exact ⟨L', Y', μ3, ν5, r2, by omega, hG, by omega, by omega, cl, (hX.fr t3 (by decide)).fr l3 (by decide), FC2.trans (xl_fr l3 (by decide)), e.trans x2, hCl5, FM2.trans ((xlm_fr x3 (by decide)).mono fun _ _ _ => xlm_cl)⟩
        · rw [lk_lk hi] at x1
          rw [skp_skp hi] at x2
          left
          obtain ⟨μ6, w1, w2, w3⟩ := wrong_C l2
          rw [if_neg x1, w1, bS] at cl
          simp only [] at cl
          rw [if_pos z00, rz_0, bS] at cl
          exact ⟨skp S i', μ6, ν5, hsk.2, cl, w2, (FC2.trans (xl_fr l3 (by decide))).trans (xl_fr w3 (by decide)), e.trans x2, FM2.trans ((xlm_fr x3 (by decide)).mono fun _ _ _ => xlm_cl)⟩
def XLw (p v r c : Nat) : Prop := XCl p v r c ∨ v = 1331
theorem law_L {S : St} {l p : Nat} {μ ν : Mem} (W : W_tp S) (hl : l < 7) (hp : p < 7) (T : C_tp S μ) (TM : M_tp S ν) (e4 : mI μ 504 0 0 = nI l) :
    (∃ j μ' ν', j ≤ nTp S ∧ LawReader_readsTape μ = some (nI 0, μ') ∧ mI μ' 1003 0 0 = nI j ∧ Ft (XL l) μ μ' ∧ M_readLaw (nI p) ν = some (nI j, ν') ∧ Ft (XLw p) ν ν') ∨
    ∃ L μ' ν', GoodLaw L ∧ LawReader_readsTape μ = some (nI 1, μ') ∧ EncC μ' l L ∧ Ft (XL l) μ μ' ∧ M_readLaw (nI p) ν = some (-1, ν') ∧ EncM ν' p L ∧ Ft (XLw p) ν ν' := by
  have hn := W.1
  obtain ⟨μ1, h1⟩ : ∃ z, z = mSI μ 501 0 l (nI 0) := ⟨_, rfl⟩
  obtain ⟨μ2, h2⟩ : ∃ z, z = mSI (mSI μ1 1002 0 0 (nI 0)) 1003 0 0 (-1) := ⟨_, rfl⟩
  have FC : Ft (XL l) μ μ2 := by
    rw [h2, h1]
    exact ((Ft.refl.si (Or.inr (Or.inr (Or.inr ⟨rfl, rfl, rfl⟩)))).si (Or.inl rfl)).si (Or.inr (Or.inl rfl))
  have KC : K_C S 0 μ2 := by
    rw [h2, h1]
    refine ⟨⟨?_, fun k hk => ?_⟩, ?_, iS_eq⟩
    · exact (iS_v (by decide)).trans ((iS_v (by decide)).trans ((iS_v (by decide)).trans T.1))
    · exact (iS_v (by decide)).trans ((iS_v (by decide)).trans ((iS_v (by decide)).trans (T.2 k hk)))
    · exact (iS_v (by decide)).trans iS_eq
  have hX : LC l (encC 0 []) μ2 := ⟨by rw [h2, h1]; exact (iS_v (by decide)).trans ((iS_v (by decide)).trans iS_eq), trivial⟩
  have cls : LawReader_readsTape μ = LawReader_readsTape_l1 FU (nI 0) μ2 := by
    unfold LawReader_readsTape Laws_clearRow Tape_begin
    rw [e4, wr_n (by omega) (by decide), bS, bS, bS, bS, ← h1, bS, ← h2]
  obtain ⟨ν1, k1⟩ : ∃ z, z = mSI (mSI (mSI (mSI (mSI (mSI ν 1331 0 0 (nI p)) 1303 0 0 (nI 0)) 1304 0 0 (-1)) 1305 0 0 (nI 0)) 1325 0 p (nI 0)) 1326 0 p (nI 0) := ⟨_, rfl⟩
  have FM1 : Ft (XLw p) ν ν1 := by
    rw [k1]
    exact (((((Ft.refl.si (Or.inr rfl)).si (Or.inl (Or.inl (Or.inl rfl)))).si (Or.inl (Or.inl (Or.inr (Or.inl rfl))))).si (Or.inl (Or.inl (Or.inr (Or.inr (Or.inl rfl)))))).si (Or.inl (Or.inl (Or.inr (Or.inr (Or.inr (Or.inl ⟨rfl, rfl, rfl⟩))))))).si (Or.inl (Or.inr (Or.inl ⟨rfl, rfl, rfl⟩)))
  have kA : ∀ v r c, v ≠ 1331 → v ≠ 1303 → v ≠ 1304 → v ≠ 1305 → v ≠ 1325 → v ≠ 1326 → mI ν1 v r c = mI ν v r c := fun v r c q1 q2 q3 q4 q5 q6 => by
    rw [k1, iS_v q6, iS_v q5, iS_v q4, iS_v q3, iS_v q2, iS_v q1]
  have KM : K_M S 0 ν1 := by
    refine ⟨⟨by rw [kA 1302 0 0 (by decide) (by decide) (by decide) (by decide) (by decide) (by decide)]; exact TM.1, fun k hk => by rw [kA 1301 0 k (by decide) (by decide) (by decide) (by decide) (by decide) (by decide)]; exact TM.2 k hk⟩, ?_, ?_⟩
    · rw [k1]; exact (iS_v (by decide)).trans ((iS_v (by decide)).trans ((iS_v (by decide)).trans ((iS_v (by decide)).trans iS_eq)))
    · rw [k1]; exact (iS_v (by decide)).trans ((iS_v (by decide)).trans ((iS_v (by decide)).trans iS_eq))
  have ref : M_readLaw (nI p) ν = ((M_clause ν1).bind (M_readLaw_l1 FU)).bind tailM := by
    unfold M_readLaw
    rw [bS, bS, bS, bS, wr_n (by omega) (by decide), bS, wr_n (by omega) (by decide), bS, ← k1]
    cases M_clause ν1 with
    | none => rfl
    | some s => rw [bS, bS]; rfl
  have I : Cls S l p 0 [] [] μ2 ν1 := by
    refine ⟨KC, KM, Nat.zero_le _, by rw [xl4 FC]; exact e4, ?_, ?_, hX, ⟨?_, trivial⟩, ⟨?_, fun j x s hj => by simp at hj⟩, fun q hq => absurd hq (List.not_mem_nil), Nat.le_refl _, Nat.le_refl _, Nat.le_refl _⟩
    · rw [k1]; exact (iS_v (by decide)).trans ((iS_v (by decide)).trans ((iS_v (by decide)).trans ((iS_v (by decide)).trans ((iS_v (by decide)).trans iS_eq))))
    · rw [k1]; exact (iS_v (by decide)).trans ((iS_v (by decide)).trans iS_eq)
    · rw [k1]; exact (iS_v (by decide)).trans iS_eq
    · rw [k1]; exact iS_eq
  have hFU : nTp S + 1 < FU := by unfold FU; omega
  rw [cls, ref]
  rcases laws_L W hl hp (m := nTp S) (i := 0) (f := FU) (g := FU) (v := 0) (by omega) hFU hFU (Nat.le_refl _) (by omega) I with ⟨j, μ5, ν5, q1, q2, q3, q4, q5, q6⟩ | ⟨L5, Y5, μ5, ν5, q1, q2, q3, q4, q5, q6, q7, q8, q9, q10, q11⟩
  · exact Or.inl ⟨j, μ5, ν5, q1, q2, q3, FC.trans q4, q5, FM1.trans (q6.mono fun _ _ _ => Or.inl)⟩
  · refine Or.inr ⟨L5, μ5, ν5, ⟨q2, fun q hq => q3 q hq⟩, q6, ⟨q7.1, q4, q7.2⟩, FC.trans q8, q9, ⟨q10.1, fun j c s hj => ?_⟩, FM1.trans (q11.mono fun _ _ _ => Or.inl)⟩
    obtain ⟨a, r1, r2, r3, r4, r5⟩ := q10.2 j c s hj
    exact ⟨a, r1, r2, r3, by omega, r5⟩
