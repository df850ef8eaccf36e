/-! PURE: fault; a law is told as a text -/
def lwV : List Nat := [1002, 1003, 500, 501]
theorem xl_no {l v r c : Nat} (h : v ∉ lwV) : ¬ XL l v r c := by
  unfold lwV at h
  simp at h
  unfold XL
  omega
def lwVM : List Nat := [1303, 1304, 1305, 1331, 1325, 1323, 1324, 1326, 1327, 1328, 1329]
theorem xlw_no {p v r c : Nat} (h : v ∉ lwVM) : ¬ XLw p v r c := by
  unfold lwVM at h
  simp at h
  unfold XLw XCl XLM
  omega
theorem EncC.lwf {l j : Nat} {L : LawT} {μ μ' : Mem} (h : EncC μ j L) (F : Ft (XL l) μ μ') (hj : j < l) : EncC μ' j L :=
  ⟨(F 501 0 j (by unfold XL; omega)).trans h.1, h.2.1, RowC_keep h.2.2 fun i _ _ => F 500 j i (by unfold XL; omega)⟩
theorem EncM.lwf {p j : Nat} {L : LawT} {ν ν' : Mem} (h : EncM ν j L) (hL : L.length ≤ 60) (F : Ft (XLw p) ν ν') (hj : j < p) : EncM ν' j L := by
  refine ⟨(F 1326 0 j (by unfold XLw XCl XLM; omega)).trans h.1, fun k c s hk => ?_⟩
  have hkl := (List.getElem?_eq_some_iff.mp hk).1
  obtain ⟨a, h1, h2, h3, h4, h5⟩ := h.2 k c s hk
  refine ⟨a, (F 1327 0 _ (by unfold XLw XCl XLM; omega)).trans h1, (F 1328 0 _ (by unfold XLw XCl XLM; omega)).trans h2, (F 1329 0 _ (by unfold XLw XCl XLM; omega)).trans h3, h4, RowM_keep h5 fun i i1 i2 => ?_⟩
  rw [List.length_append] at i2
  exact ⟨F 1323 0 i (by unfold XLw XCl XLM; omega), F 1324 0 i (by unfold XLw XCl XLM; omega)⟩
theorem CR.lwf {S : St} {μ μ' : Mem} (C : CR S μ) (F : Ft (XL (nLw S)) μ μ') : CR S μ' := by
  have e : ∀ v, v ∉ lwV → mI μ' v = mI μ v := fun v hv => ft_v F fun r c => xl_no hv
  have g : ∀ L, nIn lwV L = true → ∀ v, v ∈ L → mI μ' v = mI μ v := fun L hL v hv => e v (nIn_of hL hv)
  have c_lw : C_lw S μ' := ⟨by rw [e 504 (by decide)]; exact C.lw.1, fun l hl => (C.lw.2 l hl).lwf F hl⟩
  exact ⟨C.tp.fr (g _ (by decide)), C.th.fr (g _ (by decide)), C.pg.fr (g _ (by decide)), c_lw, C.tr.fr (g _ (by decide)), C.ho.fr (g _ (by decide)), C.bk.fr (g _ (by decide)), C.dy.fr (g _ (by decide)), C.ca.fr (g _ (by decide)), C.kn.fr (g _ (by decide))⟩
theorem MR.lwf {S : St} {p : Nat} {ν ν' : Mem} (W : WF S) (R : MR S ν) (hp : nLw S ≤ p) (F : Ft (XLw p) ν ν') : MR S ν' := by
  have e : ∀ v, v ∉ lwVM → mI ν' v = mI ν v := fun v hv => ft_v F fun r c => xlw_no hv
  have g : ∀ L, nIn lwVM L = true → ∀ v, v ∈ L → mI ν' v = mI ν v := fun L hL v hv => e v (nIn_of hL hv)
  have m_lw : M_lw S ν' := ⟨by rw [e 1330 (by decide)]; exact R.lw.1, fun l hl => (R.lw.2 l hl).lwf (W.lw.2 l hl).1 F (by omega)⟩
  exact ⟨R.tp.fr (g _ (by decide)), R.th.fr (g _ (by decide)), R.pg.fr (g _ (by decide)), m_lw, R.tr.fr (g _ (by decide)), R.ho.fr (g _ (by decide)), R.bk.fr (g _ (by decide)), R.dy.fr (g _ (by decide))⟩
theorem q_fault (x : Int32) : Cmd (B_fault x) (M_fault x) := by
  intro S μ ν W C R
  have h16 := W.pg.1
  have h6 := W.lw.1
  have hn := W.tp.1
  unfold B_fault M_fault kj
  simp only []
  by_cases h0 : x = 0
  · rw [if_pos h0, if_pos h0, if_pos h0]
    rcases page_L (q := nPg S) (p := 16) W.tp W.th.1 h16 (Nat.le_refl _) C.tp R.tp C.pg.1 C.th.1 R.th.1 with ⟨j, μ2, ν2, a1, a2, a3, a4, a5, a6⟩ | ⟨m, L, lo, hi, na, A, μ2, ν2, a1, a2, a3, a4, a5, a6, a7, a8, a9, b1, b2, b3, b4⟩
    · refine ⟨nI j, μ2, ν2, ?_, ?_, C.pgf a4, R.pgf W h16 a6⟩
      · rw [a2, bS]
        simp only []
        rw [bS]
        simp only []
        rw [if_pos z00, a3]
      · rw [a5, bS]
    · refine ⟨-1, μ2, ν2, ?_, ?_, C.pgf a7, R.pgf W h16 b2⟩
      · rw [a6, bS]
        simp only []
        rw [bS]
        simp only []
        rw [if_neg n10]
      · rw [b1, bS]
  · by_cases h1 : x = nI 1
    · rw [if_neg h0, if_neg h0, if_neg h0, if_pos h1, if_pos h1]
      rcases law_L (l := nLw S) (p := 6) W.tp (by omega) (by omega) C.tp R.tp C.lw.1 with ⟨j, μ2, ν2, a1, a2, a3, a4, a5, a6⟩ | ⟨L, μ2, ν2, a1, a2, a3, a4, a5, a6, a7⟩
      · refine ⟨nI j, μ2, ν2, ?_, ?_, C.lwf a4, R.lwf W h6 a6⟩
        · rw [a2, bS]
          simp only []
          rw [bS]
          simp only []
          rw [if_pos z00, a3]
        · rw [a5, bS]
      · refine ⟨-1, μ2, ν2, ?_, ?_, C.lwf a4, R.lwf W h6 a7⟩
        · rw [a2, bS]
          simp only []
          rw [bS]
          simp only []
          rw [if_neg n10]
        · rw [a5, bS]
    · rw [if_neg h0, if_neg h1, if_neg h0, if_neg h1]
      exact ⟨_, _, _, rfl, rfl, C, R⟩
def lwS (S : St) (L : LawT) : St := (fun v r c => if v = 1001 ∧ r = 0 ∧ c = 0 then 0 else if v = 504 ∧ r = 0 ∧ c = 0 then nLw S + 1 else S.1 v r c, S.2.1, fun k => if k = nLw S then L else S.2.2 k)
theorem lwS_ag {S : St} {L : LawT} : Ag [1001, 504] S (lwS S L) := fun v hv => ⟨fun r c => by
  simp at hv
  unfold lwS sN
  simp only []
  rw [if_neg (by omega), if_neg (by omega)], fun _ _ => rfl⟩
theorem text1 {S : St} {μ ν : Mem} (W : WF S) (C : CR S μ) (R : MR S ν) (h9 : sN S 908 0 0 < 2147480000) (dg : ∀ p, nPg S ≤ p → p < 16 → mI μ 301 p p = nI 0) :
    ∃ r S' μ' ν', B_text (nI 1) μ = some (r, μ') ∧ M_text (nI 1) ν = some (r, ν') ∧ WF S' ∧ CR S' μ' ∧ MR S' ν' ∧ sN S' 908 0 0 ≤ sN S 908 0 0 + 1 ∧ ∀ p, nPg S' ≤ p → p < 16 → mI μ' 301 p p = nI 0 := by
  have h6 := W.lw.1
  have hn := W.tp.1
  unfold B_text M_text kj
  simp only []
  rw [if_neg n10, if_neg n10, if_pos trivial, if_pos trivial, C.lw.1, R.lw.1]
  by_cases hq : nLw S < 6
  · rw [if_pos ((lt_n (by omega) (by omega)).mpr hq), if_neg (fun z => absurd ((eq_n (by omega) (by omega)).mp z) (by omega))]
    rcases law_L (l := nLw S) (p := nLw S) W.tp (by omega) (by omega) C.tp R.tp C.lw.1 with ⟨j, μ2, ν2, a1, a2, a3, a4, a5, a6⟩ | ⟨L, μ2, ν2, a1, a2, a3, a4, a5, a6, a7⟩
    · refine ⟨-1, S, μ2, ν2, ?_, ?_, W, C.lwf a4, R.lwf W (Nat.le_refl _) a6, by omega, fun p h1 h2 => ?_⟩
      · rw [a2, bS]
        simp only []
        rw [if_pos z00]
      · rw [a5, bS]
        simp only []
        rw [if_neg (fun z => neg_n (by omega) z.symm)]
      · rw [ft_v a4 (v := 301) fun r c => xl_no (by decide)]; exact dg p h1 h2
    · have C2 := C.lwf a4
      have R2 := R.lwf W (Nat.le_refl _) a7
      obtain ⟨S', hS⟩ : ∃ z, z = lwS S L := ⟨_, rfl⟩
      have a : Ag [1001, 504] S S' := hS ▸ lwS_ag
      obtain ⟨q, hqq⟩ : ∃ q, q = nLw S := ⟨_, rfl⟩
      have kn : nLw S' = q + 1 := by rw [hS, hqq]; rfl
      have kt : nTp S' = 0 := by rw [hS]; rfl
      have kL : ∀ k, sL S' k = if k = q then L else sL S k := fun k => by rw [hS, hqq]; rfl
      have kp : nPg S' = nPg S := a.n (L := [712]) (by decide) 712 (by decide) 0 0
      have h_lw : W_lw S' := ⟨by omega, fun l hl => by
        rw [kL]
        by_cases e : l = q
        · rw [if_pos e]; exact a1
        · rw [if_neg e]; exact W.lw.2 l (by omega)⟩
      have h_ho : W_ho S' := by
        have ka := fun v hv r c => a.n (L := [903, 904, 905, 712, 1334, 1335]) (by decide) v hv r c
        have ki := fun v hv r c => a.i (L := [906, 907, 1336, 1337]) (by decide) v hv r c
        obtain ⟨w1, w2, w3, w4, w5⟩ := W.ho
        unfold W_ho nHo nPg
        simp only [ka 903 (by decide), ka 904 (by decide), ka 905 (by decide), ka 712 (by decide), ka 1334 (by decide), ka 1335 (by decide), ki 906 (by decide), ki 907 (by decide), ki 1336 (by decide), ki 1337 (by decide)]
        refine ⟨w1, w2, fun p hp => Nat.lt_of_lt_of_le (w3 p hp) (Nat.pow_le_pow_right (by decide) (by omega)), fun k hk => ⟨(w4 k hk).1, by have := (w4 k hk).2; omega⟩, w5⟩
      have W' : WF S' := ⟨⟨by rw [kt]; omega, fun i hi => absurd hi (by omega)⟩, W.th.ag a (by decide), W.pg.ag a (by decide), h_lw, W.tr.ag a (by decide), h_ho, W.bk.ag a (by decide), W.dy.ag a (by decide)⟩
      have p504 : mI μ2 504 0 0 = nI q := by rw [hqq]; exact C2.lw.1
      have p1330 : mI ν2 1330 0 0 = nI q := by rw [hqq]; exact R2.lw.1
      obtain ⟨μ4, h4⟩ : ∃ z, z = mSI (mSI μ2 1001 0 0 (nI 0)) 504 0 0 (nI (q + 1)) := ⟨_, rfl⟩
      have FC : Fr [1001, 504] μ2 μ4 := by rw [h4]; exact fr_si (by simp) (fr_si (by simp) Fr.refl)
      have e504 : mI μ4 504 0 0 = nI (q + 1) := by rw [h4]; exact iS_eq
      obtain ⟨ν4, g4⟩ : ∃ z, z = mSI (mSI ν2 1302 0 0 (nI 0)) 1330 0 0 (nI (q + 1)) := ⟨_, rfl⟩
      have FM : Fr [1302, 1330] ν2 ν4 := by rw [g4]; exact fr_si (by simp) (fr_si (by simp) Fr.refl)
      have e1330 : mI ν4 1330 0 0 = nI (q + 1) := by rw [g4]; exact iS_eq
      have c_tp : C_tp S' μ4 := ⟨by rw [kt, h4]; exact (iS_v (by decide)).trans iS_eq, fun i hi => absurd hi (by omega)⟩
      have m_tp : M_tp S' ν4 := ⟨by rw [kt, g4]; exact (iS_v (by decide)).trans iS_eq, fun i hi => absurd hi (by omega)⟩
      have c_lw : C_lw S' μ4 := ⟨by rw [kn]; exact e504, fun l hl => by
        rw [kL]
        by_cases e : l = q
        · rw [if_pos e, e, hqq]
          exact a3.fr fun v hv => FC.i v (nIn_of (L := [500, 501]) (by decide) hv)
        · rw [if_neg e]
          exact (C2.lw.2 l (by omega)).fr fun v hv => FC.i v (nIn_of (L := [500, 501]) (by decide) hv)⟩
      have m_lw : M_lw S' ν4 := ⟨by rw [kn]; exact e1330, fun l hl => by
        rw [kL]
        by_cases e : l = q
        · rw [if_pos e, e, hqq]
          exact EncM_keep a6 fun v hv => FM.i v (nIn_of (L := [1323, 1324, 1326, 1327, 1328, 1329]) (by decide) hv)
        · rw [if_neg e]
          exact EncM_keep (R2.lw.2 l (by omega)) fun v hv => FM.i v (nIn_of (L := [1323, 1324, 1326, 1327, 1328, 1329]) (by decide) hv)⟩
      have c_ca : C_ca S' μ4 := by
        refine (C_ca.ag W C2.ca (by omega) (a.n (L := [908]) (by decide) 908 (by decide) 0 0) (by omega) (by have := W.pg.1; omega) fun p hp => ?_).fr fun v hv => FC.i v (nIn_of (L := [908, 909, 910, 911, 912, 913, 914, 915, 916, 918]) (by decide) hv)
        have ka := fun v hv r c => a.n (L := [702, 703, 704, 705, 706, 710, 903, 905, 800, 801, 802, 807]) (by decide) v hv r c
        have ki := fun v hv r c => a.i (L := [906, 907]) (by decide) v hv r c
        refine ⟨ka 702 (by decide) 0 p, fun k => ⟨ka 703 (by decide) p k, ka 704 (by decide) p k, ka 705 (by decide) p k⟩, ka 706 (by decide) 0 p, fun i => ka 710 (by decide) p i, ka 903 (by decide) 0 0, ka 905 (by decide) 0 p, fun l => ⟨ki 906 (by decide) p l, ki 907 (by decide) p l⟩, fun k _ => ⟨ka 800 (by decide) 0 _, ka 801 (by decide) 0 _, ka 802 (by decide) 0 _⟩, by rw [ka 807 (by decide) 0 0], fun l hl => ?_⟩
        rw [kL, if_neg]
        intro e
        have hb := W.ho.2.2.1 p (by have := W.pg.1; omega)
        rw [e, hqq, Nat.testBit_lt_two_pow hb] at hl
        exact nomatch hl
      refine ⟨nI q, S', μ4, ν4, ?_, ?_, W', ⟨c_tp, C2.th.mv a (by decide) FC (by decide), C2.pg.mv a (by decide) FC (by decide), c_lw, C2.tr.mv a (by decide) FC (by decide), C2.ho.mv a (by decide) FC (by decide), C2.bk.mv a (by decide) FC (by decide), C2.dy.mv a (by decide) FC (by decide), c_ca, C2.kn.mv a (by decide) FC (by decide)⟩, ⟨m_tp, R2.th.mv a (by decide) FM (by decide), R2.pg.mv a (by decide) FM (by decide), m_lw, R2.tr.mv a (by decide) FM (by decide), R2.ho.mv a (by decide) FM (by decide), R2.bk.mv a (by decide) FM (by decide), R2.dy.mv a (by decide) FM (by decide)⟩, by rw [a.n (L := [908]) (by decide) 908 (by decide) 0 0]; omega, fun p h1 h2 => ?_⟩
      · rw [a2, bS]
        simp only []
        rw [if_neg n10, bS, iS_v (show (504 : Nat) ≠ 1001 by decide), p504, add_n, ← h4, bS, e504, sub_n (by omega), Nat.add_sub_cancel]
      · rw [a5, bS]
        simp only []
        rw [if_pos trivial, bS, iS_v (show (1330 : Nat) ≠ 1302 by decide), p1330, add_n, ← g4, bS, e1330, sub_n (by omega), Nat.add_sub_cancel]
      · rw [FC.i 301 (by decide), ft_v a4 (v := 301) fun r c => xl_no (by decide)]
        exact dg p (by omega) h2
  · have e : nLw S = 6 := by omega
    rw [if_neg (fun z => hq ((lt_n (by omega) (by omega)).mp z)), e, if_pos rfl]
    exact ⟨-1, S, μ, ν, rfl, rfl, W, C, R, by omega, dg⟩
theorem q_text (x : Int32) {S : St} {μ ν : Mem} (W : WF S) (C : CR S μ) (R : MR S ν) (h9 : sN S 908 0 0 < 2147480000) (dg : ∀ p, nPg S ≤ p → p < 16 → mI μ 301 p p = nI 0) :
    ∃ r S' μ' ν', B_text x μ = some (r, μ') ∧ M_text x ν = some (r, ν') ∧ WF S' ∧ CR S' μ' ∧ MR S' ν' ∧ sN S' 908 0 0 ≤ sN S 908 0 0 + 1 ∧ ∀ p, nPg S' ≤ p → p < 16 → mI μ' 301 p p = nI 0 := by
  by_cases h0 : x = 0
  · have h0 : x = nI 0 := h0
    subst h0; exact text0 W C R h9 dg
  by_cases h1 : x = nI 1
  · subst h1; exact text1 W C R h9 dg
  refine ⟨-1, S, μ, ν, ?_, ?_, W, C, R, by omega, dg⟩
  · unfold B_text kj
    simp only []
    rw [if_neg h0, if_neg h1]
  · unfold M_text
    rw [if_neg h0, if_neg h1]
