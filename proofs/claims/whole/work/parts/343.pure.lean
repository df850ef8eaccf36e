/-! PURE: the reference finds the menus -/
def fmW : List Nat := [1366, 1367, 1368, 1369, 1370, 1371, 1372, 1362, 1363, 1373, 1374, 1375, 1376]
theorem findMenus_M {S : St} {d a K : Nat} {tg : Int32} {ν : Mem} (W : WF S) (R : MR S ν) (hd : d < nDy S) (h5 : mm S a ≤ 5) (hK : K ≤ 99) (L : R_mn S d a ν) :
    ∃ ν', M_findMenus (nI d) (nI K) tg ν = some ν' ∧ MR S ν' ∧ Fr fmW ν ν' ∧ R_ac S a tg (findS S d a K tg) ν' ∧ AcOk (findS S d a K tg) ∧ R_mn S d a ν' := by
  obtain ⟨s1, hs1⟩ : ∃ s, s = mSI ν 1372 0 0 (nI d) := ⟨_, rfl⟩
  obtain ⟨q1, p1⟩ := st_rd hs1
  obtain ⟨s2, hs2⟩ : ∃ s, s = mSI s1 1366 0 0 (nI 0) := ⟨_, rfl⟩
  obtain ⟨q2, p2⟩ := st_rd hs2
  obtain ⟨s3, hs3⟩ : ∃ s, s = mSI s2 1367 0 0 (nI 0) := ⟨_, rfl⟩
  obtain ⟨q3, p3⟩ := st_rd hs3
  obtain ⟨s4, hs4⟩ : ∃ s, s = mSI s3 1368 0 0 (nI 0) := ⟨_, rfl⟩
  obtain ⟨q4, p4⟩ := st_rd hs4
  obtain ⟨s5, hs5⟩ : ∃ s, s = mSI s4 1369 0 0 (-1) := ⟨_, rfl⟩
  obtain ⟨q5, p5⟩ := st_rd hs5
  obtain ⟨s6, hs6⟩ : ∃ s, s = mSI s5 1370 0 0 (-1) := ⟨_, rfl⟩
  obtain ⟨q6, p6⟩ := st_rd hs6
  obtain ⟨s7, hs7⟩ : ∃ s, s = mSI s6 1371 0 0 tg := ⟨_, rfl⟩
  obtain ⟨q7, p7⟩ := st_rd hs7
  have F7 : Fr fmW ν s7 := by
    rw [hs7, hs6, hs5, hs4, hs3, hs2, hs1]
    exact fr_si (by simp [fmW]) (fr_si (by simp [fmW]) (fr_si (by simp [fmW]) (fr_si (by simp [fmW]) (fr_si (by simp [fmW]) (fr_si (by simp [fmW]) (fr_si (by simp [fmW]) Fr.refl))))))
  have keep : ∀ ν', Fr fmW ν ν' → R_mn S d a ν' := fun ν' F => ⟨by rw [F.i 1364 (by decide)]; exact L.1, by rw [F.i 1365 (by decide)]; exact L.2.1, fun i hi => ⟨by rw [F.i 1359 (by decide)]; exact (L.2.2 i hi).1, by rw [F.i 1360 (by decide)]; exact (L.2.2 i hi).2.1, fun t ht => by rw [F.i 1361 (by decide)]; exact (L.2.2 i hi).2.2 t ht⟩⟩
  have hp : 10 ^ mm S a ≤ 10 ^ 5 := Nat.pow_le_pow_right (by decide) h5
  have h5' : (10 : Nat) ^ 5 = 100000 := by decide
  have hac : R_ac S a tg acc0 s7 := by
    refine ⟨?_, ?_, ?_, ?_, ?_, p7, fun h => absurd h (Nat.lt_irrefl 0), fun j hj => absurd hj (Nat.not_lt_zero j)⟩
    · rw [q7 1366 0 0 (by decide), q6 1366 0 0 (by decide), q5 1366 0 0 (by decide), q4 1366 0 0 (by decide), q3 1366 0 0 (by decide), p2]; rfl
    · rw [q7 1367 0 0 (by decide), q6 1367 0 0 (by decide), q5 1367 0 0 (by decide), q4 1367 0 0 (by decide), p3]; rfl
    · rw [q7 1368 0 0 (by decide), q6 1368 0 0 (by decide), q5 1368 0 0 (by decide), p4]; rfl
    · rw [q7 1369 0 0 (by decide), q6 1369 0 0 (by decide), p5]; rfl
    · rw [q7 1370 0 0 (by decide), p6]; rfl
  have hok : AcOk acc0 := by unfold AcOk acc0; decide
  obtain ⟨ν', e1, e2, e3, e4, -, -⟩ := seek_M (K := K) (tg := tg) W hd h5 (mG_lt W) hK (mm S a) 0 RF (fun _ => 0) acc0 s7 (by omega) (show mm S a < 60 by omega) (R.fr F7 (by decide)) (keep s7 F7) (by rw [q7 1372 0 0 (by decide), q6 1372 0 0 (by decide), q5 1372 0 0 (by decide), q4 1372 0 0 (by decide), q3 1372 0 0 (by decide), q2 1372 0 0 (by decide), p1]) (fun i h => absurd h (Nat.not_lt_zero i)) hac hok (by show 0 + _ ≤ _; omega)
  have F8 : Fr fmW ν ν' := F7.trans (e2.mono (by simp [skW, cntW, fmW]))
  refine ⟨ν', ?_, R.fr F8 (by decide), F8, e3, e4, keep ν' F8⟩
  unfold M_findMenus
  rw [← hs1, bS, ← hs2, bS, ← hs3, bS, ← hs4, bS, ← hs5, bS, ← hs6, bS, ← hs7, bS]
  show (G_M_seek RF (nI d) (nI K) (nI 0) s7).bind _ = _
  rw [e1, bS]
/-- what is answered of the menus -/
def ansMn (c : AcT) (z : Nat) : Int32 := if z = 0 then nI c.1.1 else if z = 1 then nI c.1.2.1 else if z = 2 then nI c.1.2.2.1 else if z = 3 then (if c.1.1 = 0 then -1 else nI c.1.2.2.2.1) else (if c.1.1 = 0 then -1 else nI c.1.2.2.2.2)
def ansLn (c : AcT) (z : Nat) : Int32 := if c.1.1 = 0 then -1 else if z = 0 then nI c.2.1.1 else if z = 1 then nI c.2.1.2.1 else nI c.2.1.2.2
theorem menu_M {S : St} {x y : Int32} {d a K z : Nat} {ν : Mem} (W : WF S) (R : MR S ν) (h : Asked S x y d a) (hK : K ≤ 99) (hz : z ≤ 4) : ∃ ν', M_menu x y (nI K) (nI z) ν = some (ansMn (findS S d a K (-1)) z, ν') ∧ MR S ν' := by
  have hmm : mm S a ≤ 5 := by rw [mm_pc W h.2.2.2.2.1]; exact h.2.2.2.2.2
  obtain ⟨ν1, a1, a2, a3, a4⟩ := layMenu_yes W R h
  obtain ⟨ν2, b1, b2, b3, b4, b5, b6⟩ := findMenus_M (K := K) (tg := -1) W a2 h.1 hmm hK a4
  obtain ⟨hd, rfl, hy, -⟩ := h
  refine ⟨ν2, ?_, b2⟩
  obtain ⟨A1, A2, A3, A4, A5, -⟩ := b4
  unfold M_menu
  rw [show M_in (nI K) (nI 0) (nI 99) = some (nI 1) from in_num (by omega) (by omega) (by omega), bS, if_neg n10, show M_in (nI z) (nI 0) (nI 4) = some (nI 1) from in_num (by omega) (by omega) (by omega), bS, if_neg n10, a1, bS]
  simp only []
  rw [if_neg n10, b1, bS, A1, A2, A3, A4, A5]
  unfold ansMn
  rcases (show z = 0 ∨ z = 1 ∨ z = 2 ∨ z = 3 ∨ z = 4 by omega) with e | e | e | e | e <;> subst e <;> rfl
theorem lean_M {S : St} {x y : Int32} {d a K z : Nat} {ν : Mem} (W : WF S) (R : MR S ν) (h : Asked S x y d a) (hK : K ≤ 99) (hz : z ≤ 2) : ∃ ν', M_lean x y (nI K) (nI z) ν = some (ansLn (findS S d a K (-1)) z, ν') ∧ MR S ν' := by
  have hmm : mm S a ≤ 5 := by rw [mm_pc W h.2.2.2.2.1]; exact h.2.2.2.2.2
  obtain ⟨ν1, a1, a2, a3, a4⟩ := layMenu_yes W R h
  obtain ⟨ν2, b1, b2, b3, b4, b5, b6⟩ := findMenus_M (K := K) (tg := -1) W a2 h.1 hmm hK a4
  obtain ⟨hd, rfl, hy, -⟩ := h
  refine ⟨ν2, ?_, b2⟩
  obtain ⟨A1, A2, A3, A4, A5, A6, A7, -⟩ := b4
  have hb := b5.1
  unfold M_lean
  rw [show M_in (nI K) (nI 0) (nI 99) = some (nI 1) from in_num (by omega) (by omega) (by omega), bS, if_neg n10, show M_in (nI z) (nI 0) (nI 2) = some (nI 1) from in_num (by omega) (by omega) (by omega), bS, if_neg n10, a1, bS]
  simp only []
  rw [if_neg n10, b1, bS, A1]
  unfold ansLn
  by_cases h0 : (findS S d a K (-1)).1.1 = 0
  · rw [if_pos ((eq0_n (by omega)).mpr h0), if_pos h0]
  · obtain ⟨B1, B2, B3⟩ := A7 (by omega)
    rw [if_neg (fun z => h0 ((eq0_n (by omega)).mp z)), if_neg h0, B1, B2, B3]
    rcases (show z = 0 ∨ z = 1 ∨ z = 2 by omega) with e | e | e <;> subst e <;> rfl
theorem mq_inj {S : St} {a i j : Nat} (hi : i < mm S a) (hj : j < mm S a) (h : mq S a i = mq S a j) : i = j := by
  unfold mq at h
  rw [List.getD_eq_getElem?_getD, List.getElem?_eq_getElem hi, List.getD_eq_getElem?_getD, List.getElem?_eq_getElem hj] at h
  have hp := List.pairwise_iff_getElem.mp ((List.pairwise_lt_range (n := nPg S)).filter fun p => a.testBit p)
  have h : (mpg S a)[i] = (mpg S a)[j] := h
  rcases Nat.lt_trichotomy i j with e | e | e
  · have : (mpg S a)[i] < (mpg S a)[j] := hp i j hi hj e
    omega
  · exact e
  · have : (mpg S a)[j] < (mpg S a)[i] := hp j i hj hi e
    omega
/-- an ordinal that is asked: below the count, or not -/
theorem ord_arg {w : Int32} {n : Nat} (hn : n ≤ 1000000) (h : ¬ w < 0) : ¬ w < nI n ∨ ∃ j, j < n ∧ w = nI j ∧ w < nI n := by
  rcases arg_n w n hn with h1 | ⟨j, h1, rfl⟩
  · rcases h1 with h1 | h1
    · exact absurd h1 h
    · left
      intro z
      rw [Int32.lt_iff_toInt_lt] at z
      rw [Int32.le_iff_toInt_le] at h1
      omega
  · exact Or.inr ⟨j, h1, rfl, (lt_n (by omega) (by omega)).mpr h1⟩
theorem wasted_M {S : St} {x y w : Int32} {d a K : Nat} {ν : Mem} (W : WF S) (R : MR S ν) (h : Asked S x y d a) (hK : K ≤ 99) (hw : ¬ w < 0) : ∃ ν', M_wasted x y (nI K) w ν = some (if w < nI (findS S d a K w).1.1 then nI (findS S d a K w).2.2.1 else -1, ν') ∧ MR S ν' := by
  have hmm : mm S a ≤ 5 := by rw [mm_pc W h.2.2.2.2.1]; exact h.2.2.2.2.2
  obtain ⟨ν1, a1, a2, a3, a4⟩ := layMenu_yes W R h
  obtain ⟨ν2, b1, b2, b3, b4, b5, b6⟩ := findMenus_M (K := K) (tg := w) W a2 h.1 hmm hK a4
  obtain ⟨hd, rfl, hy, -⟩ := h
  refine ⟨ν2, ?_, b2⟩
  obtain ⟨A1, A2, A3, A4, A5, A6, A7, A8⟩ := b4
  have hb := b5.1
  unfold M_wasted
  rw [show M_in (nI K) (nI 0) (nI 99) = some (nI 1) from in_num (by omega) (by omega) (by omega), bS, if_neg n10, if_neg hw, a1, bS]
  simp only []
  rw [if_neg n10, b1, bS, A1]
  rcases ord_arg (n := (findS S d a K w).1.1) (by omega) hw with h1 | ⟨j, j1, j2, j3⟩
  · rw [if_neg h1, if_neg h1]
  · rw [if_pos j3, if_pos j3, (A8 j j1 j2).1]
/-- the messes of a page at the menu that is asked -/
theorem messes_M {S : St} {x y w : Int32} {d a K i : Nat} {ν : Mem} (W : WF S) (R : MR S ν) (h : Asked S x y d a) (hK : K ≤ 99) (hw : ¬ w < 0) (hi : i < mm S a) : ∃ ν', M_messes x y (nI K) w (nI (mq S a i)) ν = some (if w < nI (findS S d a K w).1.1 then nI ((findS S d a K w).2.2.2 i) else -1, ν') ∧ MR S ν' := by
  have h16 := W.pg.1
  have ha := ask_lt W h.2.2.2.2.1
  have hmm : mm S a ≤ 5 := by rw [mm_pc W h.2.2.2.2.1]; exact h.2.2.2.2.2
  obtain ⟨hq, hqb⟩ := mq_lt hi
  obtain ⟨ν1, a1, a2, a3, a4⟩ := layMenu_yes W R h
  obtain ⟨ν2, b1, b2, b3, b4, b5, b6⟩ := findMenus_M (K := K) (tg := w) W a2 h.1 hmm hK a4
  obtain ⟨hd, rfl, rfl, -⟩ := h
  refine ⟨ν2, ?_, b2⟩
  obtain ⟨A1, A2, A3, A4, A5, A6, A7, A8⟩ := b4
  have hb := b5.1
  unfold M_messes
  rw [show M_in (nI K) (nI 0) (nI 99) = some (nI 1) from in_num (by omega) (by omega) (by omega), bS, if_neg n10, if_neg hw, isP1 W R hq, bS, if_neg n10, a1, bS]
  simp only []
  rw [if_neg n10, mhas (by omega) (by omega), hqb, bS, if_neg (show ¬ nI true.toNat = 0 from n10), b1, bS, A1]
  rcases ord_arg (n := (findS S d a K w).1.1) (by omega) hw with h1 | ⟨j, j1, j2, j3⟩
  · rw [if_neg h1, if_neg h1]
  · rw [if_pos j3, if_pos j3]
    have hl : ∃ r, M_messes_l1 (nI (mq S a i)) ν2 FU (nI 0) = some r ∧ r = nI i := by
      refine loopE (fun f v (_ : Unit) => M_messes_l1 (nI (mq S a i)) ν2 f v) (i + 1) (fun c _ => c ≤ i) (fun r => r = nI i) ?_ ?_ (i + 1) 0 () FU (by omega) (FU_lt (by omega)) (by omega)
      · rintro f c - hc -
        show (∃ s', M_messes_l1b (nI (mq S a i)) ν2 (M_messes_l1 (nI (mq S a i)) ν2 f) (nI c) = _ ∧ _) ∨ (∃ r, M_messes_l1b (nI (mq S a i)) ν2 (M_messes_l1 (nI (mq S a i)) ν2 f) (nI c) = _ ∧ _)
        unfold M_messes_l1b
        have hcq := (mq_lt (S := S) (a := a) (i := c) (by omega)).1
        rw [rd_n (by omega) (by decide), (b6.2.2 c (by omega)).1, bS]
        by_cases e : c = i
        · right
          subst e
          rw [if_pos rfl]
          exact ⟨_, rfl, rfl⟩
        · left
          rw [if_neg (fun z => e (mq_inj (by omega) hi ((eq_n (by omega) (by omega)).mp z))), bS, add_n]
          exact ⟨(), rfl, by omega⟩
      · rintro f - hI
        omega
    obtain ⟨r, l1, l2⟩ := hl
    rw [l1, l2, bS, rd_n (by omega) (by decide), (A8 j j1 j2).2 i hi, bS]
