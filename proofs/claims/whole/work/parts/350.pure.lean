/-! PURE: menu, messes, wasted, lean -/
theorem isAsked_yes {S : St} {x y : Int32} {d a K : Nat} {μ : Mem} (W : WF S) (C : CR S μ) (h : Asked S x y d a) (hK : K ≤ 99) : B_isAsked x y (nI K) μ = some (nI 1) := by
  obtain ⟨hd, rfl, rfl, h0, h1, hp⟩ := h
  have h16 := W.pg.1
  have ha := ask_lt W h1
  have hpc := (pc_eq a).2
  have hpow : 2 ^ nPg S ≤ 65536 := Nat.pow_le_pow_right (n := 2) (by decide) h16
  unfold B_isAsked
  rw [hasD1 W C hd, bS, if_neg n10, show B_isWithin (nI K) (nI 0) (nI 99) = some (nI 1) from in_num (by omega) (by omega) (by omega), bS, if_neg n10, if_pos ((gt0_n (by omega)).mpr h0), C.pg.1, shl_n (by omega) (by omega), Nat.one_mul, if_pos ((lt_n (by omega) (by omega)).mpr h1), (pc_eq a).1, bS, if_neg (fun z => absurd ((lt_n (by omega) (by omega)).mp z) (by omega)), rz_1]
theorem isAsked_K {S : St} {x y z : Int32} {μ : Mem} (W : WF S) (C : CR S μ) (h : M_in z (nI 0) (nI 99) = some (nI 0)) : B_isAsked x y z μ = some (nI 0) := by
  unfold B_isAsked
  rcases dy_arg W x with hx | ⟨d, hd, rfl⟩
  · rw [hasD0 C hx, bS, if_pos z00, rz_0]
  · rw [hasD1 W C hd, bS, if_neg n10, show B_isWithin z (nI 0) (nI 99) = some (nI 0) from h, bS, if_pos z00, rz_0]
theorem isAsked_no {S : St} {x y z : Int32} {μ : Mem} (W : WF S) (C : CR S μ) (h : ¬ ∃ d a, Asked S x y d a) : B_isAsked x y z μ = some (nI 0) := by
  have h16 := W.pg.1
  have hpow : 2 ^ nPg S ≤ 65536 := Nat.pow_le_pow_right (n := 2) (by decide) h16
  unfold B_isAsked
  rcases dy_arg W x with hx | ⟨d, hd, rfl⟩
  · rw [hasD0 C hx, bS, if_pos z00, rz_0]
  rw [hasD1 W C hd, bS, if_neg n10]
  rcases in_two z (nI 0) (nI 99) with e | e
  · rw [show B_isWithin z (nI 0) (nI 99) = some (nI 0) from e, bS, if_pos z00, rz_0]
  rw [show B_isWithin z (nI 0) (nI 99) = some (nI 1) from e, bS, if_neg n10]
  rcases pos_arg y with hy | ⟨a, a0, a1, rfl⟩
  · rw [if_neg hy, rz_0]
  rw [if_pos ((gt0_n (by omega)).mpr a0), C.pg.1, shl_n (by omega) (by omega), Nat.one_mul]
  by_cases h1 : a < 2 ^ nPg S
  · have hpc := (pc_eq a).2
    have hp : ¬ pcN a ≤ 5 := fun hp => h ⟨d, a, hd, rfl, rfl, a0, h1, hp⟩
    rw [if_pos ((lt_n (by omega) (by omega)).mpr h1), (pc_eq a).1, bS, if_pos ((lt_n (by omega) (by omega)).mpr (by omega)), rz_0]
  · rw [if_neg (fun z => h1 ((lt_n (by omega) (by omega)).mp z)), rz_0]
theorem q_menu (x y z w : Int32) : Cmd (B_menu x y z w) (M_menu x y z w) := by
  intro S μ ν W C R
  rcases in_nat z 0 99 (by decide) (by decide) with e | ⟨K, -, hK, rfl, e⟩
  · have e2 : M_menu x y z w ν = some (-1, ν) := by
      unfold M_menu
      rw [e, bS, if_pos z00]
    have e3 : B_menu x y z w μ = some (-1, μ) := by
      unfold B_menu
      rcases in_two w (nI 0) (nI 4) with f | f
      · rw [show B_isWithin w (nI 0) (nI 4) = some (nI 0) from f, bS, if_pos z00]
      · rw [show B_isWithin w (nI 0) (nI 4) = some (nI 1) from f, bS, if_neg n10, isAsked_K W C e, bS, if_pos z00]
    exact ⟨-1, μ, ν, e3, e2, C, R⟩
  rcases in_nat w 0 4 (by decide) (by decide) with f | ⟨j, -, hj, rfl, f⟩
  · refine ⟨-1, μ, ν, ?_, ?_, C, R⟩
    · unfold B_menu
      rw [show B_isWithin w (nI 0) (nI 4) = some (nI 0) from f, bS, if_pos z00]
    · unfold M_menu
      rw [e, bS, if_neg n10, f, bS, if_pos z00]
  by_cases h : ∃ d a, Asked S x y d a
  · obtain ⟨d, a, h⟩ := h
    obtain ⟨ν1, b1, b2⟩ := menu_M (K := K) (z := j) W R h hK hj
    obtain ⟨μ1, a1, a2, a3, a4, a5⟩ := layOut_C (K := K) (tg := -1) W C h hK
    refine ⟨_, μ1, ν1, ?_, b1, a2, b2⟩
    obtain ⟨A1, A2, A3, A4, A5, A6, A7, -⟩ := a4
    unfold B_menu
    rw [show B_isWithin (nI j) (nI 0) (nI 4) = some (nI 1) from f, bS, if_neg n10, isAsked_yes W C h hK, bS, if_neg n10, a1, bS, rd_n (by omega) (by decide), bS]
    unfold ansMn
    rcases (show j = 0 ∨ j = 1 ∨ j = 2 ∨ j = 3 ∨ j = 4 by omega) with q | q | q | q | q <;> subst q
    · rw [A1]; rfl
    · rw [A2]; rfl
    · rw [A3]; rfl
    · rw [A4]; rfl
    · rw [A5]; rfl
  · refine ⟨-1, μ, ν, ?_, ?_, C, R⟩
    · unfold B_menu
      rw [show B_isWithin (nI j) (nI 0) (nI 4) = some (nI 1) from f, bS, if_neg n10, isAsked_no W C h, bS, if_pos z00]
    · unfold M_menu
      rw [e, bS, if_neg n10, f, bS, if_neg n10, layMenu_no W R h, bS]
      simp only []
      rw [if_pos z00]
theorem q_lean (x y z w : Int32) : Cmd (B_lean x y z w) (M_lean x y z w) := by
  intro S μ ν W C R
  rcases in_nat z 0 99 (by decide) (by decide) with e | ⟨K, -, hK, rfl, e⟩
  · have e2 : M_lean x y z w ν = some (-1, ν) := by
      unfold M_lean
      rw [e, bS, if_pos z00]
    have e3 : B_lean x y z w μ = some (-1, μ) := by
      unfold B_lean
      rcases in_two w (nI 0) (nI 2) with f | f
      · rw [show B_isWithin w (nI 0) (nI 2) = some (nI 0) from f, bS, if_pos z00]
      · rw [show B_isWithin w (nI 0) (nI 2) = some (nI 1) from f, bS, if_neg n10, isAsked_K W C e, bS, if_pos z00]
    exact ⟨-1, μ, ν, e3, e2, C, R⟩
  rcases in_nat w 0 2 (by decide) (by decide) with f | ⟨j, -, hj, rfl, f⟩
  · refine ⟨-1, μ, ν, ?_, ?_, C, R⟩
    · unfold B_lean
      rw [show B_isWithin w (nI 0) (nI 2) = some (nI 0) from f, bS, if_pos z00]
    · unfold M_lean
      rw [e, bS, if_neg n10, f, bS, if_pos z00]
  by_cases h : ∃ d a, Asked S x y d a
  · obtain ⟨d, a, h⟩ := h
    obtain ⟨ν1, b1, b2⟩ := lean_M (K := K) (z := j) W R h hK hj
    obtain ⟨μ1, a1, a2, a3, a4, a5⟩ := layOut_C (K := K) (tg := -1) W C h hK
    refine ⟨_, μ1, ν1, ?_, b1, a2, b2⟩
    obtain ⟨A1, A2, A3, A4, A5, A6, A7, -⟩ := a4
    have o1 := a5.1
    unfold B_lean
    rw [show B_isWithin (nI j) (nI 0) (nI 2) = some (nI 1) from f, bS, if_neg n10, isAsked_yes W C h hK, bS, if_neg n10, a1, bS, rd_n (by decide) (by decide), A1, bS]
    unfold ansLn
    by_cases h0 : (findS S d a K (-1)).1.1 = 0
    · rw [if_neg (fun z => absurd ((gt0_n (by omega)).mp z) (by omega)), if_pos h0]
    · obtain ⟨B1, B2, B3⟩ := A6 (by omega)
      rw [if_pos ((gt0_n (by omega)).mpr (by omega)), if_neg h0, add_n, rd_n (by omega) (by decide), bS]
      rcases (show j = 0 ∨ j = 1 ∨ j = 2 by omega) with q | q | q <;> subst q
      · rw [B3]; rfl
      · rw [B2]; rfl
      · rw [B1]; rfl
  · refine ⟨-1, μ, ν, ?_, ?_, C, R⟩
    · unfold B_lean
      rw [show B_isWithin (nI j) (nI 0) (nI 2) = some (nI 1) from f, bS, if_neg n10, isAsked_no W C h, bS, if_pos z00]
    · unfold M_lean
      rw [e, bS, if_neg n10, f, bS, if_neg n10, layMenu_no W R h, bS]
      simp only []
      rw [if_pos z00]
theorem q_wasted (x y z w : Int32) : Cmd (B_wasted x y z w) (M_wasted x y z w) := by
  intro S μ ν W C R
  rcases in_nat z 0 99 (by decide) (by decide) with e | ⟨K, -, hK, rfl, e⟩
  · have e2 : M_wasted x y z w ν = some (-1, ν) := by
      unfold M_wasted
      rw [e, bS, if_pos z00]
    have e3 : B_wasted x y z w μ = some (-1, μ) := by
      unfold B_wasted
      by_cases f : w < 0
      · rw [if_pos f]
      · rw [if_neg f, isAsked_K W C e, bS, if_pos z00]
    exact ⟨-1, μ, ν, e3, e2, C, R⟩
  by_cases f : w < 0
  · refine ⟨-1, μ, ν, ?_, ?_, C, R⟩
    · unfold B_wasted
      rw [if_pos f]
    · unfold M_wasted
      rw [e, bS, if_neg n10, if_pos f]
  by_cases h : ∃ d a, Asked S x y d a
  · obtain ⟨d, a, h⟩ := h
    obtain ⟨ν1, b1, b2⟩ := wasted_M (K := K) W R h hK f
    obtain ⟨μ1, a1, a2, a3, a4, a5⟩ := layOut_C (K := K) (tg := w) W C h hK
    refine ⟨_, μ1, ν1, ?_, b1, a2, b2⟩
    obtain ⟨A1, A2, A3, A4, A5, A6, A7, -⟩ := a4
    have o1 := a5.1
    unfold B_wasted
    rw [if_neg f, isAsked_yes W C h hK, bS, if_neg n10, a1, bS, rd_n (by decide) (by decide), A1, bS]
    rcases ord_arg (n := (findS S d a K w).1.1) (by omega) f with h1 | ⟨j, j1, j2, j3⟩
    · rw [if_neg h1, if_neg h1]
    · rw [if_pos j3, if_pos j3, (A7 j j1 j2).1]
  · refine ⟨-1, μ, ν, ?_, ?_, C, R⟩
    · unfold B_wasted
      rw [if_neg f, isAsked_no W C h, bS, if_pos z00]
    · unfold M_wasted
      rw [e, bS, if_neg n10, if_neg f, layMenu_no W R h, bS]
      simp only []
      rw [if_pos z00]
/-- what the class says of a page's messes -/
theorem messesOf_C {S : St} {d a K : Nat} {tg y : Int32} {μ : Mem} (W : WF S) (h5 : mm S a ≤ 5) (L : C_mn S d a K tg μ) : (∃ i, i < mm S a ∧ y = nI (mq S a i) ∧ Menus_messesOf y μ = some (mI μ 608 0 i)) ∨ ((∀ i, i < mm S a → ¬ y = nI (mq S a i)) ∧ Menus_messesOf y μ = some (-1)) := by
  have h16 := W.pg.1
  obtain ⟨r, e1, e2⟩ : ∃ r, Menus_messesOf_l1 y μ FU (nI 0) = some r ∧ ((∃ i, i < mm S a ∧ y = nI (mq S a i) ∧ r = mI μ 608 0 i) ∨ ((∀ i, i < mm S a → ¬ y = nI (mq S a i)) ∧ r = -1)) := by
    refine loopE (fun f v (_ : Unit) => Menus_messesOf_l1 y μ f v) (mm S a) (fun c _ => ∀ i, i < c → ¬ y = nI (mq S a i)) _ ?_ ?_ (mm S a) 0 () FU (by omega) (FU_lt (by omega)) (fun i h => absurd h (Nat.not_lt_zero i))
    · rintro f i - hi hI
      show (∃ s', Menus_messesOf_l1b y μ (Menus_messesOf_l1 y μ f) (nI i) = _ ∧ _) ∨ (∃ r, Menus_messesOf_l1b y μ (Menus_messesOf_l1 y μ f) (nI i) = _ ∧ _)
      unfold Menus_messesOf_l1b
      rw [L.1, if_pos ((lt_n (by omega) (by omega)).mpr hi), rd_n (by omega) (by decide), (L.2.2.2.2 i hi).1, bS]
      by_cases e : y = nI (mq S a i)
      · right
        rw [if_pos e.symm, rd_n (by omega) (by decide), bS]
        exact ⟨_, rfl, Or.inl ⟨i, hi, e, rfl⟩⟩
      · left
        rw [if_neg (fun z => e z.symm), bS, add_n]
        refine ⟨(), rfl, fun j hj => ?_⟩
        by_cases e2 : j = i
        · subst e2; exact e
        · exact hI j (by omega)
    · rintro f - hI
      refine ⟨-1, ?_, Or.inr ⟨hI, rfl⟩⟩
      show Menus_messesOf_l1b y μ (Menus_messesOf_l1 y μ f) (nI (mm S a)) = _
      unfold Menus_messesOf_l1b
      rw [L.1, if_neg (fun z => absurd ((lt_n (by omega) (by omega)).mp z) (by omega))]
  unfold Menus_messesOf
  rw [e1]
  rcases e2 with ⟨i, i1, i2, rfl⟩ | ⟨i1, rfl⟩
  · exact Or.inl ⟨i, i1, i2, rfl⟩
  · exact Or.inr ⟨i1, rfl⟩
theorem q_messes (x y z w v : Int32) : Cmd (B_messes x y z w v) (M_messes x y z w v) := by
  intro S μ ν W C R
  have h16 := W.pg.1
  rcases in_nat z 0 99 (by decide) (by decide) with e | ⟨K, -, hK, rfl, e⟩
  · have e2 : M_messes x y z w v ν = some (-1, ν) := by
      unfold M_messes
      rw [e, bS, if_pos z00]
    have e3 : B_messes x y z w v μ = some (-1, μ) := by
      unfold B_messes
      by_cases f : w < 0
      · rw [if_pos f]
      · rw [if_neg f, isAsked_K W C e, bS, if_pos z00]
    exact ⟨-1, μ, ν, e3, e2, C, R⟩
  by_cases f : w < 0
  · refine ⟨-1, μ, ν, ?_, ?_, C, R⟩
    · unfold B_messes
      rw [if_pos f]
    · unfold M_messes
      rw [e, bS, if_neg n10, if_pos f]
  by_cases h : ∃ d a, Asked S x y d a
  · obtain ⟨d, a, h⟩ := h
    have h5 : mm S a ≤ 5 := by rw [mm_pc W h.2.2.2.2.1]; exact h.2.2.2.2.2
    have ha := ask_lt W h.2.2.2.2.1
    obtain ⟨μ1, a1, a2, a3, a4, a5⟩ := layOut_C (K := K) (tg := w) W C h hK
    have hB : B_messes x y (nI K) w v μ = if w < nI (findS S d a K w).1.1 then (Menus_messesOf v μ1).bind fun x4 => some (x4, μ1) else some (-1, μ1) := by
      unfold B_messes
      rw [if_neg f, isAsked_yes W C h hK, bS, if_neg n10, a1, bS, rd_n (by decide) (by decide), a4.1, bS]
    obtain ⟨A1, A2, A3, A4, A5, A6, A7, -⟩ := a4
    have o1 := a5.1
    rcases messesOf_C (y := v) W h5 a3 with ⟨i, i1, rfl, i3⟩ | ⟨i1, i3⟩
    · obtain ⟨ν1, b1, b2⟩ := messes_M (K := K) W R h hK f i1
      refine ⟨_, μ1, ν1, ?_, b1, a2, b2⟩
      rw [hB, i3, bS]
      rcases ord_arg (n := (findS S d a K w).1.1) (by omega) f with h1 | ⟨j, j1, j2, j3⟩
      · rw [if_neg h1, if_neg h1]
      · rw [if_pos j3, if_pos j3, (A7 j j1 j2).2 i i1]
    · have hB2 : B_messes x y (nI K) w v μ = some (-1, μ1) := by
        rw [hB, i3, bS]
        split <;> rfl
      suffices hM : ∃ ν', M_messes x y (nI K) w v ν = some (-1, ν') ∧ MR S ν' by
        obtain ⟨ν', m1, m2⟩ := hM
        exact ⟨-1, μ1, ν', hB2, m1, a2, m2⟩
      unfold M_messes
      rw [e, bS, if_neg n10, if_neg f]
      rcases pg_arg W v with hv | ⟨p, hp, rfl⟩
      · rw [isP0 W R hv, bS, if_pos z00]; exact ⟨ν, rfl, R⟩
      obtain ⟨ν1, c1, c2, c3, c4⟩ := layMenu_yes W R h
      rw [isP1 W R hp, bS, if_neg n10, c1, bS]
      simp only []
      obtain ⟨-, -, rfl, -⟩ := h
      have hb : a.testBit p = false := by
        cases hb : a.testBit p with
        | false => rfl
        | true =>
          obtain ⟨g1, g2⟩ := fl_at (S := S) hp hb
          exact absurd (by rw [g2]) (i1 _ g1)
      rw [if_neg n10, mhas (by omega) (by omega), hb, bS, if_pos (show nI false.toNat = 0 from rfl)]
      exact ⟨ν1, rfl, c2⟩
  · refine ⟨-1, μ, ?_⟩
    suffices hM : M_messes x y (nI K) w v ν = some (-1, ν) by
      refine ⟨ν, ?_, hM, C, R⟩
      unfold B_messes
      rw [if_neg f, isAsked_no W C h, bS, if_pos z00]
    unfold M_messes
    rw [e, bS, if_neg n10, if_neg f]
    rcases pg_arg W v with hv | ⟨p, hp, rfl⟩
    · rw [isP0 W R hv, bS, if_pos z00]
    · rw [isP1 W R hp, bS, if_neg n10, layMenu_no W R h, bS]
      simp only []
      rw [if_pos z00]
