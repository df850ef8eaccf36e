/-! PURE: page -/
def B_page (a1 a2 : Int32) (μ : Mem) : Option (Option Int32) :=
  (Pages_has a1 μ).bind fun x1 => if x1 = 0 then some none else (B_isWithin a2 (nI 0) (nI 3)).bind fun x2 => if x2 = 0 then some none else if a2 = nI 0 then ((mRd μ 706 0 17 a1).bind fun v => some (some v)) else if a2 = nI 1 then ((mRd μ 709 0 17 a1).bind fun v => some (some v)) else if a2 = nI 2 then ((mRd μ 707 0 17 a1).bind fun v => some (some v)) else (mRd μ 711 0 17 a1).bind fun v => some (some v)
theorem q_page (x y : Int32) {S : St} {μ ν : Mem} (W : WF S) (C : CR S μ) (R : MR S ν) : ∃ o r ν', B_page x y μ = some o ∧ M_page x y ν = some (r, ν') ∧ MR S ν' ∧ ((o = none ∧ mI ν' 1300 0 0 = nI 1) ∨ (o = some r ∧ mI ν' 1300 0 0 = nI 0)) := by
  have h16 := W.pg.1
  have FM : ∀ z, Fr [1300] ν (mSI ν 1300 0 0 z) := fun z => fr_si (by simp) Fr.refl
  have no : ∃ r ν', (some (nI 1)).bind (fun x3 : Int32 => (some (mSI ν 1300 0 0 x3)).bind fun μ4 => if (mI μ4 1300 0 0) = (nI 1) then some ((nI 0), μ4) else if y = 0 then ((M_thingsOf x μ4).bind fun x8 => some (x8, μ4)) else if y = (nI 1) then ((mRd μ4 1319 0 17 x).bind fun x7 => some (x7, μ4)) else if y = (nI 2) then ((M_leftOut x μ4).bind fun x6 => some (x6, μ4)) else (mRd μ4 1321 0 17 x).bind fun x5 => some (x5, μ4)) = some (r, ν') ∧ MR S ν' ∧ mI ν' 1300 0 0 = nI 1 := by
    refine ⟨nI 0, mSI ν 1300 0 0 (nI 1), ?_, R.fr (FM _) (by decide), iS_eq⟩
    rw [bS, bS, iS_eq, if_pos rfl]
  unfold B_page M_page
  rcases pg_arg W x with hx | ⟨p, hp, rfl⟩
  · obtain ⟨r, ν', n1, n2, n3⟩ := no
    rw [hasP0 C hx, bS, if_pos z00, isP0 W R hx, bS, if_pos z00]
    exact ⟨none, r, ν', rfl, n1, n2, Or.inl ⟨rfl, n3⟩⟩
  · rw [hasP1 W C hp, bS, if_neg n10, isP1 W R hp, bS, if_neg n10]
    rcases in_nat y 0 3 (by decide) (by decide) with e | ⟨j, -, hj, rfl, e⟩
    · obtain ⟨r, ν', n1, n2, n3⟩ := no
      rw [show B_isWithin y (nI 0) (nI 3) = some (nI 0) from e, bS, if_pos z00, e, bS, if_pos z00]
      exact ⟨none, r, ν', rfl, n1, n2, Or.inl ⟨rfl, n3⟩⟩
    · have R1 := R.fr (FM (nI 0)) (by decide)
      obtain ⟨-, -, c3, c4, c5, -, -⟩ := C.pg.2.1 p hp
      obtain ⟨-, -, m3, -, m5⟩ := R1.pg.2 p hp
      have c6 := C.pg.2.2 p (by omega)
      rw [show B_isWithin (nI j) (nI 0) (nI 3) = some (nI 1) from e, bS, if_neg n10, e, bS, if_neg n10, bS, bS, iS_eq, if_neg (show ¬ nI 0 = nI 1 by decide)]
      rcases (show j = 0 ∨ j = 1 ∨ j = 2 ∨ j = 3 by omega) with q | q | q | q <;> subst q
      · rw [if_pos rfl, if_pos z00, rd_n (by omega) (by decide), c3, bS, things_M W R1.pg hp, bS]
        exact ⟨_, _, _, rfl, rfl, R1, Or.inr ⟨rfl, iS_eq⟩⟩
      · rw [if_neg (by decide), if_pos rfl, if_neg n10, if_pos rfl, rd_n (by omega) (by decide), c5, bS, rd_n (by omega) (by decide), m3, bS]
        exact ⟨_, _, _, rfl, rfl, R1, Or.inr ⟨rfl, iS_eq⟩⟩
      · rw [if_neg (by decide), if_neg (by decide), if_pos rfl, if_neg (by decide), if_neg (by decide), if_pos rfl, rd_n (by omega) (by decide), c4, bS, left_M W R1.pg hp, bS]
        exact ⟨_, _, _, rfl, rfl, R1, Or.inr ⟨rfl, iS_eq⟩⟩
      · rw [if_neg (by decide), if_neg (by decide), if_neg (by decide), if_neg (by decide), if_neg (by decide), if_neg (by decide), rd_n (by omega) (by decide), c6, bS, rd_n (by omega) (by decide), m5, bS]
        exact ⟨_, _, _, rfl, rfl, R1, Or.inr ⟨rfl, iS_eq⟩⟩
