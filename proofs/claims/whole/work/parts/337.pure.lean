/-! PURE: a menu is counted, in the reference -/
def AcOk (c : AcT) : Prop := c.1.1 ≤ 900000 ∧ c.1.2.1 < 65536 ∧ c.1.2.2.1 < 65536 ∧ c.1.2.2.2.1 ≤ 45 ∧ c.1.2.2.2.2 ≤ 45 ∧ c.2.1.1 ≤ c.1.1 ∧ c.2.1.2.1 ≤ c.1.1 ∧ c.2.1.2.2 ≤ 12000
def R_ac (S : St) (a : Nat) (tg : Int32) (c : AcT) (ν : Mem) : Prop := mI ν 1366 0 0 = nI c.1.1 ∧ mI ν 1367 0 0 = nI c.1.2.1 ∧ mI ν 1368 0 0 = nI c.1.2.2.1 ∧ mI ν 1369 0 0 = (if c.1.1 = 0 then -1 else nI c.1.2.2.2.1) ∧ mI ν 1370 0 0 = (if c.1.1 = 0 then -1 else nI c.1.2.2.2.2) ∧ mI ν 1371 0 0 = tg ∧ (0 < c.1.1 → mI ν 1374 0 0 = nI c.2.1.2.2 ∧ mI ν 1375 0 0 = nI c.2.1.2.1 ∧ mI ν 1376 0 0 = nI c.2.1.1) ∧ ∀ j, j < c.1.1 → tg = nI j → mI ν 1373 0 0 = nI c.2.2.1 ∧ ∀ i, i < mm S a → mI ν 1363 0 i = nI (c.2.2.2 i)
theorem note_ok {S : St} {d a : Nat} {tg : Int32} {x : Nat → Nat} {c : AcT} (W : WF S) (hd : d < nDy S) (h5 : mm S a ≤ 5) (hx : ∀ i, i < mm S a → x i ≤ 9) (h : AcOk c) (hc : c.1.1 < 900000) : AcOk (noteS S d a tg x c) := by
  have h10 := W.dy.1
  have h12 := W.th.1
  have hany := any_lt (x := x) W.pg.1 (Nat.le_refl (mm S a))
  have htot := tot_le hx
  have hws := ws_le (x := x) (a := a) W (show d < 10 by omega) (show nTh S ≤ 12 by omega)
  obtain ⟨o1, o2, o3, o4, o5, o6, o7, o8⟩ := h
  unfold noteS
  simp only []
  refine ⟨?_, ?_, ?_, ?_, ?_, ?_⟩
  · show c.1.1 + 1 ≤ 900000; omega
  · show (if c.1.1 = 0 then _ else _) < 65536
    split
    · exact hany
    · exact Nat.lt_of_le_of_lt Nat.and_le_left o2
  · exact Nat.or_lt_two_pow (n := 16) o3 hany
  · show (if c.1.1 = 0 then _ else _) ≤ 45
    split <;> omega
  · show (if c.1.1 = 0 then _ else _) ≤ 45
    split <;> omega
  · show (if _ then _ else _ : Nat × Nat × Nat).1 ≤ c.1.1 + 1 ∧ (if _ then _ else _ : Nat × Nat × Nat).2.1 ≤ c.1.1 + 1 ∧ (if _ then _ else _ : Nat × Nat × Nat).2.2 ≤ 12000
    split
    · exact ⟨by show 1 ≤ _; omega, by show c.1.1 ≤ _; omega, by show wsN S d a x (nTh S) ≤ _; omega⟩
    · split
      · exact ⟨by show c.2.1.1 + 1 ≤ _; omega, by show c.2.1.2.1 ≤ _; omega, o8⟩
      · exact ⟨by omega, by omega, o8⟩
