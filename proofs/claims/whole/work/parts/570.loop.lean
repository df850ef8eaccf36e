/-! THE LAW'S LOOP -/
theorem sublt {b a k : Nat} (hk : k < 1000000) (hb : b < 1000000) (ha : a < 1000000) : nI b - nI a < nI k ↔ b < k + a := by
  have e1 := nI_toInt (n := b) (by omega)
  have e2 := nI_toInt (n := a) (by omega)
  have e4 := nI_toInt (n := k) (by omega)
  have e3 : ((b : Int) - a).bmod (2 ^ 32) = b - a := Int.bmod_eq_of_le (by omega) (by omega)
  rw [Int32.lt_iff_toInt_lt, Int32.toInt_sub, e1, e2, e3, e4]
  omega
theorem sw54 (z : Int32) : (∃ n, n < 54 ∧ z = nI n) ∨ ∀ k : Int, 0 ≤ k → k ≤ 53 → ¬ z = Int32.ofInt k := by
  by_cases h : 0 ≤ z.toInt ∧ z.toInt ≤ 53
  · refine Or.inl ⟨z.toInt.toNat, by omega, ?_⟩
    apply Int32.toInt_inj.mp
    rw [nI_toInt (by omega)]
    omega
  · refine Or.inr fun k h1 h2 e => h ?_
    have e1 : z = nI k.toNat := by
      rw [e]
      show Int32.ofInt k = Int32.ofNat k.toNat
      rw [← Int32.ofInt_eq_ofNat, Int.toNat_of_nonneg h1]
    rw [e1, nI_toInt (by omega)]
    omega
section LawLoop
variable {p : Program} {l : Launch} {e : Env} {s : State} {m : MethodId} {below : List Frame} {meth : Method} {c : Code} {w : Wld} {b N : Nat} {xs : Nat → Int32}
/-- what holds of the law's frame all along -/
def LawC (p : Program) (s : State) (m : MethodId) (meth : Method) (c : Code) (w : Wld) (b N : Nat) (xs : Nat → Int32) : Prop :=
  p.tables.exec = Jvm.exec ∧ c.code = code ∧ c.maxLocals = 7 ∧ s.vm.findClass "PotBookLaw" = some m.cls ∧ (∀ x ∈ BW, x.before #[Value.ref b] s = true) ∧ wKn w s ∧ meth.locks = false ∧ va_X b N xs s s.heap ∧ b < s.heap.size ∧ ¬ w.2.2.2 b ∧ N ≤ 3584 ∧ xZ w.2.2.2 s s.heap ∧ xR s
theorem LawC.ctx (C : LawC p s m meth c w b N xs) {kc ns : Nat} (h : kc ≤ 601024 ∧ ns ≤ 7293034) : Cxt p room_1 s m #[Value.ref b] meth c w code 7 "PotBookLaw" 200 kc ns := by
  obtain ⟨h1, h2, h3, h4, h5, h6, h7, -⟩ := C
  exact ⟨h1, h2, h3, h4, h5, h6, (by decide : 200 ≤ 2048), (by decide : 40 * 200 ≤ 84000), h7, h.1, h.2⟩
set_option maxRecDepth 100000 in
theorem go_0 (hl0 : l.stackTraces = false) (C : LawC p s m meth c w b N xs) {t kc ns : Nat} (ht : t ≤ 512) (hi : 7 * t + 7 ≤ N) (hcs : kc + 1 ≤ 601024 ∧ ns + 6 ≤ 7293034) {μ : Mem} (I : INV t μ) {Q : State → Prop} (tail : ∀ μ2, INV (t + 1) μ2 → Vj p l e room_1 s m #[Value.ref b] below meth c w 7 (kc + 1) (ns + 6) Q 2568 [some (.ref b), some (.ref (wad w 11 0)), some (.ref (wad w 12 0)), some (.ref (wad w 1400 0)), some (.int (nI (7 * t))), none, none] [] μ2) : Vj p l e room_1 s m #[Value.ref b] below meth c w 7 kc ns Q 272 [some (.ref b), some (.ref (wad w 11 0)), some (.ref (wad w 12 0)), some (.ref (wad w 1400 0)), some (.int (nI (7 * t))), none, none] [] μ := by
  obtain ⟨-, -, -, -, -, -, -, hX, hbl, hbA, hN, hZ, hR⟩ := id C
  obtain ⟨μ2, h1, h2⟩ := step_0 (by omega) I (xs (7 * t + 1)) (xs (7 * t + 2)) (xs (7 * t + 3)) (xs (7 * t + 4)) (xs (7 * t + 5))
  exact law_0 (C.ctx ⟨by omega, by omega⟩) hX hbl hbA hi hN h1 (V_wide (Nat.le_succ _) (Nat.le_add_right _ 6) (tail μ2 h2))
set_option maxRecDepth 100000 in
theorem go_1 (hl0 : l.stackTraces = false) (C : LawC p s m meth c w b N xs) {t kc ns : Nat} (ht : t ≤ 512) (hi : 7 * t + 7 ≤ N) (hcs : kc + 1 ≤ 601024 ∧ ns + 6 ≤ 7293034) {μ : Mem} (I : INV t μ) {Q : State → Prop} (tail : ∀ μ2, INV (t + 1) μ2 → Vj p l e room_1 s m #[Value.ref b] below meth c w 7 (kc + 1) (ns + 6) Q 2568 [some (.ref b), some (.ref (wad w 11 0)), some (.ref (wad w 12 0)), some (.ref (wad w 1400 0)), some (.int (nI (7 * t))), none, none] [] μ2) : Vj p l e room_1 s m #[Value.ref b] below meth c w 7 kc ns Q 345 [some (.ref b), some (.ref (wad w 11 0)), some (.ref (wad w 12 0)), some (.ref (wad w 1400 0)), some (.int (nI (7 * t))), none, none] [] μ := by
  obtain ⟨-, -, -, -, -, -, -, hX, hbl, hbA, hN, hZ, hR⟩ := id C
  obtain ⟨μ2, h1, h2⟩ := step_1 (by omega) I (xs (7 * t + 1))
  exact law_1 (C.ctx ⟨by omega, by omega⟩) hX hbl hbA hi hN h1 (V_wide (Nat.le_succ _) (Nat.le_add_right _ 6) (tail μ2 h2))
set_option maxRecDepth 100000 in
theorem go_2 (hl0 : l.stackTraces = false) (C : LawC p s m meth c w b N xs) {t kc ns : Nat} (ht : t ≤ 512) (hi : 7 * t + 7 ≤ N) (hcs : kc + 1 ≤ 601024 ∧ ns + 6 ≤ 7293034) {μ : Mem} (I : INV t μ) {Q : State → Prop} (tail : ∀ μ2, INV (t + 1) μ2 → Vj p l e room_1 s m #[Value.ref b] below meth c w 7 (kc + 1) (ns + 6) Q 2568 [some (.ref b), some (.ref (wad w 11 0)), some (.ref (wad w 12 0)), some (.ref (wad w 1400 0)), some (.int (nI (7 * t))), none, none] [] μ2) : Vj p l e room_1 s m #[Value.ref b] below meth c w 7 kc ns Q 370 [some (.ref b), some (.ref (wad w 11 0)), some (.ref (wad w 12 0)), some (.ref (wad w 1400 0)), some (.int (nI (7 * t))), none, none] [] μ := by
  obtain ⟨-, -, -, -, -, -, -, hX, hbl, hbA, hN, hZ, hR⟩ := id C
  obtain ⟨μ2, h1, h2⟩ := step_2 (by omega) I (xs (7 * t + 1))
  exact law_2 (C.ctx ⟨by omega, by omega⟩) hX hbl hbA hi hN h1 (V_wide (Nat.le_succ _) (Nat.le_add_right _ 6) (tail μ2 h2))
set_option maxRecDepth 100000 in
theorem go_3 (hl0 : l.stackTraces = false) (C : LawC p s m meth c w b N xs) {t kc ns : Nat} (ht : t ≤ 512) (hi : 7 * t + 7 ≤ N) (hcs : kc + 1 ≤ 601024 ∧ ns + 6 ≤ 7293034) {μ : Mem} (I : INV t μ) {Q : State → Prop} (tail : ∀ μ2, INV (t + 1) μ2 → Vj p l e room_1 s m #[Value.ref b] below meth c w 7 (kc + 1) (ns + 6) Q 2568 [some (.ref b), some (.ref (wad w 11 0)), some (.ref (wad w 12 0)), some (.ref (wad w 1400 0)), some (.int (nI (7 * t))), none, none] [] μ2) : Vj p l e room_1 s m #[Value.ref b] below meth c w 7 kc ns Q 395 [some (.ref b), some (.ref (wad w 11 0)), some (.ref (wad w 12 0)), some (.ref (wad w 1400 0)), some (.int (nI (7 * t))), none, none] [] μ := by
  obtain ⟨-, -, -, -, -, -, -, hX, hbl, hbA, hN, hZ, hR⟩ := id C
  obtain ⟨μ2, h1, h2⟩ := step_3 (by omega) I (xs (7 * t + 1))
  exact law_3 (C.ctx ⟨by omega, by omega⟩) hX hbl hbA hi hN h1 (V_wide (Nat.le_succ _) (Nat.le_add_right _ 6) (tail μ2 h2))
set_option maxRecDepth 100000 in
theorem go_4 (hl0 : l.stackTraces = false) (C : LawC p s m meth c w b N xs) {t kc ns : Nat} (ht : t ≤ 512) (hi : 7 * t + 7 ≤ N) (hcs : kc + 1 ≤ 601024 ∧ ns + 6 ≤ 7293034) {μ : Mem} (I : INV t μ) {Q : State → Prop} (tail : ∀ μ2, INV (t + 1) μ2 → Vj p l e room_1 s m #[Value.ref b] below meth c w 7 (kc + 1) (ns + 6) Q 2568 [some (.ref b), some (.ref (wad w 11 0)), some (.ref (wad w 12 0)), some (.ref (wad w 1400 0)), some (.int (nI (7 * t))), none, none] [] μ2) : Vj p l e room_1 s m #[Value.ref b] below meth c w 7 kc ns Q 420 [some (.ref b), some (.ref (wad w 11 0)), some (.ref (wad w 12 0)), some (.ref (wad w 1400 0)), some (.int (nI (7 * t))), none, none] [] μ := by
  obtain ⟨-, -, -, -, -, -, -, hX, hbl, hbA, hN, hZ, hR⟩ := id C
  obtain ⟨μ2, h1, h2⟩ := step_4 (by omega) I (xs (7 * t + 1)) (xs (7 * t + 2)) (xs (7 * t + 3)) (xs (7 * t + 4)) (xs (7 * t + 5)) (xs (7 * t + 6))
  exact law_4 (C.ctx ⟨by omega, by omega⟩) hX hbl hbA hi hN h1 (V_wide (Nat.le_succ _) (Nat.le_add_right _ 6) (tail μ2 h2))
set_option maxRecDepth 100000 in
theorem go_5 (hl0 : l.stackTraces = false) (C : LawC p s m meth c w b N xs) {t kc ns : Nat} (ht : t ≤ 512) (hi : 7 * t + 7 ≤ N) (hcs : kc + 1 ≤ 601024 ∧ ns + 6 ≤ 7293034) {μ : Mem} (I : INV t μ) {Q : State → Prop} (tail : ∀ μ2, INV (t + 1) μ2 → Vj p l e room_1 s m #[Value.ref b] below meth c w 7 (kc + 1) (ns + 6) Q 2568 [some (.ref b), some (.ref (wad w 11 0)), some (.ref (wad w 12 0)), some (.ref (wad w 1400 0)), some (.int (nI (7 * t))), none, none] [] μ2) : Vj p l e room_1 s m #[Value.ref b] below meth c w 7 kc ns Q 523 [some (.ref b), some (.ref (wad w 11 0)), some (.ref (wad w 12 0)), some (.ref (wad w 1400 0)), some (.int (nI (7 * t))), none, none] [] μ := by
  obtain ⟨-, -, -, -, -, -, -, hX, hbl, hbA, hN, hZ, hR⟩ := id C
  obtain ⟨μ2, h1, h2⟩ := step_5 (by omega) I (xs (7 * t + 1)) (xs (7 * t + 2)) (xs (7 * t + 3))
  exact law_5 (C.ctx ⟨by omega, by omega⟩) hX hbl hbA hi hN h1 (V_wide (Nat.le_succ _) (Nat.le_add_right _ 6) (tail μ2 h2))
set_option maxRecDepth 100000 in
theorem go_6 (hl0 : l.stackTraces = false) (C : LawC p s m meth c w b N xs) {t kc ns : Nat} (ht : t ≤ 512) (hi : 7 * t + 7 ≤ N) (hcs : kc + 1 ≤ 601024 ∧ ns + 6 ≤ 7293034) {μ : Mem} (I : INV t μ) {Q : State → Prop} (tail : ∀ μ2, INV (t + 1) μ2 → Vj p l e room_1 s m #[Value.ref b] below meth c w 7 (kc + 1) (ns + 6) Q 2568 [some (.ref b), some (.ref (wad w 11 0)), some (.ref (wad w 12 0)), some (.ref (wad w 1400 0)), some (.int (nI (7 * t))), none, none] [] μ2) : Vj p l e room_1 s m #[Value.ref b] below meth c w 7 kc ns Q 572 [some (.ref b), some (.ref (wad w 11 0)), some (.ref (wad w 12 0)), some (.ref (wad w 1400 0)), some (.int (nI (7 * t))), none, none] [] μ := by
  obtain ⟨-, -, -, -, -, -, -, hX, hbl, hbA, hN, hZ, hR⟩ := id C
  obtain ⟨μ2, h1, h2⟩ := step_6 (by omega) I (xs (7 * t + 1)) (xs (7 * t + 2))
  exact law_6 (C.ctx ⟨by omega, by omega⟩) hX hbl hbA hi hN h1 (V_wide (Nat.le_succ _) (Nat.le_add_right _ 6) (tail μ2 h2))
set_option maxRecDepth 100000 in
theorem go_7 (hl0 : l.stackTraces = false) (C : LawC p s m meth c w b N xs) {t kc ns : Nat} (ht : t ≤ 512) (hi : 7 * t + 7 ≤ N) (hcs : kc + 1 ≤ 601024 ∧ ns + 6 ≤ 7293034) {μ : Mem} (I : INV t μ) {Q : State → Prop} (tail : ∀ μ2, INV (t + 1) μ2 → Vj p l e room_1 s m #[Value.ref b] below meth c w 7 (kc + 1) (ns + 6) Q 2568 [some (.ref b), some (.ref (wad w 11 0)), some (.ref (wad w 12 0)), some (.ref (wad w 1400 0)), some (.int (nI (7 * t))), none, none] [] μ2) : Vj p l e room_1 s m #[Value.ref b] below meth c w 7 kc ns Q 609 [some (.ref b), some (.ref (wad w 11 0)), some (.ref (wad w 12 0)), some (.ref (wad w 1400 0)), some (.int (nI (7 * t))), none, none] [] μ := by
  obtain ⟨-, -, -, -, -, -, -, hX, hbl, hbA, hN, hZ, hR⟩ := id C
  obtain ⟨μ2, h1, h2⟩ := step_7 I (xs (7 * t + 1)) (xs (7 * t + 2))
  exact law_7 hl0 (C.ctx ⟨by omega, by omega⟩) hX hbl hbA hi hN hZ hR hcs h1 (tail μ2 h2)
set_option maxRecDepth 100000 in
theorem go_8 (hl0 : l.stackTraces = false) (C : LawC p s m meth c w b N xs) {t kc ns : Nat} (ht : t ≤ 512) (hi : 7 * t + 7 ≤ N) (hcs : kc + 1 ≤ 601024 ∧ ns + 6 ≤ 7293034) {μ : Mem} (I : INV t μ) {Q : State → Prop} (tail : ∀ μ2, INV (t + 1) μ2 → Vj p l e room_1 s m #[Value.ref b] below meth c w 7 (kc + 1) (ns + 6) Q 2568 [some (.ref b), some (.ref (wad w 11 0)), some (.ref (wad w 12 0)), some (.ref (wad w 1400 0)), some (.int (nI (7 * t))), none, none] [] μ2) : Vj p l e room_1 s m #[Value.ref b] below meth c w 7 kc ns Q 677 [some (.ref b), some (.ref (wad w 11 0)), some (.ref (wad w 12 0)), some (.ref (wad w 1400 0)), some (.int (nI (7 * t))), none, none] [] μ := by
  obtain ⟨-, -, -, -, -, -, -, hX, hbl, hbA, hN, hZ, hR⟩ := id C
  obtain ⟨μ2, h1, h2⟩ := step_8 (by omega) I (xs (7 * t + 1))
  exact law_8 (C.ctx ⟨by omega, by omega⟩) hX hbl hbA hi hN h1 (V_wide (Nat.le_succ _) (Nat.le_add_right _ 6) (tail μ2 h2))
set_option maxRecDepth 100000 in
theorem go_9 (hl0 : l.stackTraces = false) (C : LawC p s m meth c w b N xs) {t kc ns : Nat} (ht : t ≤ 512) (hi : 7 * t + 7 ≤ N) (hcs : kc + 1 ≤ 601024 ∧ ns + 6 ≤ 7293034) {μ : Mem} (I : INV t μ) {Q : State → Prop} (tail : ∀ μ2, INV (t + 1) μ2 → Vj p l e room_1 s m #[Value.ref b] below meth c w 7 (kc + 1) (ns + 6) Q 2568 [some (.ref b), some (.ref (wad w 11 0)), some (.ref (wad w 12 0)), some (.ref (wad w 1400 0)), some (.int (nI (7 * t))), none, none] [] μ2) : Vj p l e room_1 s m #[Value.ref b] below meth c w 7 kc ns Q 702 [some (.ref b), some (.ref (wad w 11 0)), some (.ref (wad w 12 0)), some (.ref (wad w 1400 0)), some (.int (nI (7 * t))), none, none] [] μ := by
  obtain ⟨-, -, -, -, -, -, -, hX, hbl, hbA, hN, hZ, hR⟩ := id C
  obtain ⟨μ2, h1, h2⟩ := step_9 (by omega) I (xs (7 * t + 1)) (xs (7 * t + 2)) (xs (7 * t + 3)) (xs (7 * t + 4))
  exact law_9 (C.ctx ⟨by omega, by omega⟩) hX hbl hbA hi hN h1 (V_wide (Nat.le_succ _) (Nat.le_add_right _ 6) (tail μ2 h2))
set_option maxRecDepth 100000 in
theorem go_10 (hl0 : l.stackTraces = false) (C : LawC p s m meth c w b N xs) {t kc ns : Nat} (ht : t ≤ 512) (hi : 7 * t + 7 ≤ N) (hcs : kc + 1 ≤ 601024 ∧ ns + 6 ≤ 7293034) {μ : Mem} (I : INV t μ) {Q : State → Prop} (tail : ∀ μ2, INV (t + 1) μ2 → Vj p l e room_1 s m #[Value.ref b] below meth c w 7 (kc + 1) (ns + 6) Q 2568 [some (.ref b), some (.ref (wad w 11 0)), some (.ref (wad w 12 0)), some (.ref (wad w 1400 0)), some (.int (nI (7 * t))), none, none] [] μ2) : Vj p l e room_1 s m #[Value.ref b] below meth c w 7 kc ns Q 763 [some (.ref b), some (.ref (wad w 11 0)), some (.ref (wad w 12 0)), some (.ref (wad w 1400 0)), some (.int (nI (7 * t))), none, none] [] μ := by
  obtain ⟨-, -, -, -, -, -, -, hX, hbl, hbA, hN, hZ, hR⟩ := id C
  obtain ⟨μ2, h1, h2⟩ := step_10 (by omega) I (xs (7 * t + 1))
  exact law_10 (C.ctx ⟨by omega, by omega⟩) hX hbl hbA hi hN h1 (V_wide (Nat.le_succ _) (Nat.le_add_right _ 6) (tail μ2 h2))
set_option maxRecDepth 100000 in
theorem go_11 (hl0 : l.stackTraces = false) (C : LawC p s m meth c w b N xs) {t kc ns : Nat} (ht : t ≤ 512) (hi : 7 * t + 7 ≤ N) (hcs : kc + 1 ≤ 601024 ∧ ns + 6 ≤ 7293034) {μ : Mem} (I : INV t μ) {Q : State → Prop} (tail : ∀ μ2, INV (t + 1) μ2 → Vj p l e room_1 s m #[Value.ref b] below meth c w 7 (kc + 1) (ns + 6) Q 2568 [some (.ref b), some (.ref (wad w 11 0)), some (.ref (wad w 12 0)), some (.ref (wad w 1400 0)), some (.int (nI (7 * t))), none, none] [] μ2) : Vj p l e room_1 s m #[Value.ref b] below meth c w 7 kc ns Q 788 [some (.ref b), some (.ref (wad w 11 0)), some (.ref (wad w 12 0)), some (.ref (wad w 1400 0)), some (.int (nI (7 * t))), none, none] [] μ := by
  obtain ⟨-, -, -, -, -, -, -, hX, hbl, hbA, hN, hZ, hR⟩ := id C
  obtain ⟨μ2, h1, h2⟩ := step_11 (by omega) I (xs (7 * t + 1)) (xs (7 * t + 2)) (xs (7 * t + 3))
  exact law_11 (C.ctx ⟨by omega, by omega⟩) hX hbl hbA hi hN h1 (V_wide (Nat.le_succ _) (Nat.le_add_right _ 6) (tail μ2 h2))
set_option maxRecDepth 100000 in
theorem go_12 (hl0 : l.stackTraces = false) (C : LawC p s m meth c w b N xs) {t kc ns : Nat} (ht : t ≤ 512) (hi : 7 * t + 7 ≤ N) (hcs : kc + 1 ≤ 601024 ∧ ns + 6 ≤ 7293034) {μ : Mem} (I : INV t μ) {Q : State → Prop} (tail : ∀ μ2, INV (t + 1) μ2 → Vj p l e room_1 s m #[Value.ref b] below meth c w 7 (kc + 1) (ns + 6) Q 2568 [some (.ref b), some (.ref (wad w 11 0)), some (.ref (wad w 12 0)), some (.ref (wad w 1400 0)), some (.int (nI (7 * t))), none, none] [] μ2) : Vj p l e room_1 s m #[Value.ref b] below meth c w 7 kc ns Q 837 [some (.ref b), some (.ref (wad w 11 0)), some (.ref (wad w 12 0)), some (.ref (wad w 1400 0)), some (.int (nI (7 * t))), none, none] [] μ := by
  obtain ⟨-, -, -, -, -, -, -, hX, hbl, hbA, hN, hZ, hR⟩ := id C
  obtain ⟨μ2, h1, h2⟩ := step_12 (by omega) I (xs (7 * t + 1)) (xs (7 * t + 2)) (xs (7 * t + 3))
  exact law_12 (C.ctx ⟨by omega, by omega⟩) hX hbl hbA hi hN h1 (V_wide (Nat.le_succ _) (Nat.le_add_right _ 6) (tail μ2 h2))
set_option maxRecDepth 100000 in
theorem go_13 (hl0 : l.stackTraces = false) (C : LawC p s m meth c w b N xs) {t kc ns : Nat} (ht : t ≤ 512) (hi : 7 * t + 7 ≤ N) (hcs : kc + 1 ≤ 601024 ∧ ns + 6 ≤ 7293034) {μ : Mem} (I : INV t μ) {Q : State → Prop} (tail : ∀ μ2, INV (t + 1) μ2 → Vj p l e room_1 s m #[Value.ref b] below meth c w 7 (kc + 1) (ns + 6) Q 2568 [some (.ref b), some (.ref (wad w 11 0)), some (.ref (wad w 12 0)), some (.ref (wad w 1400 0)), some (.int (nI (7 * t))), none, none] [] μ2) : Vj p l e room_1 s m #[Value.ref b] below meth c w 7 kc ns Q 886 [some (.ref b), some (.ref (wad w 11 0)), some (.ref (wad w 12 0)), some (.ref (wad w 1400 0)), some (.int (nI (7 * t))), none, none] [] μ := by
  obtain ⟨-, -, -, -, -, -, -, hX, hbl, hbA, hN, hZ, hR⟩ := id C
  obtain ⟨μ2, h1, h2⟩ := step_13 (by omega) I (xs (7 * t + 1))
  exact law_13 (C.ctx ⟨by omega, by omega⟩) hX hbl hbA hi hN h1 (V_wide (Nat.le_succ _) (Nat.le_add_right _ 6) (tail μ2 h2))
set_option maxRecDepth 100000 in
theorem go_14 (hl0 : l.stackTraces = false) (C : LawC p s m meth c w b N xs) {t kc ns : Nat} (ht : t ≤ 512) (hi : 7 * t + 7 ≤ N) (hcs : kc + 1 ≤ 601024 ∧ ns + 6 ≤ 7293034) {μ : Mem} (I : INV t μ) {Q : State → Prop} (tail : ∀ μ2, INV (t + 1) μ2 → Vj p l e room_1 s m #[Value.ref b] below meth c w 7 (kc + 1) (ns + 6) Q 2568 [some (.ref b), some (.ref (wad w 11 0)), some (.ref (wad w 12 0)), some (.ref (wad w 1400 0)), some (.int (nI (7 * t))), none, none] [] μ2) : Vj p l e room_1 s m #[Value.ref b] below meth c w 7 kc ns Q 911 [some (.ref b), some (.ref (wad w 11 0)), some (.ref (wad w 12 0)), some (.ref (wad w 1400 0)), some (.int (nI (7 * t))), none, none] [] μ := by
  obtain ⟨-, -, -, -, -, -, -, hX, hbl, hbA, hN, hZ, hR⟩ := id C
  obtain ⟨μ2, h1, h2⟩ := step_14 (by omega) I (xs (7 * t + 1)) (xs (7 * t + 2)) (xs (7 * t + 3))
  exact law_14 (C.ctx ⟨by omega, by omega⟩) hX hbl hbA hi hN h1 (V_wide (Nat.le_succ _) (Nat.le_add_right _ 6) (tail μ2 h2))
set_option maxRecDepth 100000 in
theorem go_15 (hl0 : l.stackTraces = false) (C : LawC p s m meth c w b N xs) {t kc ns : Nat} (ht : t ≤ 512) (hi : 7 * t + 7 ≤ N) (hcs : kc + 1 ≤ 601024 ∧ ns + 6 ≤ 7293034) {μ : Mem} (I : INV t μ) {Q : State → Prop} (tail : ∀ μ2, INV (t + 1) μ2 → Vj p l e room_1 s m #[Value.ref b] below meth c w 7 (kc + 1) (ns + 6) Q 2568 [some (.ref b), some (.ref (wad w 11 0)), some (.ref (wad w 12 0)), some (.ref (wad w 1400 0)), some (.int (nI (7 * t))), none, none] [] μ2) : Vj p l e room_1 s m #[Value.ref b] below meth c w 7 kc ns Q 960 [some (.ref b), some (.ref (wad w 11 0)), some (.ref (wad w 12 0)), some (.ref (wad w 1400 0)), some (.int (nI (7 * t))), none, none] [] μ := by
  obtain ⟨-, -, -, -, -, -, -, hX, hbl, hbA, hN, hZ, hR⟩ := id C
  obtain ⟨μ2, h1, h2⟩ := step_15 (by omega) I (xs (7 * t + 1)) (xs (7 * t + 2)) (xs (7 * t + 3))
  exact law_15 (C.ctx ⟨by omega, by omega⟩) hX hbl hbA hi hN h1 (V_wide (Nat.le_succ _) (Nat.le_add_right _ 6) (tail μ2 h2))
set_option maxRecDepth 100000 in
theorem go_16 (hl0 : l.stackTraces = false) (C : LawC p s m meth c w b N xs) {t kc ns : Nat} (ht : t ≤ 512) (hi : 7 * t + 7 ≤ N) (hcs : kc + 1 ≤ 601024 ∧ ns + 6 ≤ 7293034) {μ : Mem} (I : INV t μ) {Q : State → Prop} (tail : ∀ μ2, INV (t + 1) μ2 → Vj p l e room_1 s m #[Value.ref b] below meth c w 7 (kc + 1) (ns + 6) Q 2568 [some (.ref b), some (.ref (wad w 11 0)), some (.ref (wad w 12 0)), some (.ref (wad w 1400 0)), some (.int (nI (7 * t))), none, none] [] μ2) : Vj p l e room_1 s m #[Value.ref b] below meth c w 7 kc ns Q 1009 [some (.ref b), some (.ref (wad w 11 0)), some (.ref (wad w 12 0)), some (.ref (wad w 1400 0)), some (.int (nI (7 * t))), none, none] [] μ := by
  obtain ⟨-, -, -, -, -, -, -, hX, hbl, hbA, hN, hZ, hR⟩ := id C
  obtain ⟨μ2, h1, h2⟩ := step_16 (by omega) I (xs (7 * t + 1))
  exact law_16 (C.ctx ⟨by omega, by omega⟩) hX hbl hbA hi hN h1 (V_wide (Nat.le_succ _) (Nat.le_add_right _ 6) (tail μ2 h2))
set_option maxRecDepth 100000 in
theorem go_17 (hl0 : l.stackTraces = false) (C : LawC p s m meth c w b N xs) {t kc ns : Nat} (ht : t ≤ 512) (hi : 7 * t + 7 ≤ N) (hcs : kc + 1 ≤ 601024 ∧ ns + 6 ≤ 7293034) {μ : Mem} (I : INV t μ) {Q : State → Prop} (tail : ∀ μ2, INV (t + 1) μ2 → Vj p l e room_1 s m #[Value.ref b] below meth c w 7 (kc + 1) (ns + 6) Q 2568 [some (.ref b), some (.ref (wad w 11 0)), some (.ref (wad w 12 0)), some (.ref (wad w 1400 0)), some (.int (nI (7 * t))), none, none] [] μ2) : Vj p l e room_1 s m #[Value.ref b] below meth c w 7 kc ns Q 1034 [some (.ref b), some (.ref (wad w 11 0)), some (.ref (wad w 12 0)), some (.ref (wad w 1400 0)), some (.int (nI (7 * t))), none, none] [] μ := by
  obtain ⟨-, -, -, -, -, -, -, hX, hbl, hbA, hN, hZ, hR⟩ := id C
  obtain ⟨μ2, h1, h2⟩ := step_17 (by omega) I (xs (7 * t + 1)) (xs (7 * t + 2)) (xs (7 * t + 3))
  exact law_17 (C.ctx ⟨by omega, by omega⟩) hX hbl hbA hi hN h1 (V_wide (Nat.le_succ _) (Nat.le_add_right _ 6) (tail μ2 h2))
set_option maxRecDepth 100000 in
theorem go_18 (hl0 : l.stackTraces = false) (C : LawC p s m meth c w b N xs) {t kc ns : Nat} (ht : t ≤ 512) (hi : 7 * t + 7 ≤ N) (hcs : kc + 1 ≤ 601024 ∧ ns + 6 ≤ 7293034) {μ : Mem} (I : INV t μ) {Q : State → Prop} (tail : ∀ μ2, INV (t + 1) μ2 → Vj p l e room_1 s m #[Value.ref b] below meth c w 7 (kc + 1) (ns + 6) Q 2568 [some (.ref b), some (.ref (wad w 11 0)), some (.ref (wad w 12 0)), some (.ref (wad w 1400 0)), some (.int (nI (7 * t))), none, none] [] μ2) : Vj p l e room_1 s m #[Value.ref b] below meth c w 7 kc ns Q 1099 [some (.ref b), some (.ref (wad w 11 0)), some (.ref (wad w 12 0)), some (.ref (wad w 1400 0)), some (.int (nI (7 * t))), none, none] [] μ := by
  obtain ⟨-, -, -, -, -, -, -, hX, hbl, hbA, hN, hZ, hR⟩ := id C
  obtain ⟨μ2, h1, h2⟩ := step_18 (by omega) I (xs (7 * t + 1)) (xs (7 * t + 2)) (xs (7 * t + 3))
  exact law_18 (C.ctx ⟨by omega, by omega⟩) hX hbl hbA hi hN h1 (V_wide (Nat.le_succ _) (Nat.le_add_right _ 6) (tail μ2 h2))
set_option maxRecDepth 100000 in
theorem go_19 (hl0 : l.stackTraces = false) (C : LawC p s m meth c w b N xs) {t kc ns : Nat} (ht : t ≤ 512) (hi : 7 * t + 7 ≤ N) (hcs : kc + 1 ≤ 601024 ∧ ns + 6 ≤ 7293034) {μ : Mem} (I : INV t μ) {Q : State → Prop} (tail : ∀ μ2, INV (t + 1) μ2 → Vj p l e room_1 s m #[Value.ref b] below meth c w 7 (kc + 1) (ns + 6) Q 2568 [some (.ref b), some (.ref (wad w 11 0)), some (.ref (wad w 12 0)), some (.ref (wad w 1400 0)), some (.int (nI (7 * t))), none, none] [] μ2) : Vj p l e room_1 s m #[Value.ref b] below meth c w 7 kc ns Q 1148 [some (.ref b), some (.ref (wad w 11 0)), some (.ref (wad w 12 0)), some (.ref (wad w 1400 0)), some (.int (nI (7 * t))), none, none] [] μ := by
  obtain ⟨-, -, -, -, -, -, -, hX, hbl, hbA, hN, hZ, hR⟩ := id C
  obtain ⟨μ2, h1, h2⟩ := step_19 (by omega) I (xs (7 * t + 1)) (xs (7 * t + 2)) (xs (7 * t + 3))
  exact law_19 (C.ctx ⟨by omega, by omega⟩) hX hbl hbA hi hN h1 (V_wide (Nat.le_succ _) (Nat.le_add_right _ 6) (tail μ2 h2))
set_option maxRecDepth 100000 in
theorem go_20 (hl0 : l.stackTraces = false) (C : LawC p s m meth c w b N xs) {t kc ns : Nat} (ht : t ≤ 512) (hi : 7 * t + 7 ≤ N) (hcs : kc + 1 ≤ 601024 ∧ ns + 6 ≤ 7293034) {μ : Mem} (I : INV t μ) {Q : State → Prop} (tail : ∀ μ2, INV (t + 1) μ2 → Vj p l e room_1 s m #[Value.ref b] below meth c w 7 (kc + 1) (ns + 6) Q 2568 [some (.ref b), some (.ref (wad w 11 0)), some (.ref (wad w 12 0)), some (.ref (wad w 1400 0)), some (.int (nI (7 * t))), none, none] [] μ2) : Vj p l e room_1 s m #[Value.ref b] below meth c w 7 kc ns Q 1197 [some (.ref b), some (.ref (wad w 11 0)), some (.ref (wad w 12 0)), some (.ref (wad w 1400 0)), some (.int (nI (7 * t))), none, none] [] μ := by
  obtain ⟨-, -, -, -, -, -, -, hX, hbl, hbA, hN, hZ, hR⟩ := id C
  obtain ⟨μ2, h1, h2⟩ := step_20 (by omega) I (xs (7 * t + 1))
  exact law_20 (C.ctx ⟨by omega, by omega⟩) hX hbl hbA hi hN h1 (V_wide (Nat.le_succ _) (Nat.le_add_right _ 6) (tail μ2 h2))
set_option maxRecDepth 100000 in
theorem go_21 (hl0 : l.stackTraces = false) (C : LawC p s m meth c w b N xs) {t kc ns : Nat} (ht : t ≤ 512) (hi : 7 * t + 7 ≤ N) (hcs : kc + 1 ≤ 601024 ∧ ns + 6 ≤ 7293034) {μ : Mem} (I : INV t μ) {Q : State → Prop} (tail : ∀ μ2, INV (t + 1) μ2 → Vj p l e room_1 s m #[Value.ref b] below meth c w 7 (kc + 1) (ns + 6) Q 2568 [some (.ref b), some (.ref (wad w 11 0)), some (.ref (wad w 12 0)), some (.ref (wad w 1400 0)), some (.int (nI (7 * t))), none, none] [] μ2) : Vj p l e room_1 s m #[Value.ref b] below meth c w 7 kc ns Q 1222 [some (.ref b), some (.ref (wad w 11 0)), some (.ref (wad w 12 0)), some (.ref (wad w 1400 0)), some (.int (nI (7 * t))), none, none] [] μ := by
  obtain ⟨-, -, -, -, -, -, -, hX, hbl, hbA, hN, hZ, hR⟩ := id C
  obtain ⟨μ2, h1, h2⟩ := step_21 (by omega) I (xs (7 * t + 1)) (xs (7 * t + 2)) (xs (7 * t + 3))
  exact law_21 (C.ctx ⟨by omega, by omega⟩) hX hbl hbA hi hN h1 (V_wide (Nat.le_succ _) (Nat.le_add_right _ 6) (tail μ2 h2))
set_option maxRecDepth 100000 in
theorem go_22 (hl0 : l.stackTraces = false) (C : LawC p s m meth c w b N xs) {t kc ns : Nat} (ht : t ≤ 512) (hi : 7 * t + 7 ≤ N) (hcs : kc + 1 ≤ 601024 ∧ ns + 6 ≤ 7293034) {μ : Mem} (I : INV t μ) {Q : State → Prop} (tail : ∀ μ2, INV (t + 1) μ2 → Vj p l e room_1 s m #[Value.ref b] below meth c w 7 (kc + 1) (ns + 6) Q 2568 [some (.ref b), some (.ref (wad w 11 0)), some (.ref (wad w 12 0)), some (.ref (wad w 1400 0)), some (.int (nI (7 * t))), none, none] [] μ2) : Vj p l e room_1 s m #[Value.ref b] below meth c w 7 kc ns Q 1271 [some (.ref b), some (.ref (wad w 11 0)), some (.ref (wad w 12 0)), some (.ref (wad w 1400 0)), some (.int (nI (7 * t))), none, none] [] μ := by
  obtain ⟨-, -, -, -, -, -, -, hX, hbl, hbA, hN, hZ, hR⟩ := id C
  obtain ⟨μ2, h1, h2⟩ := step_22 (by omega) I (xs (7 * t + 1)) (xs (7 * t + 2))
  exact law_22 (C.ctx ⟨by omega, by omega⟩) hX hbl hbA hi hN h1 (V_wide (Nat.le_succ _) (Nat.le_add_right _ 6) (tail μ2 h2))
set_option maxRecDepth 100000 in
theorem go_23 (hl0 : l.stackTraces = false) (C : LawC p s m meth c w b N xs) {t kc ns : Nat} (ht : t ≤ 512) (hi : 7 * t + 7 ≤ N) (hcs : kc + 1 ≤ 601024 ∧ ns + 6 ≤ 7293034) {μ : Mem} (I : INV t μ) {Q : State → Prop} (tail : ∀ μ2, INV (t + 1) μ2 → Vj p l e room_1 s m #[Value.ref b] below meth c w 7 (kc + 1) (ns + 6) Q 2568 [some (.ref b), some (.ref (wad w 11 0)), some (.ref (wad w 12 0)), some (.ref (wad w 1400 0)), some (.int (nI (7 * t))), none, none] [] μ2) : Vj p l e room_1 s m #[Value.ref b] below meth c w 7 kc ns Q 1308 [some (.ref b), some (.ref (wad w 11 0)), some (.ref (wad w 12 0)), some (.ref (wad w 1400 0)), some (.int (nI (7 * t))), none, none] [] μ := by
  obtain ⟨-, -, -, -, -, -, -, hX, hbl, hbA, hN, hZ, hR⟩ := id C
  obtain ⟨μ2, h1, h2⟩ := step_23 (by omega) I (xs (7 * t + 1))
  exact law_23 (C.ctx ⟨by omega, by omega⟩) hX hbl hbA hi hN h1 (V_wide (Nat.le_succ _) (Nat.le_add_right _ 6) (tail μ2 h2))
set_option maxRecDepth 100000 in
theorem go_24 (hl0 : l.stackTraces = false) (C : LawC p s m meth c w b N xs) {t kc ns : Nat} (ht : t ≤ 512) (hi : 7 * t + 7 ≤ N) (hcs : kc + 1 ≤ 601024 ∧ ns + 6 ≤ 7293034) {μ : Mem} (I : INV t μ) {Q : State → Prop} (tail : ∀ μ2, INV (t + 1) μ2 → Vj p l e room_1 s m #[Value.ref b] below meth c w 7 (kc + 1) (ns + 6) Q 2568 [some (.ref b), some (.ref (wad w 11 0)), some (.ref (wad w 12 0)), some (.ref (wad w 1400 0)), some (.int (nI (7 * t))), none, none] [] μ2) : Vj p l e room_1 s m #[Value.ref b] below meth c w 7 kc ns Q 1333 [some (.ref b), some (.ref (wad w 11 0)), some (.ref (wad w 12 0)), some (.ref (wad w 1400 0)), some (.int (nI (7 * t))), none, none] [] μ := by
  obtain ⟨-, -, -, -, -, -, -, hX, hbl, hbA, hN, hZ, hR⟩ := id C
  obtain ⟨μ2, h1, h2⟩ := step_24 (by omega) I (xs (7 * t + 1))
  exact law_24 (C.ctx ⟨by omega, by omega⟩) hX hbl hbA hi hN h1 (V_wide (Nat.le_succ _) (Nat.le_add_right _ 6) (tail μ2 h2))
set_option maxRecDepth 100000 in
theorem go_25 (hl0 : l.stackTraces = false) (C : LawC p s m meth c w b N xs) {t kc ns : Nat} (ht : t ≤ 512) (hi : 7 * t + 7 ≤ N) (hcs : kc + 1 ≤ 601024 ∧ ns + 6 ≤ 7293034) {μ : Mem} (I : INV t μ) {Q : State → Prop} (tail : ∀ μ2, INV (t + 1) μ2 → Vj p l e room_1 s m #[Value.ref b] below meth c w 7 (kc + 1) (ns + 6) Q 2568 [some (.ref b), some (.ref (wad w 11 0)), some (.ref (wad w 12 0)), some (.ref (wad w 1400 0)), some (.int (nI (7 * t))), none, none] [] μ2) : Vj p l e room_1 s m #[Value.ref b] below meth c w 7 kc ns Q 1359 [some (.ref b), some (.ref (wad w 11 0)), some (.ref (wad w 12 0)), some (.ref (wad w 1400 0)), some (.int (nI (7 * t))), none, none] [] μ := by
  obtain ⟨-, -, -, -, -, -, -, hX, hbl, hbA, hN, hZ, hR⟩ := id C
  obtain ⟨μ2, h1, h2⟩ := step_25 (by omega) I 
  exact law_25 (C.ctx ⟨by omega, by omega⟩) hX hbl hbA hi hN h1 (V_wide (Nat.le_succ _) (Nat.le_add_right _ 6) (tail μ2 h2))
set_option maxRecDepth 100000 in
theorem go_26 (hl0 : l.stackTraces = false) (C : LawC p s m meth c w b N xs) {t kc ns : Nat} (ht : t ≤ 512) (hi : 7 * t + 7 ≤ N) (hcs : kc + 1 ≤ 601024 ∧ ns + 6 ≤ 7293034) {μ : Mem} (I : INV t μ) {Q : State → Prop} (tail : ∀ μ2, INV (t + 1) μ2 → Vj p l e room_1 s m #[Value.ref b] below meth c w 7 (kc + 1) (ns + 6) Q 2568 [some (.ref b), some (.ref (wad w 11 0)), some (.ref (wad w 12 0)), some (.ref (wad w 1400 0)), some (.int (nI (7 * t))), none, none] [] μ2) : Vj p l e room_1 s m #[Value.ref b] below meth c w 7 kc ns Q 1372 [some (.ref b), some (.ref (wad w 11 0)), some (.ref (wad w 12 0)), some (.ref (wad w 1400 0)), some (.int (nI (7 * t))), none, none] [] μ := by
  obtain ⟨-, -, -, -, -, -, -, hX, hbl, hbA, hN, hZ, hR⟩ := id C
  obtain ⟨μ2, h1, h2⟩ := step_26 (by omega) I (xs (7 * t + 1))
  exact law_26 (C.ctx ⟨by omega, by omega⟩) hX hbl hbA hi hN h1 (V_wide (Nat.le_succ _) (Nat.le_add_right _ 6) (tail μ2 h2))
set_option maxRecDepth 100000 in
theorem go_27 (hl0 : l.stackTraces = false) (C : LawC p s m meth c w b N xs) {t kc ns : Nat} (ht : t ≤ 512) (hi : 7 * t + 7 ≤ N) (hcs : kc + 1 ≤ 601024 ∧ ns + 6 ≤ 7293034) {μ : Mem} (I : INV t μ) {Q : State → Prop} (tail : ∀ μ2, INV (t + 1) μ2 → Vj p l e room_1 s m #[Value.ref b] below meth c w 7 (kc + 1) (ns + 6) Q 2568 [some (.ref b), some (.ref (wad w 11 0)), some (.ref (wad w 12 0)), some (.ref (wad w 1400 0)), some (.int (nI (7 * t))), none, none] [] μ2) : Vj p l e room_1 s m #[Value.ref b] below meth c w 7 kc ns Q 1397 [some (.ref b), some (.ref (wad w 11 0)), some (.ref (wad w 12 0)), some (.ref (wad w 1400 0)), some (.int (nI (7 * t))), none, none] [] μ := by
  obtain ⟨-, -, -, -, -, -, -, hX, hbl, hbA, hN, hZ, hR⟩ := id C
  obtain ⟨μ2, h1, h2⟩ := step_27 (by omega) I (xs (7 * t + 1)) (xs (7 * t + 2))
  exact law_27 (C.ctx ⟨by omega, by omega⟩) hX hbl hbA hi hN h1 (V_wide (Nat.le_succ _) (Nat.le_add_right _ 6) (tail μ2 h2))
set_option maxRecDepth 100000 in
theorem go_28 (hl0 : l.stackTraces = false) (C : LawC p s m meth c w b N xs) {t kc ns : Nat} (ht : t ≤ 512) (hi : 7 * t + 7 ≤ N) (hcs : kc + 1 ≤ 601024 ∧ ns + 6 ≤ 7293034) {μ : Mem} (I : INV t μ) {Q : State → Prop} (tail : ∀ μ2, INV (t + 1) μ2 → Vj p l e room_1 s m #[Value.ref b] below meth c w 7 (kc + 1) (ns + 6) Q 2568 [some (.ref b), some (.ref (wad w 11 0)), some (.ref (wad w 12 0)), some (.ref (wad w 1400 0)), some (.int (nI (7 * t))), none, none] [] μ2) : Vj p l e room_1 s m #[Value.ref b] below meth c w 7 kc ns Q 1450 [some (.ref b), some (.ref (wad w 11 0)), some (.ref (wad w 12 0)), some (.ref (wad w 1400 0)), some (.int (nI (7 * t))), none, none] [] μ := by
  obtain ⟨-, -, -, -, -, -, -, hX, hbl, hbA, hN, hZ, hR⟩ := id C
  obtain ⟨μ2, h1, h2⟩ := step_28 (by omega) I (xs (7 * t + 1)) (xs (7 * t + 2)) (xs (7 * t + 3))
  exact law_28 (C.ctx ⟨by omega, by omega⟩) hX hbl hbA hi hN h1 (V_wide (Nat.le_succ _) (Nat.le_add_right _ 6) (tail μ2 h2))
set_option maxRecDepth 100000 in
theorem go_29 (hl0 : l.stackTraces = false) (C : LawC p s m meth c w b N xs) {t kc ns : Nat} (ht : t ≤ 512) (hi : 7 * t + 7 ≤ N) (hcs : kc + 1 ≤ 601024 ∧ ns + 6 ≤ 7293034) {μ : Mem} (I : INV t μ) {Q : State → Prop} (tail : ∀ μ2, INV (t + 1) μ2 → Vj p l e room_1 s m #[Value.ref b] below meth c w 7 (kc + 1) (ns + 6) Q 2568 [some (.ref b), some (.ref (wad w 11 0)), some (.ref (wad w 12 0)), some (.ref (wad w 1400 0)), some (.int (nI (7 * t))), none, none] [] μ2) : Vj p l e room_1 s m #[Value.ref b] below meth c w 7 kc ns Q 1499 [some (.ref b), some (.ref (wad w 11 0)), some (.ref (wad w 12 0)), some (.ref (wad w 1400 0)), some (.int (nI (7 * t))), none, none] [] μ := by
  obtain ⟨-, -, -, -, -, -, -, hX, hbl, hbA, hN, hZ, hR⟩ := id C
  obtain ⟨μ2, h1, h2⟩ := step_29 (by omega) I (xs (7 * t + 1)) (xs (7 * t + 2))
  exact law_29 (C.ctx ⟨by omega, by omega⟩) hX hbl hbA hi hN h1 (V_wide (Nat.le_succ _) (Nat.le_add_right _ 6) (tail μ2 h2))
set_option maxRecDepth 100000 in
theorem go_30 (hl0 : l.stackTraces = false) (C : LawC p s m meth c w b N xs) {t kc ns : Nat} (ht : t ≤ 512) (hi : 7 * t + 7 ≤ N) (hcs : kc + 1 ≤ 601024 ∧ ns + 6 ≤ 7293034) {μ : Mem} (I : INV t μ) {Q : State → Prop} (tail : ∀ μ2, INV (t + 1) μ2 → Vj p l e room_1 s m #[Value.ref b] below meth c w 7 (kc + 1) (ns + 6) Q 2568 [some (.ref b), some (.ref (wad w 11 0)), some (.ref (wad w 12 0)), some (.ref (wad w 1400 0)), some (.int (nI (7 * t))), none, none] [] μ2) : Vj p l e room_1 s m #[Value.ref b] below meth c w 7 kc ns Q 1536 [some (.ref b), some (.ref (wad w 11 0)), some (.ref (wad w 12 0)), some (.ref (wad w 1400 0)), some (.int (nI (7 * t))), none, none] [] μ := by
  obtain ⟨-, -, -, -, -, -, -, hX, hbl, hbA, hN, hZ, hR⟩ := id C
  obtain ⟨μ2, h1, h2⟩ := step_30 (by omega) I (xs (7 * t + 1)) (xs (7 * t + 2)) (xs (7 * t + 3)) (xs (7 * t + 4))
  exact law_30 (C.ctx ⟨by omega, by omega⟩) hX hbl hbA hi hN h1 (V_wide (Nat.le_succ _) (Nat.le_add_right _ 6) (tail μ2 h2))
set_option maxRecDepth 100000 in
theorem go_31 (hl0 : l.stackTraces = false) (C : LawC p s m meth c w b N xs) {t kc ns : Nat} (ht : t ≤ 512) (hi : 7 * t + 7 ≤ N) (hcs : kc + 1 ≤ 601024 ∧ ns + 6 ≤ 7293034) {μ : Mem} (I : INV t μ) {Q : State → Prop} (tail : ∀ μ2, INV (t + 1) μ2 → Vj p l e room_1 s m #[Value.ref b] below meth c w 7 (kc + 1) (ns + 6) Q 2568 [some (.ref b), some (.ref (wad w 11 0)), some (.ref (wad w 12 0)), some (.ref (wad w 1400 0)), some (.int (nI (7 * t))), none, none] [] μ2) : Vj p l e room_1 s m #[Value.ref b] below meth c w 7 kc ns Q 1597 [some (.ref b), some (.ref (wad w 11 0)), some (.ref (wad w 12 0)), some (.ref (wad w 1400 0)), some (.int (nI (7 * t))), none, none] [] μ := by
  obtain ⟨-, -, -, -, -, -, -, hX, hbl, hbA, hN, hZ, hR⟩ := id C
  obtain ⟨μ2, h1, h2⟩ := step_31 (by omega) I (xs (7 * t + 1)) (xs (7 * t + 2)) (xs (7 * t + 3)) (xs (7 * t + 4)) (xs (7 * t + 5))
  exact law_31 (C.ctx ⟨by omega, by omega⟩) hX hbl hbA hi hN h1 (V_wide (Nat.le_succ _) (Nat.le_add_right _ 6) (tail μ2 h2))
set_option maxRecDepth 100000 in
theorem go_32 (hl0 : l.stackTraces = false) (C : LawC p s m meth c w b N xs) {t kc ns : Nat} (ht : t ≤ 512) (hi : 7 * t + 7 ≤ N) (hcs : kc + 1 ≤ 601024 ∧ ns + 6 ≤ 7293034) {μ : Mem} (I : INV t μ) {Q : State → Prop} (tail : ∀ μ2, INV (t + 1) μ2 → Vj p l e room_1 s m #[Value.ref b] below meth c w 7 (kc + 1) (ns + 6) Q 2568 [some (.ref b), some (.ref (wad w 11 0)), some (.ref (wad w 12 0)), some (.ref (wad w 1400 0)), some (.int (nI (7 * t))), none, none] [] μ2) : Vj p l e room_1 s m #[Value.ref b] below meth c w 7 kc ns Q 1670 [some (.ref b), some (.ref (wad w 11 0)), some (.ref (wad w 12 0)), some (.ref (wad w 1400 0)), some (.int (nI (7 * t))), none, none] [] μ := by
  obtain ⟨-, -, -, -, -, -, -, hX, hbl, hbA, hN, hZ, hR⟩ := id C
  obtain ⟨μ2, h1, h2⟩ := step_32 (by omega) I (xs (7 * t + 1))
  exact law_32 (C.ctx ⟨by omega, by omega⟩) hX hbl hbA hi hN h1 (V_wide (Nat.le_succ _) (Nat.le_add_right _ 6) (tail μ2 h2))
set_option maxRecDepth 100000 in
theorem go_33 (hl0 : l.stackTraces = false) (C : LawC p s m meth c w b N xs) {t kc ns : Nat} (ht : t ≤ 512) (hi : 7 * t + 7 ≤ N) (hcs : kc + 1 ≤ 601024 ∧ ns + 6 ≤ 7293034) {μ : Mem} (I : INV t μ) {Q : State → Prop} (tail : ∀ μ2, INV (t + 1) μ2 → Vj p l e room_1 s m #[Value.ref b] below meth c w 7 (kc + 1) (ns + 6) Q 2568 [some (.ref b), some (.ref (wad w 11 0)), some (.ref (wad w 12 0)), some (.ref (wad w 1400 0)), some (.int (nI (7 * t))), none, none] [] μ2) : Vj p l e room_1 s m #[Value.ref b] below meth c w 7 kc ns Q 1695 [some (.ref b), some (.ref (wad w 11 0)), some (.ref (wad w 12 0)), some (.ref (wad w 1400 0)), some (.int (nI (7 * t))), none, none] [] μ := by
  obtain ⟨-, -, -, -, -, -, -, hX, hbl, hbA, hN, hZ, hR⟩ := id C
  obtain ⟨μ2, h1, h2⟩ := step_33 (by omega) I (xs (7 * t + 1)) (xs (7 * t + 2))
  exact law_33 (C.ctx ⟨by omega, by omega⟩) hX hbl hbA hi hN h1 (V_wide (Nat.le_succ _) (Nat.le_add_right _ 6) (tail μ2 h2))
set_option maxRecDepth 100000 in
theorem go_34 (hl0 : l.stackTraces = false) (C : LawC p s m meth c w b N xs) {t kc ns : Nat} (ht : t ≤ 512) (hi : 7 * t + 7 ≤ N) (hcs : kc + 1 ≤ 601024 ∧ ns + 6 ≤ 7293034) {μ : Mem} (I : INV t μ) {Q : State → Prop} (tail : ∀ μ2, INV (t + 1) μ2 → Vj p l e room_1 s m #[Value.ref b] below meth c w 7 (kc + 1) (ns + 6) Q 2568 [some (.ref b), some (.ref (wad w 11 0)), some (.ref (wad w 12 0)), some (.ref (wad w 1400 0)), some (.int (nI (7 * t))), none, none] [] μ2) : Vj p l e room_1 s m #[Value.ref b] below meth c w 7 kc ns Q 1732 [some (.ref b), some (.ref (wad w 11 0)), some (.ref (wad w 12 0)), some (.ref (wad w 1400 0)), some (.int (nI (7 * t))), none, none] [] μ := by
  obtain ⟨-, -, -, -, -, -, -, hX, hbl, hbA, hN, hZ, hR⟩ := id C
  obtain ⟨μ2, h1, h2⟩ := step_34 (by omega) I (xs (7 * t + 1))
  exact law_34 (C.ctx ⟨by omega, by omega⟩) hX hbl hbA hi hN h1 (V_wide (Nat.le_succ _) (Nat.le_add_right _ 6) (tail μ2 h2))
set_option maxRecDepth 100000 in
theorem go_35 (hl0 : l.stackTraces = false) (C : LawC p s m meth c w b N xs) {t kc ns : Nat} (ht : t ≤ 512) (hi : 7 * t + 7 ≤ N) (hcs : kc + 1 ≤ 601024 ∧ ns + 6 ≤ 7293034) {μ : Mem} (I : INV t μ) {Q : State → Prop} (tail : ∀ μ2, INV (t + 1) μ2 → Vj p l e room_1 s m #[Value.ref b] below meth c w 7 (kc + 1) (ns + 6) Q 2568 [some (.ref b), some (.ref (wad w 11 0)), some (.ref (wad w 12 0)), some (.ref (wad w 1400 0)), some (.int (nI (7 * t))), none, none] [] μ2) : Vj p l e room_1 s m #[Value.ref b] below meth c w 7 kc ns Q 1757 [some (.ref b), some (.ref (wad w 11 0)), some (.ref (wad w 12 0)), some (.ref (wad w 1400 0)), some (.int (nI (7 * t))), none, none] [] μ := by
  obtain ⟨-, -, -, -, -, -, -, hX, hbl, hbA, hN, hZ, hR⟩ := id C
  obtain ⟨μ2, h1, h2⟩ := step_35 (by omega) I 
  exact law_35 (C.ctx ⟨by omega, by omega⟩) hX hbl hbA hi hN h1 (V_wide (Nat.le_succ _) (Nat.le_add_right _ 6) (tail μ2 h2))
set_option maxRecDepth 100000 in
theorem go_36 (hl0 : l.stackTraces = false) (C : LawC p s m meth c w b N xs) {t kc ns : Nat} (ht : t ≤ 512) (hi : 7 * t + 7 ≤ N) (hcs : kc + 1 ≤ 601024 ∧ ns + 6 ≤ 7293034) {μ : Mem} (I : INV t μ) {Q : State → Prop} (tail : ∀ μ2, INV (t + 1) μ2 → Vj p l e room_1 s m #[Value.ref b] below meth c w 7 (kc + 1) (ns + 6) Q 2568 [some (.ref b), some (.ref (wad w 11 0)), some (.ref (wad w 12 0)), some (.ref (wad w 1400 0)), some (.int (nI (7 * t))), none, none] [] μ2) : Vj p l e room_1 s m #[Value.ref b] below meth c w 7 kc ns Q 1770 [some (.ref b), some (.ref (wad w 11 0)), some (.ref (wad w 12 0)), some (.ref (wad w 1400 0)), some (.int (nI (7 * t))), none, none] [] μ := by
  obtain ⟨-, -, -, -, -, -, -, hX, hbl, hbA, hN, hZ, hR⟩ := id C
  obtain ⟨μ2, h1, h2⟩ := step_36 (by omega) I (xs (7 * t + 1)) (xs (7 * t + 2))
  exact law_36 (C.ctx ⟨by omega, by omega⟩) hX hbl hbA hi hN h1 (V_wide (Nat.le_succ _) (Nat.le_add_right _ 6) (tail μ2 h2))
set_option maxRecDepth 100000 in
theorem go_37 (hl0 : l.stackTraces = false) (C : LawC p s m meth c w b N xs) {t kc ns : Nat} (ht : t ≤ 512) (hi : 7 * t + 7 ≤ N) (hcs : kc + 1 ≤ 601024 ∧ ns + 6 ≤ 7293034) {μ : Mem} (I : INV t μ) {Q : State → Prop} (tail : ∀ μ2, INV (t + 1) μ2 → Vj p l e room_1 s m #[Value.ref b] below meth c w 7 (kc + 1) (ns + 6) Q 2568 [some (.ref b), some (.ref (wad w 11 0)), some (.ref (wad w 12 0)), some (.ref (wad w 1400 0)), some (.int (nI (7 * t))), none, none] [] μ2) : Vj p l e room_1 s m #[Value.ref b] below meth c w 7 kc ns Q 1807 [some (.ref b), some (.ref (wad w 11 0)), some (.ref (wad w 12 0)), some (.ref (wad w 1400 0)), some (.int (nI (7 * t))), none, none] [] μ := by
  obtain ⟨-, -, -, -, -, -, -, hX, hbl, hbA, hN, hZ, hR⟩ := id C
  obtain ⟨μ2, h1, h2⟩ := step_37 (by omega) I (xs (7 * t + 1)) (xs (7 * t + 2)) (xs (7 * t + 3))
  exact law_37 (C.ctx ⟨by omega, by omega⟩) hX hbl hbA hi hN h1 (V_wide (Nat.le_succ _) (Nat.le_add_right _ 6) (tail μ2 h2))
set_option maxRecDepth 100000 in
theorem go_38 (hl0 : l.stackTraces = false) (C : LawC p s m meth c w b N xs) {t kc ns : Nat} (ht : t ≤ 512) (hi : 7 * t + 7 ≤ N) (hcs : kc + 1 ≤ 601024 ∧ ns + 6 ≤ 7293034) {μ : Mem} (I : INV t μ) {Q : State → Prop} (tail : ∀ μ2, INV (t + 1) μ2 → Vj p l e room_1 s m #[Value.ref b] below meth c w 7 (kc + 1) (ns + 6) Q 2568 [some (.ref b), some (.ref (wad w 11 0)), some (.ref (wad w 12 0)), some (.ref (wad w 1400 0)), some (.int (nI (7 * t))), none, none] [] μ2) : Vj p l e room_1 s m #[Value.ref b] below meth c w 7 kc ns Q 1856 [some (.ref b), some (.ref (wad w 11 0)), some (.ref (wad w 12 0)), some (.ref (wad w 1400 0)), some (.int (nI (7 * t))), none, none] [] μ := by
  obtain ⟨-, -, -, -, -, -, -, hX, hbl, hbA, hN, hZ, hR⟩ := id C
  obtain ⟨μ2, h1, h2⟩ := step_38 (by omega) I (xs (7 * t + 1))
  exact law_38 (C.ctx ⟨by omega, by omega⟩) hX hbl hbA hi hN h1 (V_wide (Nat.le_succ _) (Nat.le_add_right _ 6) (tail μ2 h2))
set_option maxRecDepth 100000 in
theorem go_39 (hl0 : l.stackTraces = false) (C : LawC p s m meth c w b N xs) {t kc ns : Nat} (ht : t ≤ 512) (hi : 7 * t + 7 ≤ N) (hcs : kc + 1 ≤ 601024 ∧ ns + 6 ≤ 7293034) {μ : Mem} (I : INV t μ) {Q : State → Prop} (tail : ∀ μ2, INV (t + 1) μ2 → Vj p l e room_1 s m #[Value.ref b] below meth c w 7 (kc + 1) (ns + 6) Q 2568 [some (.ref b), some (.ref (wad w 11 0)), some (.ref (wad w 12 0)), some (.ref (wad w 1400 0)), some (.int (nI (7 * t))), none, none] [] μ2) : Vj p l e room_1 s m #[Value.ref b] below meth c w 7 kc ns Q 1881 [some (.ref b), some (.ref (wad w 11 0)), some (.ref (wad w 12 0)), some (.ref (wad w 1400 0)), some (.int (nI (7 * t))), none, none] [] μ := by
  obtain ⟨-, -, -, -, -, -, -, hX, hbl, hbA, hN, hZ, hR⟩ := id C
  obtain ⟨μ2, h1, h2⟩ := step_39 (by omega) I (xs (7 * t + 1)) (xs (7 * t + 2)) (xs (7 * t + 3))
  exact law_39 (C.ctx ⟨by omega, by omega⟩) hX hbl hbA hi hN h1 (V_wide (Nat.le_succ _) (Nat.le_add_right _ 6) (tail μ2 h2))
set_option maxRecDepth 100000 in
theorem go_40 (hl0 : l.stackTraces = false) (C : LawC p s m meth c w b N xs) {t kc ns : Nat} (ht : t ≤ 512) (hi : 7 * t + 7 ≤ N) (hcs : kc + 1 ≤ 601024 ∧ ns + 6 ≤ 7293034) {μ : Mem} (I : INV t μ) {Q : State → Prop} (tail : ∀ μ2, INV (t + 1) μ2 → Vj p l e room_1 s m #[Value.ref b] below meth c w 7 (kc + 1) (ns + 6) Q 2568 [some (.ref b), some (.ref (wad w 11 0)), some (.ref (wad w 12 0)), some (.ref (wad w 1400 0)), some (.int (nI (7 * t))), none, none] [] μ2) : Vj p l e room_1 s m #[Value.ref b] below meth c w 7 kc ns Q 1930 [some (.ref b), some (.ref (wad w 11 0)), some (.ref (wad w 12 0)), some (.ref (wad w 1400 0)), some (.int (nI (7 * t))), none, none] [] μ := by
  obtain ⟨-, -, -, -, -, -, -, hX, hbl, hbA, hN, hZ, hR⟩ := id C
  obtain ⟨μ2, h1, h2⟩ := step_40 (by omega) I (xs (7 * t + 1)) (xs (7 * t + 2)) (xs (7 * t + 3)) (xs (7 * t + 4))
  exact law_40 (C.ctx ⟨by omega, by omega⟩) hX hbl hbA hi hN h1 (V_wide (Nat.le_succ _) (Nat.le_add_right _ 6) (tail μ2 h2))
set_option maxRecDepth 100000 in
theorem go_41 (hl0 : l.stackTraces = false) (C : LawC p s m meth c w b N xs) {t kc ns : Nat} (ht : t ≤ 512) (hi : 7 * t + 7 ≤ N) (hcs : kc + 1 ≤ 601024 ∧ ns + 6 ≤ 7293034) {μ : Mem} (I : INV t μ) {Q : State → Prop} (tail : ∀ μ2, INV (t + 1) μ2 → Vj p l e room_1 s m #[Value.ref b] below meth c w 7 (kc + 1) (ns + 6) Q 2568 [some (.ref b), some (.ref (wad w 11 0)), some (.ref (wad w 12 0)), some (.ref (wad w 1400 0)), some (.int (nI (7 * t))), none, none] [] μ2) : Vj p l e room_1 s m #[Value.ref b] below meth c w 7 kc ns Q 1991 [some (.ref b), some (.ref (wad w 11 0)), some (.ref (wad w 12 0)), some (.ref (wad w 1400 0)), some (.int (nI (7 * t))), none, none] [] μ := by
  obtain ⟨-, -, -, -, -, -, -, hX, hbl, hbA, hN, hZ, hR⟩ := id C
  obtain ⟨μ2, h1, h2⟩ := step_41 (by omega) I (xs (7 * t + 1)) (xs (7 * t + 2)) (xs (7 * t + 3)) (xs (7 * t + 4))
  exact law_41 (C.ctx ⟨by omega, by omega⟩) hX hbl hbA hi hN h1 (V_wide (Nat.le_succ _) (Nat.le_add_right _ 6) (tail μ2 h2))
set_option maxRecDepth 100000 in
theorem go_42 (hl0 : l.stackTraces = false) (C : LawC p s m meth c w b N xs) {t kc ns : Nat} (ht : t ≤ 512) (hi : 7 * t + 7 ≤ N) (hcs : kc + 1 ≤ 601024 ∧ ns + 6 ≤ 7293034) {μ : Mem} (I : INV t μ) {Q : State → Prop} (tail : ∀ μ2, INV (t + 1) μ2 → Vj p l e room_1 s m #[Value.ref b] below meth c w 7 (kc + 1) (ns + 6) Q 2568 [some (.ref b), some (.ref (wad w 11 0)), some (.ref (wad w 12 0)), some (.ref (wad w 1400 0)), some (.int (nI (7 * t))), none, none] [] μ2) : Vj p l e room_1 s m #[Value.ref b] below meth c w 7 kc ns Q 2052 [some (.ref b), some (.ref (wad w 11 0)), some (.ref (wad w 12 0)), some (.ref (wad w 1400 0)), some (.int (nI (7 * t))), none, none] [] μ := by
  obtain ⟨-, -, -, -, -, -, -, hX, hbl, hbA, hN, hZ, hR⟩ := id C
  obtain ⟨μ2, h1, h2⟩ := step_42 (by omega) I (xs (7 * t + 1)) (xs (7 * t + 2))
  exact law_42 (C.ctx ⟨by omega, by omega⟩) hX hbl hbA hi hN h1 (V_wide (Nat.le_succ _) (Nat.le_add_right _ 6) (tail μ2 h2))
set_option maxRecDepth 100000 in
theorem go_43 (hl0 : l.stackTraces = false) (C : LawC p s m meth c w b N xs) {t kc ns : Nat} (ht : t ≤ 512) (hi : 7 * t + 7 ≤ N) (hcs : kc + 1 ≤ 601024 ∧ ns + 6 ≤ 7293034) {μ : Mem} (I : INV t μ) {Q : State → Prop} (tail : ∀ μ2, INV (t + 1) μ2 → Vj p l e room_1 s m #[Value.ref b] below meth c w 7 (kc + 1) (ns + 6) Q 2568 [some (.ref b), some (.ref (wad w 11 0)), some (.ref (wad w 12 0)), some (.ref (wad w 1400 0)), some (.int (nI (7 * t))), none, none] [] μ2) : Vj p l e room_1 s m #[Value.ref b] below meth c w 7 kc ns Q 2089 [some (.ref b), some (.ref (wad w 11 0)), some (.ref (wad w 12 0)), some (.ref (wad w 1400 0)), some (.int (nI (7 * t))), none, none] [] μ := by
  obtain ⟨-, -, -, -, -, -, -, hX, hbl, hbA, hN, hZ, hR⟩ := id C
  obtain ⟨μ2, h1, h2⟩ := step_43 (by omega) I (xs (7 * t + 1))
  exact law_43 (C.ctx ⟨by omega, by omega⟩) hX hbl hbA hi hN h1 (V_wide (Nat.le_succ _) (Nat.le_add_right _ 6) (tail μ2 h2))
set_option maxRecDepth 100000 in
theorem go_44 (hl0 : l.stackTraces = false) (C : LawC p s m meth c w b N xs) {t kc ns : Nat} (ht : t ≤ 512) (hi : 7 * t + 7 ≤ N) (hcs : kc + 1 ≤ 601024 ∧ ns + 6 ≤ 7293034) {μ : Mem} (I : INV t μ) {Q : State → Prop} (tail : ∀ μ2, INV (t + 1) μ2 → Vj p l e room_1 s m #[Value.ref b] below meth c w 7 (kc + 1) (ns + 6) Q 2568 [some (.ref b), some (.ref (wad w 11 0)), some (.ref (wad w 12 0)), some (.ref (wad w 1400 0)), some (.int (nI (7 * t))), none, none] [] μ2) : Vj p l e room_1 s m #[Value.ref b] below meth c w 7 kc ns Q 2114 [some (.ref b), some (.ref (wad w 11 0)), some (.ref (wad w 12 0)), some (.ref (wad w 1400 0)), some (.int (nI (7 * t))), none, none] [] μ := by
  obtain ⟨-, -, -, -, -, -, -, hX, hbl, hbA, hN, hZ, hR⟩ := id C
  obtain ⟨μ2, h1, h2⟩ := step_44 (by omega) I (xs (7 * t + 1)) (xs (7 * t + 2))
  exact law_44 (C.ctx ⟨by omega, by omega⟩) hX hbl hbA hi hN h1 (V_wide (Nat.le_succ _) (Nat.le_add_right _ 6) (tail μ2 h2))
set_option maxRecDepth 100000 in
theorem go_45 (hl0 : l.stackTraces = false) (C : LawC p s m meth c w b N xs) {t kc ns : Nat} (ht : t ≤ 512) (hi : 7 * t + 7 ≤ N) (hcs : kc + 1 ≤ 601024 ∧ ns + 6 ≤ 7293034) {μ : Mem} (I : INV t μ) {Q : State → Prop} (tail : ∀ μ2, INV (t + 1) μ2 → Vj p l e room_1 s m #[Value.ref b] below meth c w 7 (kc + 1) (ns + 6) Q 2568 [some (.ref b), some (.ref (wad w 11 0)), some (.ref (wad w 12 0)), some (.ref (wad w 1400 0)), some (.int (nI (7 * t))), none, none] [] μ2) : Vj p l e room_1 s m #[Value.ref b] below meth c w 7 kc ns Q 2151 [some (.ref b), some (.ref (wad w 11 0)), some (.ref (wad w 12 0)), some (.ref (wad w 1400 0)), some (.int (nI (7 * t))), none, none] [] μ := by
  obtain ⟨-, -, -, -, -, -, -, hX, hbl, hbA, hN, hZ, hR⟩ := id C
  obtain ⟨μ2, h1, h2⟩ := step_45 (by omega) I (xs (7 * t + 1)) (xs (7 * t + 2))
  exact law_45 (C.ctx ⟨by omega, by omega⟩) hX hbl hbA hi hN h1 (V_wide (Nat.le_succ _) (Nat.le_add_right _ 6) (tail μ2 h2))
set_option maxRecDepth 100000 in
theorem go_46 (hl0 : l.stackTraces = false) (C : LawC p s m meth c w b N xs) {t kc ns : Nat} (ht : t ≤ 512) (hi : 7 * t + 7 ≤ N) (hcs : kc + 1 ≤ 601024 ∧ ns + 6 ≤ 7293034) {μ : Mem} (I : INV t μ) {Q : State → Prop} (tail : ∀ μ2, INV (t + 1) μ2 → Vj p l e room_1 s m #[Value.ref b] below meth c w 7 (kc + 1) (ns + 6) Q 2568 [some (.ref b), some (.ref (wad w 11 0)), some (.ref (wad w 12 0)), some (.ref (wad w 1400 0)), some (.int (nI (7 * t))), none, none] [] μ2) : Vj p l e room_1 s m #[Value.ref b] below meth c w 7 kc ns Q 2188 [some (.ref b), some (.ref (wad w 11 0)), some (.ref (wad w 12 0)), some (.ref (wad w 1400 0)), some (.int (nI (7 * t))), none, none] [] μ := by
  obtain ⟨-, -, -, -, -, -, -, hX, hbl, hbA, hN, hZ, hR⟩ := id C
  obtain ⟨μ2, h1, h2⟩ := step_46 (by omega) I (xs (7 * t + 1))
  exact law_46 (C.ctx ⟨by omega, by omega⟩) hX hbl hbA hi hN h1 (V_wide (Nat.le_succ _) (Nat.le_add_right _ 6) (tail μ2 h2))
set_option maxRecDepth 100000 in
theorem go_47 (hl0 : l.stackTraces = false) (C : LawC p s m meth c w b N xs) {t kc ns : Nat} (ht : t ≤ 512) (hi : 7 * t + 7 ≤ N) (hcs : kc + 1 ≤ 601024 ∧ ns + 6 ≤ 7293034) {μ : Mem} (I : INV t μ) {Q : State → Prop} (tail : ∀ μ2, INV (t + 1) μ2 → Vj p l e room_1 s m #[Value.ref b] below meth c w 7 (kc + 1) (ns + 6) Q 2568 [some (.ref b), some (.ref (wad w 11 0)), some (.ref (wad w 12 0)), some (.ref (wad w 1400 0)), some (.int (nI (7 * t))), none, none] [] μ2) : Vj p l e room_1 s m #[Value.ref b] below meth c w 7 kc ns Q 2213 [some (.ref b), some (.ref (wad w 11 0)), some (.ref (wad w 12 0)), some (.ref (wad w 1400 0)), some (.int (nI (7 * t))), none, none] [] μ := by
  obtain ⟨-, -, -, -, -, -, -, hX, hbl, hbA, hN, hZ, hR⟩ := id C
  obtain ⟨μ2, h1, h2⟩ := step_47 (by omega) I (xs (7 * t + 1)) (xs (7 * t + 2)) (xs (7 * t + 3)) (xs (7 * t + 4))
  exact law_47 (C.ctx ⟨by omega, by omega⟩) hX hbl hbA hi hN h1 (V_wide (Nat.le_succ _) (Nat.le_add_right _ 6) (tail μ2 h2))
set_option maxRecDepth 100000 in
theorem go_48 (hl0 : l.stackTraces = false) (C : LawC p s m meth c w b N xs) {t kc ns : Nat} (ht : t ≤ 512) (hi : 7 * t + 7 ≤ N) (hcs : kc + 1 ≤ 601024 ∧ ns + 6 ≤ 7293034) {μ : Mem} (I : INV t μ) {Q : State → Prop} (tail : ∀ μ2, INV (t + 1) μ2 → Vj p l e room_1 s m #[Value.ref b] below meth c w 7 (kc + 1) (ns + 6) Q 2568 [some (.ref b), some (.ref (wad w 11 0)), some (.ref (wad w 12 0)), some (.ref (wad w 1400 0)), some (.int (nI (7 * t))), none, none] [] μ2) : Vj p l e room_1 s m #[Value.ref b] below meth c w 7 kc ns Q 2274 [some (.ref b), some (.ref (wad w 11 0)), some (.ref (wad w 12 0)), some (.ref (wad w 1400 0)), some (.int (nI (7 * t))), none, none] [] μ := by
  obtain ⟨-, -, -, -, -, -, -, hX, hbl, hbA, hN, hZ, hR⟩ := id C
  obtain ⟨μ2, h1, h2⟩ := step_48 (by omega) I (xs (7 * t + 1)) (xs (7 * t + 2)) (xs (7 * t + 3))
  exact law_48 (C.ctx ⟨by omega, by omega⟩) hX hbl hbA hi hN h1 (V_wide (Nat.le_succ _) (Nat.le_add_right _ 6) (tail μ2 h2))
set_option maxRecDepth 100000 in
theorem go_49 (hl0 : l.stackTraces = false) (C : LawC p s m meth c w b N xs) {t kc ns : Nat} (ht : t ≤ 512) (hi : 7 * t + 7 ≤ N) (hcs : kc + 1 ≤ 601024 ∧ ns + 6 ≤ 7293034) {μ : Mem} (I : INV t μ) {Q : State → Prop} (tail : ∀ μ2, INV (t + 1) μ2 → Vj p l e room_1 s m #[Value.ref b] below meth c w 7 (kc + 1) (ns + 6) Q 2568 [some (.ref b), some (.ref (wad w 11 0)), some (.ref (wad w 12 0)), some (.ref (wad w 1400 0)), some (.int (nI (7 * t))), none, none] [] μ2) : Vj p l e room_1 s m #[Value.ref b] below meth c w 7 kc ns Q 2323 [some (.ref b), some (.ref (wad w 11 0)), some (.ref (wad w 12 0)), some (.ref (wad w 1400 0)), some (.int (nI (7 * t))), none, none] [] μ := by
  obtain ⟨-, -, -, -, -, -, -, hX, hbl, hbA, hN, hZ, hR⟩ := id C
  obtain ⟨μ2, h1, h2⟩ := step_49 (by omega) I (xs (7 * t + 1)) (xs (7 * t + 2)) (xs (7 * t + 3)) (xs (7 * t + 4))
  exact law_49 (C.ctx ⟨by omega, by omega⟩) hX hbl hbA hi hN h1 (V_wide (Nat.le_succ _) (Nat.le_add_right _ 6) (tail μ2 h2))
set_option maxRecDepth 100000 in
theorem go_50 (hl0 : l.stackTraces = false) (C : LawC p s m meth c w b N xs) {t kc ns : Nat} (ht : t ≤ 512) (hi : 7 * t + 7 ≤ N) (hcs : kc + 1 ≤ 601024 ∧ ns + 6 ≤ 7293034) {μ : Mem} (I : INV t μ) {Q : State → Prop} (tail : ∀ μ2, INV (t + 1) μ2 → Vj p l e room_1 s m #[Value.ref b] below meth c w 7 (kc + 1) (ns + 6) Q 2568 [some (.ref b), some (.ref (wad w 11 0)), some (.ref (wad w 12 0)), some (.ref (wad w 1400 0)), some (.int (nI (7 * t))), none, none] [] μ2) : Vj p l e room_1 s m #[Value.ref b] below meth c w 7 kc ns Q 2384 [some (.ref b), some (.ref (wad w 11 0)), some (.ref (wad w 12 0)), some (.ref (wad w 1400 0)), some (.int (nI (7 * t))), none, none] [] μ := by
  obtain ⟨-, -, -, -, -, -, -, hX, hbl, hbA, hN, hZ, hR⟩ := id C
  obtain ⟨μ2, h1, h2⟩ := step_50 (by omega) I (xs (7 * t + 1)) (xs (7 * t + 2)) (xs (7 * t + 3)) (xs (7 * t + 4))
  exact law_50 (C.ctx ⟨by omega, by omega⟩) hX hbl hbA hi hN h1 (V_wide (Nat.le_succ _) (Nat.le_add_right _ 6) (tail μ2 h2))
set_option maxRecDepth 100000 in
theorem go_51 (hl0 : l.stackTraces = false) (C : LawC p s m meth c w b N xs) {t kc ns : Nat} (ht : t ≤ 512) (hi : 7 * t + 7 ≤ N) (hcs : kc + 1 ≤ 601024 ∧ ns + 6 ≤ 7293034) {μ : Mem} (I : INV t μ) {Q : State → Prop} (tail : ∀ μ2, INV (t + 1) μ2 → Vj p l e room_1 s m #[Value.ref b] below meth c w 7 (kc + 1) (ns + 6) Q 2568 [some (.ref b), some (.ref (wad w 11 0)), some (.ref (wad w 12 0)), some (.ref (wad w 1400 0)), some (.int (nI (7 * t))), none, none] [] μ2) : Vj p l e room_1 s m #[Value.ref b] below meth c w 7 kc ns Q 2445 [some (.ref b), some (.ref (wad w 11 0)), some (.ref (wad w 12 0)), some (.ref (wad w 1400 0)), some (.int (nI (7 * t))), none, none] [] μ := by
  obtain ⟨-, -, -, -, -, -, -, hX, hbl, hbA, hN, hZ, hR⟩ := id C
  obtain ⟨μ2, h1, h2⟩ := step_51 (by omega) I (xs (7 * t + 1)) (xs (7 * t + 2)) (xs (7 * t + 3))
  exact law_51 (C.ctx ⟨by omega, by omega⟩) hX hbl hbA hi hN h1 (V_wide (Nat.le_succ _) (Nat.le_add_right _ 6) (tail μ2 h2))
set_option maxRecDepth 100000 in
theorem go_52 (hl0 : l.stackTraces = false) (C : LawC p s m meth c w b N xs) {t kc ns : Nat} (ht : t ≤ 512) (hi : 7 * t + 7 ≤ N) (hcs : kc + 1 ≤ 601024 ∧ ns + 6 ≤ 7293034) {μ : Mem} (I : INV t μ) {Q : State → Prop} (tail : ∀ μ2, INV (t + 1) μ2 → Vj p l e room_1 s m #[Value.ref b] below meth c w 7 (kc + 1) (ns + 6) Q 2568 [some (.ref b), some (.ref (wad w 11 0)), some (.ref (wad w 12 0)), some (.ref (wad w 1400 0)), some (.int (nI (7 * t))), none, none] [] μ2) : Vj p l e room_1 s m #[Value.ref b] below meth c w 7 kc ns Q 2494 [some (.ref b), some (.ref (wad w 11 0)), some (.ref (wad w 12 0)), some (.ref (wad w 1400 0)), some (.int (nI (7 * t))), none, none] [] μ := by
  obtain ⟨-, -, -, -, -, -, -, hX, hbl, hbA, hN, hZ, hR⟩ := id C
  obtain ⟨μ2, h1, h2⟩ := step_52 (by omega) I (xs (7 * t + 1)) (xs (7 * t + 2)) (xs (7 * t + 3))
  exact law_52 (C.ctx ⟨by omega, by omega⟩) hX hbl hbA hi hN h1 (V_wide (Nat.le_succ _) (Nat.le_add_right _ 6) (tail μ2 h2))
set_option maxRecDepth 100000 in
theorem go_53 (hl0 : l.stackTraces = false) (C : LawC p s m meth c w b N xs) {t kc ns : Nat} (ht : t ≤ 512) (hi : 7 * t + 7 ≤ N) (hcs : kc + 1 ≤ 601024 ∧ ns + 6 ≤ 7293034) {μ : Mem} (I : INV t μ) {Q : State → Prop} (tail : ∀ μ2, INV (t + 1) μ2 → Vj p l e room_1 s m #[Value.ref b] below meth c w 7 (kc + 1) (ns + 6) Q 2568 [some (.ref b), some (.ref (wad w 11 0)), some (.ref (wad w 12 0)), some (.ref (wad w 1400 0)), some (.int (nI (7 * t))), none, none] [] μ2) : Vj p l e room_1 s m #[Value.ref b] below meth c w 7 kc ns Q 2543 [some (.ref b), some (.ref (wad w 11 0)), some (.ref (wad w 12 0)), some (.ref (wad w 1400 0)), some (.int (nI (7 * t))), none, none] [] μ := by
  obtain ⟨-, -, -, -, -, -, -, hX, hbl, hbA, hN, hZ, hR⟩ := id C
  obtain ⟨μ2, h1, h2⟩ := step_53 (by omega) I (xs (7 * t + 1))
  exact law_53 (C.ctx ⟨by omega, by omega⟩) hX hbl hbA hi hN h1 (V_wide (Nat.le_succ _) (Nat.le_add_right _ 6) (tail μ2 h2))
set_option maxRecDepth 100000 in
set_option maxHeartbeats 4000000 in
theorem law_turn (hl0 : l.stackTraces = false) (C : LawC p s m meth c w b N xs) {t kc ns : Nat} (ht : t ≤ 512) (hi : 7 * t + 7 ≤ N) (hcs : kc + 1 ≤ 601024 ∧ ns + 6 ≤ 7293034) {μ : Mem} (I : INV t μ) {Q : State → Prop} (tail : ∀ μ2, INV (t + 1) μ2 → Vj p l e room_1 s m #[Value.ref b] below meth c w 7 (kc + 1) (ns + 6) Q 2568 [some (.ref b), some (.ref (wad w 11 0)), some (.ref (wad w 12 0)), some (.ref (wad w 1400 0)), some (.int (nI (7 * t))), none, none] [] μ2) : Vj p l e room_1 s m #[Value.ref b] below meth c w 7 kc ns Q 33 [some (.ref b), some (.ref (wad w 11 0)), some (.ref (wad w 12 0)), some (.ref (wad w 1400 0)), some (.int (nI (7 * t))), none, none] [] μ := by
  obtain ⟨-, -, -, -, -, -, -, hX, hbl, hbA, hN, hZ, hR⟩ := id C
  have G := C.ctx (kc := kc) (ns := ns) ⟨by omega, by omega⟩
  refine V_aload_n (i := 0) G eL_law_33 rfl rfl ?_
  refine V_iload G eL_law_34 rfl ?_
  refine V_scr (i := 7 * t) G hX hbl hbA rfl (by omega) hN eL_law_36 ?_
  refine V_bipush (n := 63) (v := nI 63) G eL_law_37 rfl ?_
  refine V_iand G eL_law_39 ?_
  rcases sw54 (xs (7 * t) &&& nI 63) with ⟨n, hn, e⟩ | hd
  · match n, hn, e with
    | 0, _, e => exact V_tswIn (v := nI 0) (off := 232) (tgt := 272) G eL_law_40 e (by decide) (by decide) rfl rfl (go_0 hl0 C ht hi hcs I tail)
    | 1, _, e => exact V_tswIn (v := nI 1) (off := 305) (tgt := 345) G eL_law_40 e (by decide) (by decide) rfl rfl (go_1 hl0 C ht hi hcs I tail)
    | 2, _, e => exact V_tswIn (v := nI 2) (off := 330) (tgt := 370) G eL_law_40 e (by decide) (by decide) rfl rfl (go_2 hl0 C ht hi hcs I tail)
    | 3, _, e => exact V_tswIn (v := nI 3) (off := 355) (tgt := 395) G eL_law_40 e (by decide) (by decide) rfl rfl (go_3 hl0 C ht hi hcs I tail)
    | 4, _, e => exact V_tswIn (v := nI 4) (off := 380) (tgt := 420) G eL_law_40 e (by decide) (by decide) rfl rfl (go_4 hl0 C ht hi hcs I tail)
    | 5, _, e => exact V_tswIn (v := nI 5) (off := 483) (tgt := 523) G eL_law_40 e (by decide) (by decide) rfl rfl (go_5 hl0 C ht hi hcs I tail)
    | 6, _, e => exact V_tswIn (v := nI 6) (off := 532) (tgt := 572) G eL_law_40 e (by decide) (by decide) rfl rfl (go_6 hl0 C ht hi hcs I tail)
    | 7, _, e => exact V_tswIn (v := nI 7) (off := 569) (tgt := 609) G eL_law_40 e (by decide) (by decide) rfl rfl (go_7 hl0 C ht hi hcs I tail)
    | 8, _, e => exact V_tswIn (v := nI 8) (off := 637) (tgt := 677) G eL_law_40 e (by decide) (by decide) rfl rfl (go_8 hl0 C ht hi hcs I tail)
    | 9, _, e => exact V_tswIn (v := nI 9) (off := 662) (tgt := 702) G eL_law_40 e (by decide) (by decide) rfl rfl (go_9 hl0 C ht hi hcs I tail)
    | 10, _, e => exact V_tswIn (v := nI 10) (off := 723) (tgt := 763) G eL_law_40 e (by decide) (by decide) rfl rfl (go_10 hl0 C ht hi hcs I tail)
    | 11, _, e => exact V_tswIn (v := nI 11) (off := 748) (tgt := 788) G eL_law_40 e (by decide) (by decide) rfl rfl (go_11 hl0 C ht hi hcs I tail)
    | 12, _, e => exact V_tswIn (v := nI 12) (off := 797) (tgt := 837) G eL_law_40 e (by decide) (by decide) rfl rfl (go_12 hl0 C ht hi hcs I tail)
    | 13, _, e => exact V_tswIn (v := nI 13) (off := 846) (tgt := 886) G eL_law_40 e (by decide) (by decide) rfl rfl (go_13 hl0 C ht hi hcs I tail)
    | 14, _, e => exact V_tswIn (v := nI 14) (off := 871) (tgt := 911) G eL_law_40 e (by decide) (by decide) rfl rfl (go_14 hl0 C ht hi hcs I tail)
    | 15, _, e => exact V_tswIn (v := nI 15) (off := 920) (tgt := 960) G eL_law_40 e (by decide) (by decide) rfl rfl (go_15 hl0 C ht hi hcs I tail)
    | 16, _, e => exact V_tswIn (v := nI 16) (off := 969) (tgt := 1009) G eL_law_40 e (by decide) (by decide) rfl rfl (go_16 hl0 C ht hi hcs I tail)
    | 17, _, e => exact V_tswIn (v := nI 17) (off := 994) (tgt := 1034) G eL_law_40 e (by decide) (by decide) rfl rfl (go_17 hl0 C ht hi hcs I tail)
    | 18, _, e => exact V_tswIn (v := nI 18) (off := 1059) (tgt := 1099) G eL_law_40 e (by decide) (by decide) rfl rfl (go_18 hl0 C ht hi hcs I tail)
    | 19, _, e => exact V_tswIn (v := nI 19) (off := 1108) (tgt := 1148) G eL_law_40 e (by decide) (by decide) rfl rfl (go_19 hl0 C ht hi hcs I tail)
    | 20, _, e => exact V_tswIn (v := nI 20) (off := 1157) (tgt := 1197) G eL_law_40 e (by decide) (by decide) rfl rfl (go_20 hl0 C ht hi hcs I tail)
    | 21, _, e => exact V_tswIn (v := nI 21) (off := 1182) (tgt := 1222) G eL_law_40 e (by decide) (by decide) rfl rfl (go_21 hl0 C ht hi hcs I tail)
    | 22, _, e => exact V_tswIn (v := nI 22) (off := 1231) (tgt := 1271) G eL_law_40 e (by decide) (by decide) rfl rfl (go_22 hl0 C ht hi hcs I tail)
    | 23, _, e => exact V_tswIn (v := nI 23) (off := 1268) (tgt := 1308) G eL_law_40 e (by decide) (by decide) rfl rfl (go_23 hl0 C ht hi hcs I tail)
    | 24, _, e => exact V_tswIn (v := nI 24) (off := 1293) (tgt := 1333) G eL_law_40 e (by decide) (by decide) rfl rfl (go_24 hl0 C ht hi hcs I tail)
    | 25, _, e => exact V_tswIn (v := nI 25) (off := 1319) (tgt := 1359) G eL_law_40 e (by decide) (by decide) rfl rfl (go_25 hl0 C ht hi hcs I tail)
    | 26, _, e => exact V_tswIn (v := nI 26) (off := 1332) (tgt := 1372) G eL_law_40 e (by decide) (by decide) rfl rfl (go_26 hl0 C ht hi hcs I tail)
    | 27, _, e => exact V_tswIn (v := nI 27) (off := 1357) (tgt := 1397) G eL_law_40 e (by decide) (by decide) rfl rfl (go_27 hl0 C ht hi hcs I tail)
    | 28, _, e => exact V_tswIn (v := nI 28) (off := 1410) (tgt := 1450) G eL_law_40 e (by decide) (by decide) rfl rfl (go_28 hl0 C ht hi hcs I tail)
    | 29, _, e => exact V_tswIn (v := nI 29) (off := 1459) (tgt := 1499) G eL_law_40 e (by decide) (by decide) rfl rfl (go_29 hl0 C ht hi hcs I tail)
    | 30, _, e => exact V_tswIn (v := nI 30) (off := 1496) (tgt := 1536) G eL_law_40 e (by decide) (by decide) rfl rfl (go_30 hl0 C ht hi hcs I tail)
    | 31, _, e => exact V_tswIn (v := nI 31) (off := 1557) (tgt := 1597) G eL_law_40 e (by decide) (by decide) rfl rfl (go_31 hl0 C ht hi hcs I tail)
    | 32, _, e => exact V_tswIn (v := nI 32) (off := 1630) (tgt := 1670) G eL_law_40 e (by decide) (by decide) rfl rfl (go_32 hl0 C ht hi hcs I tail)
    | 33, _, e => exact V_tswIn (v := nI 33) (off := 1655) (tgt := 1695) G eL_law_40 e (by decide) (by decide) rfl rfl (go_33 hl0 C ht hi hcs I tail)
    | 34, _, e => exact V_tswIn (v := nI 34) (off := 1692) (tgt := 1732) G eL_law_40 e (by decide) (by decide) rfl rfl (go_34 hl0 C ht hi hcs I tail)
    | 35, _, e => exact V_tswIn (v := nI 35) (off := 1717) (tgt := 1757) G eL_law_40 e (by decide) (by decide) rfl rfl (go_35 hl0 C ht hi hcs I tail)
    | 36, _, e => exact V_tswIn (v := nI 36) (off := 1730) (tgt := 1770) G eL_law_40 e (by decide) (by decide) rfl rfl (go_36 hl0 C ht hi hcs I tail)
    | 37, _, e => exact V_tswIn (v := nI 37) (off := 1767) (tgt := 1807) G eL_law_40 e (by decide) (by decide) rfl rfl (go_37 hl0 C ht hi hcs I tail)
    | 38, _, e => exact V_tswIn (v := nI 38) (off := 1816) (tgt := 1856) G eL_law_40 e (by decide) (by decide) rfl rfl (go_38 hl0 C ht hi hcs I tail)
    | 39, _, e => exact V_tswIn (v := nI 39) (off := 1841) (tgt := 1881) G eL_law_40 e (by decide) (by decide) rfl rfl (go_39 hl0 C ht hi hcs I tail)
    | 40, _, e => exact V_tswIn (v := nI 40) (off := 1890) (tgt := 1930) G eL_law_40 e (by decide) (by decide) rfl rfl (go_40 hl0 C ht hi hcs I tail)
    | 41, _, e => exact V_tswIn (v := nI 41) (off := 1951) (tgt := 1991) G eL_law_40 e (by decide) (by decide) rfl rfl (go_41 hl0 C ht hi hcs I tail)
    | 42, _, e => exact V_tswIn (v := nI 42) (off := 2012) (tgt := 2052) G eL_law_40 e (by decide) (by decide) rfl rfl (go_42 hl0 C ht hi hcs I tail)
    | 43, _, e => exact V_tswIn (v := nI 43) (off := 2049) (tgt := 2089) G eL_law_40 e (by decide) (by decide) rfl rfl (go_43 hl0 C ht hi hcs I tail)
    | 44, _, e => exact V_tswIn (v := nI 44) (off := 2074) (tgt := 2114) G eL_law_40 e (by decide) (by decide) rfl rfl (go_44 hl0 C ht hi hcs I tail)
    | 45, _, e => exact V_tswIn (v := nI 45) (off := 2111) (tgt := 2151) G eL_law_40 e (by decide) (by decide) rfl rfl (go_45 hl0 C ht hi hcs I tail)
    | 46, _, e => exact V_tswIn (v := nI 46) (off := 2148) (tgt := 2188) G eL_law_40 e (by decide) (by decide) rfl rfl (go_46 hl0 C ht hi hcs I tail)
    | 47, _, e => exact V_tswIn (v := nI 47) (off := 2173) (tgt := 2213) G eL_law_40 e (by decide) (by decide) rfl rfl (go_47 hl0 C ht hi hcs I tail)
    | 48, _, e => exact V_tswIn (v := nI 48) (off := 2234) (tgt := 2274) G eL_law_40 e (by decide) (by decide) rfl rfl (go_48 hl0 C ht hi hcs I tail)
    | 49, _, e => exact V_tswIn (v := nI 49) (off := 2283) (tgt := 2323) G eL_law_40 e (by decide) (by decide) rfl rfl (go_49 hl0 C ht hi hcs I tail)
    | 50, _, e => exact V_tswIn (v := nI 50) (off := 2344) (tgt := 2384) G eL_law_40 e (by decide) (by decide) rfl rfl (go_50 hl0 C ht hi hcs I tail)
    | 51, _, e => exact V_tswIn (v := nI 51) (off := 2405) (tgt := 2445) G eL_law_40 e (by decide) (by decide) rfl rfl (go_51 hl0 C ht hi hcs I tail)
    | 52, _, e => exact V_tswIn (v := nI 52) (off := 2454) (tgt := 2494) G eL_law_40 e (by decide) (by decide) rfl rfl (go_52 hl0 C ht hi hcs I tail)
    | 53, _, e => exact V_tswIn (v := nI 53) (off := 2503) (tgt := 2543) G eL_law_40 e (by decide) (by decide) rfl rfl (go_53 hl0 C ht hi hcs I tail)
    | n + 54, h, _ => exact absurd h (by omega)
  · refine V_tswOut (tgt := 2568) G eL_law_40 hd rfl ?_
    exact V_wide (Nat.le_succ _) (Nat.le_add_right _ 6) (tail μ I.up)
theorem law_end (hr : meth.sig.returnType = ret) (C : LawC p s m meth c w b N xs) (hA : ∀ q, w.2.2.2 q → s.heap.size ≤ q) {t : Nat} {μ : Mem} (ht : t ≤ 513) (hi : N < 7 * t + 7) : Vj p l e room_1 s m #[Value.ref b] below meth c w 7 (373 + t) (24232 + 6 * t) (lw_Z below #[Value.ref b] s) 23 [some (.ref b), some (.ref (wad w 11 0)), some (.ref (wad w 12 0)), some (.ref (wad w 1400 0)), some (.int (nI (7 * t))), none, none] [] μ := by
  have hN := C.2.2.2.2.2.2.2.2.2.2.1
  have G := C.ctx (kc := 373 + t) (ns := 24232 + 6 * t) ⟨by omega, by omega⟩
  refine V_iload G eL_law_23 rfl ?_
  refine V_aload_n (i := 0) G eL_law_25 rfl rfl ?_
  refine V_slen G C.2.2.2.2.2.2.2.1 C.2.2.2.2.2.2.2.2.1 C.2.2.2.2.2.2.2.2.2.1 eL_law_26 ?_
  refine V_bipush (n := 7) (v := nI 7) G eL_law_27 rfl ?_
  refine V_isub G eL_law_29 ?_
  refine V_icmp_gt (a := some ()) (b := none) (o := ()) G eL_law_30 (if_pos ((sublt (by omega) (by omega) (by decide)).mpr (by omega))) (fun _ => ?_) (fun q => nomatch q)
  refine V_iconst (n := 1) (v := 1) G eL_law_2574 rfl ?_
  intro H locs ls hP hS hl
  refine va_forget (fun q hq => hA _ (hS.2.2 q hq)) ?_
  refine W.widen (k := 601024) (n := 7293034) (by omega) (by omega) ?_
  exact lw_ret G.1 G.2.1 hr G.2.2.2.2.2.2.2.2.1 eL_law_2575.1
theorem law_loop (hl0 : l.stackTraces = false) (hr : meth.sig.returnType = ret) (C : LawC p s m meth c w b N xs) (hA : ∀ q, w.2.2.2 q → s.heap.size ≤ q) : ∀ (r t : Nat) (μ : Mem), t + r = 513 → INV t μ → Vj p l e room_1 s m #[Value.ref b] below meth c w 7 (373 + t) (24232 + 6 * t) (lw_Z below #[Value.ref b] s) 23 [some (.ref b), some (.ref (wad w 11 0)), some (.ref (wad w 12 0)), some (.ref (wad w 1400 0)), some (.int (nI (7 * t))), none, none] [] μ := by
  intro r
  induction r with
  | zero =>
    intro t μ ht I
    exact law_end hr C hA (by omega) (by have := C.2.2.2.2.2.2.2.2.2.2.1; omega)
  | succ r ih =>
    intro t μ ht I
    by_cases hi : 7 * t + 7 ≤ N
    · have hN := C.2.2.2.2.2.2.2.2.2.2.1
      have G := C.ctx (kc := 373 + t) (ns := 24232 + 6 * t) ⟨by omega, by omega⟩
      refine V_iload G eL_law_23 rfl ?_
      refine V_aload_n (i := 0) G eL_law_25 rfl rfl ?_
      refine V_slen G C.2.2.2.2.2.2.2.1 C.2.2.2.2.2.2.2.2.1 C.2.2.2.2.2.2.2.2.2.1 eL_law_26 ?_
      refine V_bipush (n := 7) (v := nI 7) G eL_law_27 rfl ?_
      refine V_isub G eL_law_29 ?_
      refine V_icmp_gt (a := none) (b := some ()) (o := ()) G eL_law_30 (if_neg (fun q => by have := (sublt (by omega) (by omega) (by decide)).mp q; omega)) (fun q => nomatch q) (fun _ => ?_)
      refine law_turn hl0 C (by omega) hi ⟨by omega, by omega⟩ I (fun μ2 I2 => ?_)
      have G' := C.ctx (kc := 373 + t + 1) (ns := 24232 + 6 * t + 6) ⟨by omega, by omega⟩
      refine V_iinc (i := 4) (z := nI 7) (f := some) (o := nI (7 * (t + 1))) (L' := fun y => [some (.ref b), some (.ref (wad w 11 0)), some (.ref (wad w 12 0)), some (.ref (wad w 1400 0)), some (.int y), none, none]) G' eL_law_2568 rfl rfl (by decide) rfl (fun _ => rfl) (by rw [nI_add]; rfl) (fun y hy => ?_)
      cases hy
      refine V_goto G' eL_law_2571 ?_
      have := ih (t + 1) μ2 (by omega) I2
      rw [show 24232 + 6 * (t + 1) = 24232 + 6 * t + 6 by omega] at this
      exact this
    · exact law_end hr C hA (by omega) (by omega)
end LawLoop
