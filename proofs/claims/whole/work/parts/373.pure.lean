/-! PURE: class and reference in one memory, call by call -/
def INV (t : Nat) (κ : Mem) : Prop := ∃ S : St, WF S ∧ CR S κ ∧ MR S κ ∧ sN S 908 0 0 ≤ t ∧ ∀ p, nPg S ≤ p → p < 16 → mI κ 301 p p = nI 0
theorem INV.up {t : Nat} {κ : Mem} (h : INV t κ) : INV (t + 1) κ := by
  obtain ⟨S, W, C, R, h9, dg⟩ := h
  exact ⟨S, W, C, R, by omega, dg⟩
theorem nIn_s {W : List Nat} {v : Nat} {L : List Nat} (h : nIn W (v :: L) = true) : v ∉ W ∧ nIn W L = true := by
  refine ⟨nIn_of h List.mem_cons_self, ?_⟩
  unfold nIn at h ⊢
  rw [List.all_cons, Bool.and_eq_true] at h
  exact h.2
theorem stepC {B M : Mem → Option (Int32 × Mem)} {WB WM : List Nat} (h : Cmd B M) (fB : ∀ μ r μ', B μ = some (r, μ') → Fr WB μ μ') (fM : ∀ μ r μ', M μ = some (r, μ') → Fr WM μ μ') (hB : nIn WB (301 :: MRv) = true) (hM : nIn WM (301 :: CRv) = true) {t : Nat} {κ : Mem} (I : INV t κ) : ∃ r κ1 κ2, B κ = some (r, κ1) ∧ M κ1 = some (r, κ2) ∧ INV (t + 1) κ2 := by
  obtain ⟨S, W, C, R, h9, dg⟩ := I
  obtain ⟨nB, hB⟩ := nIn_s hB
  obtain ⟨nM, hM⟩ := nIn_s hM
  obtain ⟨r, κ1, ν, b, m, c, rr⟩ := h S κ κ W C R
  have F1 := fB _ _ _ b
  obtain ⟨r', κ1', κ2, b', m', c', rr'⟩ := h S κ κ1 W C (R.fr F1 hB)
  have e := Option.some.inj (b.symm.trans b')
  obtain ⟨rfl, rfl⟩ := Prod.mk.inj e
  have F2 := fM _ _ _ m'
  exact ⟨r, κ1, κ2, b, m', S, W, c'.fr F2 hM, rr', by omega, fun p h1 h2 => by rw [F2.i 301 nM, F1.i 301 nB]; exact dg p h1 h2⟩
theorem stepL {B M : Mem → Option (Int64 × Mem)} {WB WM : List Nat} (h : CmdL B M) (fB : ∀ μ r μ', B μ = some (r, μ') → Fr WB μ μ') (fM : ∀ μ r μ', M μ = some (r, μ') → Fr WM μ μ') (hB : nIn WB (301 :: MRv) = true) (hM : nIn WM (301 :: CRv) = true) {t : Nat} {κ : Mem} (I : INV t κ) : ∃ r κ1 κ2, B κ = some (r, κ1) ∧ M κ1 = some (r, κ2) ∧ INV (t + 1) κ2 := by
  obtain ⟨S, W, C, R, h9, dg⟩ := I
  obtain ⟨nB, hB⟩ := nIn_s hB
  obtain ⟨nM, hM⟩ := nIn_s hM
  obtain ⟨r, κ1, ν, b, m, c, rr⟩ := h S κ κ W C R
  have F1 := fB _ _ _ b
  obtain ⟨r', κ1', κ2, b', m', c', rr'⟩ := h S κ κ1 W C (R.fr F1 hB)
  have e := Option.some.inj (b.symm.trans b')
  obtain ⟨rfl, rfl⟩ := Prod.mk.inj e
  have F2 := fM _ _ _ m'
  exact ⟨r, κ1, κ2, b, m', S, W, c'.fr F2 hM, rr', by omega, fun p h1 h2 => by rw [F2.i 301 nM, F1.i 301 nB]; exact dg p h1 h2⟩
theorem stepP {B M : Mem → Option Int32} (h : CmdP B M) {t : Nat} {κ : Mem} (I : INV t κ) : ∃ r, B κ = some r ∧ M κ = some r ∧ INV (t + 1) κ := by
  have I' := I.up
  obtain ⟨S, W, C, R, h9, dg⟩ := I
  obtain ⟨r, b, m⟩ := h S κ κ W C R
  exact ⟨r, b, m, I'⟩
theorem stepM {B : Mem → Option Int32} {M : Mem → Option (Int32 × Mem)} {WM : List Nat} (h : CmdM B M) (fM : ∀ μ r μ', M μ = some (r, μ') → Fr WM μ μ') (hM : nIn WM (301 :: CRv) = true) {t : Nat} {κ : Mem} (I : INV t κ) : ∃ r κ2, B κ = some r ∧ M κ = some (r, κ2) ∧ INV (t + 1) κ2 := by
  obtain ⟨S, W, C, R, h9, dg⟩ := I
  obtain ⟨nM, hM⟩ := nIn_s hM
  obtain ⟨r, κ2, b, m, rr⟩ := h S κ κ W C R
  have F2 := fM _ _ _ m
  exact ⟨r, κ2, b, m, S, W, C.fr F2 hM, rr, by omega, fun p h1 h2 => by rw [F2.i 301 nM]; exact dg p h1 h2⟩
theorem stepX {B M : Mem → Option (Int32 × Mem)} {WB WM : List Nat} (h : Mut B M) (fB : ∀ μ r μ', B μ = some (r, μ') → Fr WB μ μ') (fM : ∀ μ r μ', M μ = some (r, μ') → Fr WM μ μ') (hB : nIn WB (301 :: 712 :: MRv) = true) (hM : nIn WM (301 :: CRv) = true) {t : Nat} {κ : Mem} (ht : t < 2147480000) (I : INV t κ) : ∃ r κ1 κ2, B κ = some (r, κ1) ∧ M κ1 = some (r, κ2) ∧ INV (t + 1) κ2 := by
  obtain ⟨S, W, C, R, h9, dg⟩ := I
  obtain ⟨nB, hB⟩ := nIn_s hB
  obtain ⟨n7, hB⟩ := nIn_s hB
  obtain ⟨nM, hM⟩ := nIn_s hM
  obtain ⟨r, S1, κ1, ν, b, m, -, -, -, -⟩ := h S κ κ W C R (by omega)
  have F1 := fB _ _ _ b
  obtain ⟨r', S', κ1', κ2, b', m', W', c', rr', a'⟩ := h S κ κ1 W C (R.fr F1 hB) (by omega)
  have e := Option.some.inj (b.symm.trans b')
  obtain ⟨rfl, rfl⟩ := Prod.mk.inj e
  have F2 := fM _ _ _ m'
  have hp : nPg S' = nPg S := by
    have e1 := c'.pg.1
    rw [F1.i 712 n7, C.pg.1] at e1
    have := W.pg.1
    have := W'.pg.1
    exact ((eq_n (by omega) (by omega)).mp e1).symm
  exact ⟨r, κ1, κ2, b, m', S', W', c'.fr F2 hM, rr', by omega, fun p h1 h2 => by rw [F2.i 301 nM, F1.i 301 nB]; exact dg p (by omega) h2⟩
theorem stepT (x : Int32) {t : Nat} {κ : Mem} (ht : t < 2147480000) (I : INV t κ) : ∃ r κ1 κ2, B_text x κ = some (r, κ1) ∧ M_text x κ1 = some (r, κ2) ∧ INV (t + 1) κ2 := by
  obtain ⟨S, W, C, R, h9, dg⟩ := I
  obtain ⟨r, S1, κ1, ν, b, m, -⟩ := q_text x W C R (by omega) dg
  have F1 := B_text_fr b
  obtain ⟨r', S', κ1', κ2, b', m', W', c', rr', a', dg'⟩ := q_text x W C (R.fr F1 (by decide)) (by omega) dg
  have e := Option.some.inj (b.symm.trans b')
  obtain ⟨rfl, rfl⟩ := Prod.mk.inj e
  have F2 := M_text_fr m'
  exact ⟨r, κ1, κ2, b, m', S', W', c'.fr F2 (by decide), rr', by omega, fun p h1 h2 => by rw [F2.i 301 (by decide)]; exact dg' p h1 h2⟩
theorem stepG (x y : Int32) {t : Nat} {κ : Mem} (I : INV t κ) : ∃ o r κ2, B_page x y κ = some o ∧ M_page x y κ = some (r, κ2) ∧ INV (t + 1) κ2 ∧ ((o = none ∧ mI κ2 1300 0 0 = nI 1) ∨ (o = some r ∧ mI κ2 1300 0 0 = nI 0)) := by
  obtain ⟨S, W, C, R, h9, dg⟩ := I
  obtain ⟨o, r, κ2, b, m, rr, h⟩ := q_page x y W C R
  have F2 := M_page_fr m
  exact ⟨o, r, κ2, b, m, ⟨S, W, C.fr F2 (by decide), rr, by omega, fun p h1 h2 => by rw [F2.i 301 (by decide)]; exact dg p h1 h2⟩, h⟩
