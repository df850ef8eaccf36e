/-! PURE: a law that is read: what is written down -/
def XL (l v r c : Nat) : Prop := v = 1002 ∨ v = 1003 ∨ (v = 500 ∧ r = l) ∨ (v = 501 ∧ r = 0 ∧ c = l)
def XLM (p v r c : Nat) : Prop := v = 1303 ∨ v = 1304 ∨ v = 1305 ∨ (v = 1325 ∧ r = 0 ∧ c = p) ∨ ((v = 1323 ∨ v = 1324) ∧ r = 0 ∧ 260 * p ≤ c ∧ c < 260 * p + 260)
def LC (l : Nat) (X : List Nat) (μ : Mem) : Prop := mI μ 501 0 l = nI X.length ∧ RowC μ l 0 X
def LM (p : Nat) (Y : List Nat) (ν : Mem) : Prop := mI ν 1325 0 p = nI Y.length ∧ RowM ν (260 * p) Y
theorem LC.ft {l : Nat} {X : List Nat} {Z : Nat → Nat → Nat → Prop} {μ μ' : Mem} (h : LC l X μ) (F : Ft Z μ μ') (hz : ∀ v r c, v = 500 ∨ v = 501 → ¬ Z v r c) : LC l X μ' :=
  ⟨(F _ _ _ (hz 501 _ _ (Or.inr rfl))).trans h.1, RowC_keep h.2 fun i _ _ => F _ _ _ (hz 500 _ _ (Or.inl rfl))⟩
theorem LM.ft {p : Nat} {Y : List Nat} {Z : Nat → Nat → Nat → Prop} {ν ν' : Mem} (h : LM p Y ν) (F : Ft Z ν ν') (hz : ∀ v r c, v = 1323 ∨ v = 1324 ∨ v = 1325 → ¬ Z v r c) : LM p Y ν' :=
  ⟨(F _ _ _ (hz 1325 _ _ (by decide))).trans h.1, RowM_keep h.2 fun i _ _ => ⟨F _ _ _ (hz 1323 _ _ (by decide)), F _ _ _ (hz 1324 _ _ (by decide))⟩⟩
theorem LC.fr {l : Nat} {X : List Nat} {W : List Nat} {μ μ' : Mem} (h : LC l X μ) (F : Fr W μ μ') (hW : nIn W [500, 501] = true) : LC l X μ' :=
  ⟨by rw [F.i 501 (nIn_of hW (by decide))]; exact h.1, RowC_keep h.2 fun i _ _ => by rw [F.i 500 (nIn_of hW (by decide))]⟩
theorem LM.fr {p : Nat} {Y : List Nat} {W : List Nat} {ν ν' : Mem} (h : LM p Y ν) (F : Fr W ν ν') (hW : nIn W [1323, 1324, 1325] = true) : LM p Y ν' :=
  ⟨by rw [F.i 1325 (nIn_of hW (by decide))]; exact h.1, RowM_keep h.2 fun i _ _ => by rw [F.i 1323 (nIn_of hW (by decide)), F.i 1324 (nIn_of hW (by decide))]; exact ⟨rfl, rfl⟩⟩
theorem emit_C {l s : Nat} {X : List Nat} {μ : Mem} (hl : l < 7) (hX : X.length < 120) (e4 : mI μ 504 0 0 = nI l) (h : LC l X μ) : ∃ μ', Laws_emit (nI s) μ = some μ' ∧ LC l (X ++ [s]) μ' ∧ Ft (fun v r c => (v = 500 ∧ r = l) ∨ (v = 501 ∧ r = 0 ∧ c = l)) μ μ' := by
  obtain ⟨h1, h2⟩ := h
  refine ⟨mSI (mSI μ 500 l X.length (nI s)) 501 0 l (nI (X.length + 1)), ?_, ⟨?_, ?_⟩, (Ft.refl.si (Or.inl ⟨rfl, rfl⟩)).si (Or.inr ⟨rfl, rfl, rfl⟩)⟩
  · unfold Laws_emit
    rw [e4, rd_n (by omega) (by decide), h1, bS, if_pos ((lt_n (by omega) (by omega)).mpr hX), ix_n (by omega) (by decide), bS, wr_n (by omega) (by decide), bS, iS_v (show (504 : Nat) ≠ 500 by decide), e4, add_n, wr_n (by omega) (by decide), bS]
  · rw [List.length_append]; exact iS_eq
  · refine RowC_app.mpr ⟨RowC_keep h2 fun i _ hi => (iS_v (by decide)).trans (iS_c (by omega)), RowC_1.mpr ?_⟩
    rw [Nat.zero_add]
    exact (iS_v (by decide)).trans iS_eq
/-- whatever is emitted: it is written, or there is no room -/
theorem emit_any {l : Nat} {x : Int32} {X : List Nat} {μ : Mem} (hl : l < 7) (hX : X.length ≤ 120) (e4 : mI μ 504 0 0 = nI l) (h : LC l X μ) : ∃ μ', Laws_emit x μ = some μ' ∧ Ft (fun v r c => (v = 500 ∧ r = l) ∨ (v = 501 ∧ r = 0 ∧ c = l)) μ μ' := by
  obtain ⟨h1, h2⟩ := h
  unfold Laws_emit
  rw [e4, rd_n (by omega) (by decide), h1, bS]
  by_cases hc : X.length < 120
  · rw [if_pos ((lt_n (by omega) (by omega)).mpr hc), ix_n (by omega) (by decide), bS, wr_n (by omega) (by decide), bS, iS_v (show (504 : Nat) ≠ 500 by decide), e4, add_n, wr_n (by omega) (by decide), bS]
    exact ⟨_, rfl, (Ft.refl.si (Or.inl ⟨rfl, rfl⟩)).si (Or.inr ⟨rfl, rfl, rfl⟩)⟩
  · rw [if_neg (fun z => hc ((lt_n (by omega) (by omega)).mp z))]
    exact ⟨_, rfl, Ft.refl⟩
def XPt (p v r c : Nat) : Prop := (v = 1325 ∧ r = 0 ∧ c = p) ∨ ((v = 1323 ∨ v = 1324) ∧ r = 0 ∧ 260 * p ≤ c ∧ c < 260 * p + 260)
theorem put_raw {p k : Nat} {x y : Int32} {ν : Mem} (hp : p < 7) (e31 : mI ν 1331 0 0 = nI p) (h : mI ν 1325 0 p = nI k) (hk : k ≤ 260) : (260 ≤ k → M_put x y ν = some ν) ∧ (k < 260 → M_put x y ν = some (mSI (mSI (mSI ν 1323 0 (260 * p + k) x) 1324 0 (260 * p + k) y) 1325 0 p (nI (k + 1)))) := by
  refine ⟨fun hc => ?_, fun hc => ?_⟩
  · unfold M_put
    rw [e31, rd_n (by omega) (by decide), h, bS, if_neg (fun z => absurd ((lt_n (by omega) (by omega)).mp z) (by omega))]
  · unfold M_put
    rw [e31, rd_n (by omega) (by decide), h, bS, if_pos ((lt_n (by omega) (by omega)).mpr hc), bS, mul_n, add_n, wr_n (by omega) (by decide), bS, iS_v (show (1331 : Nat) ≠ 1323 by decide), e31, rd_n (by omega) (by decide), iS_v (show (1325 : Nat) ≠ 1323 by decide), h, bS, mul_n, add_n, wr_n (by omega) (by decide), bS, iS_v (show (1331 : Nat) ≠ 1324 by decide), iS_v (show (1331 : Nat) ≠ 1323 by decide), e31, rd_n (by omega) (by decide), iS_v (show (1325 : Nat) ≠ 1324 by decide), iS_v (show (1325 : Nat) ≠ 1323 by decide), h, bS, add_n, wr_n (by omega) (by decide), bS]
theorem put_M {p s : Nat} {Y : List Nat} {ν : Mem} (hp : p < 7) (hY : Y.length < 260) (e31 : mI ν 1331 0 0 = nI p) (h : LM p Y ν) : ∃ ν', M_put (nI (cdM s)) (nI (vlM s)) ν = some ν' ∧ LM p (Y ++ [s]) ν' ∧ Ft (XPt p) ν ν' := by
  obtain ⟨h1, h2⟩ := h
  refine ⟨_, (put_raw hp e31 h1 (by omega)).2 hY, ⟨?_, ?_⟩, ((Ft.refl.si (Or.inr ⟨Or.inl rfl, rfl, by omega, by omega⟩)).si (Or.inr ⟨Or.inr rfl, rfl, by omega, by omega⟩)).si (Or.inl ⟨rfl, rfl, rfl⟩)⟩
  · rw [List.length_append]; exact iS_eq
  · refine RowM_app.mpr ⟨RowM_keep h2 fun i _ hi => ⟨?_, ?_⟩, ?_⟩
    · exact (iS_v (by decide)).trans ((iS_v (by decide)).trans (iS_c (by omega)))
    · exact (iS_v (by decide)).trans ((iS_c (by omega)).trans (iS_v (by decide)))
    · exact ⟨(iS_v (by decide)).trans ((iS_v (by decide)).trans iS_eq), (iS_v (by decide)).trans iS_eq, trivial⟩
/-- a fault in the reference -/
def FM (p j : Nat) (ν : Mem) : Prop := mI ν 1304 0 0 = nI j ∧ mI ν 1331 0 0 = nI p ∧ ∃ k, k ≤ 260 ∧ mI ν 1325 0 p = nI k
theorem put_F {p j : Nat} {x y : Int32} {ν : Mem} (hp : p < 7) (h : FM p j ν) : ∃ ν', M_put x y ν = some ν' ∧ FM p j ν' ∧ Ft (XPt p) ν ν' := by
  obtain ⟨h1, h2, k, hk, h3⟩ := h
  by_cases hc : k < 260
  · refine ⟨_, (put_raw hp h2 h3 hk).2 hc, ⟨?_, ?_, k + 1, by omega, iS_eq⟩, ((Ft.refl.si (Or.inr ⟨Or.inl rfl, rfl, by omega, by omega⟩)).si (Or.inr ⟨Or.inr rfl, rfl, by omega, by omega⟩)).si (Or.inl ⟨rfl, rfl, rfl⟩)⟩
    · exact (iS_v (by decide)).trans ((iS_v (by decide)).trans ((iS_v (by decide)).trans h1))
    · exact (iS_v (by decide)).trans ((iS_v (by decide)).trans ((iS_v (by decide)).trans h2))
  · exact ⟨ν, (put_raw hp h2 h3 hk).1 (by omega), ⟨h1, h2, k, hk, h3⟩, Ft.refl⟩
theorem FM.ft {p j : Nat} {Z : Nat → Nat → Nat → Prop} {ν ν' : Mem} (h : FM p j ν) (F : Ft Z ν ν') (hz : ∀ v r c, v = 1304 ∨ v = 1331 ∨ v = 1325 → ¬ Z v r c) : FM p j ν' := by
  obtain ⟨h1, h2, k, hk, h3⟩ := h
  exact ⟨(F _ _ _ (hz 1304 _ _ (by decide))).trans h1, (F _ _ _ (hz 1331 _ _ (by decide))).trans h2, k, hk, (F _ _ _ (hz 1325 _ _ (by decide))).trans h3⟩
theorem xl_fr {l : Nat} {W : List Nat} {a b : Mem} (h : Fr W a b) (hW : (W.all fun v => v == 1002 || v == 1003) = true) : Ft (XL l) a b := Ft.of h fun v hv r c => by
  have := List.all_eq_true.mp hW v hv
  simp at this
  rcases this with e | e
  · exact Or.inl e
  · exact Or.inr (Or.inl e)
theorem xlm_fr {p : Nat} {W : List Nat} {a b : Mem} (h : Fr W a b) (hW : (W.all fun v => v == 1303 || v == 1304 || v == 1305) = true) : Ft (XLM p) a b := Ft.of h fun v hv r c => by
  have := List.all_eq_true.mp hW v hv
  simp at this
  rcases this with (e | e) | e
  · exact Or.inl e
  · exact Or.inr (Or.inl e)
  · exact Or.inr (Or.inr (Or.inl e))
theorem em_XL {l v r c : Nat} (h : (v = 500 ∧ r = l) ∨ (v = 501 ∧ r = 0 ∧ c = l)) : XL l v r c := Or.inr (Or.inr h)
theorem pt_XLM {p v r c : Nat} (h : XPt p v r c) : XLM p v r c := Or.inr (Or.inr (Or.inr h))
/-- both read on, or both find the same fault -/
def Lock (S : St) (l p dep d : Nat) (bl : Bool) (B : Mem → Option (Int32 × Mem)) (M : Mem → Option Mem) : Prop := ∀ (i : Nat) (X Y : List Nat) (μ ν : Mem), K_C S i μ → K_M S i ν → i ≤ nTp S → mI μ 504 0 0 = nI l → mI ν 1331 0 0 = nI p → mI ν 1305 0 0 = nI dep → LC l X μ → LM p Y ν → X.length ≤ i → Y.length ≤ i →
  (∃ j μ' ν', j ≤ nTp S ∧ B μ = some (nI 0, μ') ∧ mI μ' 1003 0 0 = nI j ∧ Ft (XL l) μ μ' ∧ M ν = some ν' ∧ FM p j ν' ∧ Ft (XLM p) ν ν') ∨
  ∃ c i' μ' ν', Frag d bl c ∧ i + c.length ≤ i' ∧ i' ≤ nTp S ∧ B μ = some (nI 1, μ') ∧ K_C S i' μ' ∧ LC l (X ++ c) μ' ∧ Ft (XL l) μ μ' ∧ M ν = some ν' ∧ K_M S i' ν' ∧ mI ν' 1305 0 0 = nI dep ∧ LM p (Y ++ c) ν' ∧ Ft (XLM p) ν ν'
theorem xl4 {l : Nat} {μ μ' : Mem} (F : Ft (XL l) μ μ') : mI μ' 504 0 0 = mI μ 504 0 0 := F 504 0 0 (by unfold XL; omega)
theorem xlm31 {p : Nat} {ν ν' : Mem} (F : Ft (XLM p) ν ν') : mI ν' 1331 0 0 = mI ν 1331 0 0 := F 1331 0 0 (by unfold XLM; omega)
theorem let_or (x : Int32) : (LawReader_letterOf x = some (-1) ∧ M_letterOf x = some (-1)) ∨ ∃ t, t < 9 ∧ (∃ b, b < 256 ∧ x = nI b) ∧ LawReader_letterOf x = some (nI t) ∧ M_letterOf x = some (nI t) := by
  by_cases h0 : x = nI 119
  · subst h0; exact Or.inr ⟨0, by decide, ⟨119, by decide, rfl⟩, rfl, rfl⟩
  by_cases h1 : x = nI 115
  · subst h1; exact Or.inr ⟨1, by decide, ⟨115, by decide, rfl⟩, rfl, rfl⟩
  by_cases h2 : x = nI 102
  · subst h2; exact Or.inr ⟨2, by decide, ⟨102, by decide, rfl⟩, rfl, rfl⟩
  by_cases h3 : x = nI 110
  · subst h3; exact Or.inr ⟨3, by decide, ⟨110, by decide, rfl⟩, rfl, rfl⟩
  by_cases h4 : x = nI 98
  · subst h4; exact Or.inr ⟨4, by decide, ⟨98, by decide, rfl⟩, rfl, rfl⟩
  by_cases h5 : x = nI 114
  · subst h5; exact Or.inr ⟨5, by decide, ⟨114, by decide, rfl⟩, rfl, rfl⟩
  by_cases h6 : x = nI 116
  · subst h6; exact Or.inr ⟨6, by decide, ⟨116, by decide, rfl⟩, rfl, rfl⟩
  by_cases h7 : x = nI 117
  · subst h7; exact Or.inr ⟨7, by decide, ⟨117, by decide, rfl⟩, rfl, rfl⟩
  by_cases h8 : x = nI 107
  · subst h8; exact Or.inr ⟨8, by decide, ⟨107, by decide, rfl⟩, rfl, rfl⟩
  left
  unfold LawReader_letterOf M_letterOf
  simp only [if_neg h0, if_neg h1, if_neg h2, if_neg h3, if_neg h4, if_neg h5, if_neg h6, if_neg h7, if_neg h8, ite_self, and_self]
theorem cd_n {v : Nat} (h : v < 10000) : cdM v = 0 ∧ vlM v = v := cd_num h
theorem cd_l {t : Nat} (h : t < 9) : cdM (10000 + t) = 1 ∧ vlM (10000 + t) = t := by
  have := cd_let (s := 10000 + t) (by omega) (by omega)
  rw [show 10000 + t - 10000 = t by omega] at this
  exact this
/-- the digits of a number, in the reference's laws -/
theorem an_l {S : St} (W : W_tp S) (r : Mem → Option Mem) : ∀ {k s v f : Nat} {ν : Mem}, K_M S s ν → s ≤ nTp S → k ≤ 4 → k < f → (v + 1) * 10 ^ k ≤ 1000000 → ∃ ν', M_atom_l1 r f (nI v) (nI (4 - k)) ν = some (nI (rdv S k s v).1, ν') ∧ K_M S (rdv S k s v).2 ν' ∧ Fr [1303] ν ν' := by
  have hn := W.1
  intro k
  induction k with
  | zero =>
    intro s v f ν K hs hk hf hp
    obtain ⟨f, rfl⟩ : ∃ g, f = g + 1 := ⟨f - 1, by omega⟩
    refine ⟨ν, ?_, K, Fr.refl⟩
    show M_atom_l1b r (M_atom_l1 r f) (nI v) (nI 4) ν = _
    unfold M_atom_l1b
    rw [if_neg (by decide)]
    rfl
  | succ k ih =>
    intro s v f ν K hs hk hf hp
    obtain ⟨f, rfl⟩ : ∃ g, f = g + 1 := ⟨f - 1, by omega⟩
    show ∃ ν', M_atom_l1b r (M_atom_l1 r f) (nI v) (nI (4 - (k + 1))) ν = _ ∧ _
    unfold M_atom_l1b
    rw [if_pos ((lt_n (by omega) (by omega)).mpr (show 4 - (k + 1) < 4 by omega)), here_M W K (by omega), bS, dig_M]
    cases hd : dgN S s with
    | none =>
      rw [dg_no W hd, bS, if_pos z00, rdv_no hd]
      exact ⟨ν, rfl, K, Fr.refl⟩
    | some d =>
      obtain ⟨h1, h2, h3, h4, h5⟩ := dg_at hd
      have e10 : (v + 1) * 10 ^ (k + 1) = (10 * v + 10) * 10 ^ k := by
        rw [Nat.pow_succ, Nat.mul_comm (10 ^ k) 10, ← Nat.mul_assoc, Nat.mul_comm (v + 1) 10, Nat.mul_add]
      have hp2 : (10 * v + d + 1) * 10 ^ k ≤ 1000000 := Nat.le_trans (Nat.mul_le_mul_right (10 ^ k) (show 10 * v + d + 1 ≤ 10 * v + 10 by omega)) (by rw [← e10]; exact hp)
      obtain ⟨ν', a1, a2, a3⟩ := ih (s := s + 1) (v := 10 * v + d) (f := f) (ν := mSI ν 1303 0 0 (nI (s + 1))) K.at (by omega) (by omega) (by omega) hp2
      rw [h5, bS, if_neg n10, bS, h4, mul_n, add_n, sub_n (by omega), bS, K.2.1, add_n, bS, add_n, bS, rdv_at hd]
      rw [show 4 - (k + 1) + 1 = 4 - k by omega, show 10 * v + (48 + d) - 48 = 10 * v + d by omega]
      exact ⟨ν', a1, a2, (fr_si (by simp) Fr.refl).trans a3⟩
