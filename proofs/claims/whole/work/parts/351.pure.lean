/-! PURE: what is written, and the cursor on the tape -/
/-- nothing but the cells of X is written -/
def Ft (X : Nat → Nat → Nat → Prop) (μ μ' : Mem) : Prop := ∀ v r c, ¬ X v r c → mI μ' v r c = mI μ v r c
theorem Ft.refl {X : Nat → Nat → Nat → Prop} {μ : Mem} : Ft X μ μ := fun _ _ _ _ => rfl
theorem Ft.trans {X : Nat → Nat → Nat → Prop} {a b c : Mem} (h : Ft X a b) (h' : Ft X b c) : Ft X a c := fun v r e hx => (h' v r e hx).trans (h v r e hx)
theorem Ft.si {X : Nat → Nat → Nat → Prop} {a b : Mem} {v r c : Nat} {x : Int32} (hx : X v r c) (h : Ft X a b) : Ft X a (mSI b v r c x) := fun u s e hu => by
  refine Eq.trans ?_ (h u s e hu)
  rw [I_SI, if_neg]
  rintro ⟨rfl, rfl, rfl⟩
  exact hu hx
theorem Ft.of {X : Nat → Nat → Nat → Prop} {W : List Nat} {a b : Mem} (h : Fr W a b) (hW : ∀ v, v ∈ W → ∀ r c, X v r c) : Ft X a b := fun v r c hx => by
  rw [h.i v (fun z => hx (hW v z r c))]
theorem Ft.mono {X Y : Nat → Nat → Nat → Prop} {a b : Mem} (h : Ft X a b) (hX : ∀ v r c, X v r c → Y v r c) : Ft Y a b := fun v r c hy => h v r c fun z => hy (hX v r c z)
/-! the cursor -/
def skN (S : St) : Nat → Nat → Nat
  | 0, i => i
  | f + 1, i => if i < nTp S ∧ sN S 1000 0 i = 32 then skN S f (i + 1) else i
/-- past the blanks -/
def skp (S : St) (i : Nat) : Nat := skN S (nTp S - i) i
theorem skp_s {S : St} {i : Nat} (h1 : i < nTp S) (h2 : sN S 1000 0 i = 32) : skp S i = skp S (i + 1) := by
  unfold skp
  rw [show nTp S - i = nTp S - (i + 1) + 1 by omega]
  show (if _ then _ else _) = _
  rw [if_pos ⟨h1, h2⟩]
theorem skp_e {S : St} {i : Nat} (h : ¬ (i < nTp S ∧ sN S 1000 0 i = 32)) : skp S i = i := by
  unfold skp
  cases nTp S - i with
  | zero => rfl
  | succ f => exact if_neg h
theorem skN_le {S : St} : ∀ {f i : Nat}, i + f ≤ nTp S → i ≤ skN S f i ∧ skN S f i ≤ i + f := by
  intro f
  induction f with
  | zero => intro i _; exact ⟨Nat.le_refl _, Nat.le_refl _⟩
  | succ f ih =>
    intro i h
    show i ≤ (if _ then _ else _) ∧ (if _ then _ else _) ≤ _
    split
    · have := ih (i := i + 1) (by omega); omega
    · omega
theorem skp_le {S : St} {i : Nat} (h : i ≤ nTp S) : i ≤ skp S i ∧ skp S i ≤ nTp S := by
  have := skN_le (S := S) (f := nTp S - i) (i := i) (by omega)
  unfold skp
  omega
/-- what lies at a place, -1 behind the end -/
def hrI (S : St) (i : Nat) : Int32 := if i < nTp S then nI (sN S 1000 0 i) else -1
def lkI (S : St) (i : Nat) : Int32 := hrI S (skp S i)
def K_C (S : St) (i : Nat) (μ : Mem) : Prop := C_tp S μ ∧ mI μ 1002 0 0 = nI i ∧ mI μ 1003 0 0 = -1
def K_M (S : St) (i : Nat) (ν : Mem) : Prop := M_tp S ν ∧ mI ν 1303 0 0 = nI i ∧ mI ν 1304 0 0 = -1
theorem K_C.ft {S : St} {i : Nat} {X : Nat → Nat → Nat → Prop} {μ μ' : Mem} (K : K_C S i μ) (F : Ft X μ μ') (h : ∀ r c, ¬ X 1000 r c ∧ ¬ X 1001 r c ∧ ¬ X 1002 r c ∧ ¬ X 1003 r c) : K_C S i μ' :=
  ⟨⟨(F _ _ _ (h 0 0).2.1).trans K.1.1, fun k hk => (F _ _ _ (h 0 k).1).trans (K.1.2 k hk)⟩, (F _ _ _ (h 0 0).2.2.1).trans K.2.1, (F _ _ _ (h 0 0).2.2.2).trans K.2.2⟩
theorem K_M.ft {S : St} {i : Nat} {X : Nat → Nat → Nat → Prop} {ν ν' : Mem} (K : K_M S i ν) (F : Ft X ν ν') (h : ∀ r c, ¬ X 1301 r c ∧ ¬ X 1302 r c ∧ ¬ X 1303 r c ∧ ¬ X 1304 r c) : K_M S i ν' :=
  ⟨⟨(F _ _ _ (h 0 0).2.1).trans K.1.1, fun k hk => (F _ _ _ (h 0 k).1).trans (K.1.2 k hk)⟩, (F _ _ _ (h 0 0).2.2.1).trans K.2.1, (F _ _ _ (h 0 0).2.2.2).trans K.2.2⟩
theorem K_C.at {S : St} {i j : Nat} {μ : Mem} (K : K_C S i μ) : K_C S j (mSI μ 1002 0 0 (nI j)) :=
  ⟨⟨(iS_v (by decide)).trans K.1.1, fun k hk => (iS_v (by decide)).trans (K.1.2 k hk)⟩, iS_eq, (iS_v (by decide)).trans K.2.2⟩
theorem K_M.at {S : St} {i j : Nat} {ν : Mem} (K : K_M S i ν) : K_M S j (mSI ν 1303 0 0 (nI j)) :=
  ⟨⟨(iS_v (by decide)).trans K.1.1, fun k hk => (iS_v (by decide)).trans (K.1.2 k hk)⟩, iS_eq, (iS_v (by decide)).trans K.2.2⟩
theorem hr_at {S : St} {i : Nat} (h : i < nTp S) : hrI S i = nI (sN S 1000 0 i) := if_pos h
theorem hr_end {S : St} {i : Nat} (h : nTp S ≤ i) : hrI S i = -1 := if_neg (by omega)
theorem neg_n {c : Nat} (h : c < 1000000) : ¬ (-1 : Int32) = nI c := fun z => by
  have := neg1_lt (t := c) (by omega)
  rw [← z] at this
  exact absurd this (by decide)
theorem look_C {S : St} {i : Nat} {μ : Mem} (W : W_tp S) (K : K_C S i μ) (hi : i ≤ nTp S) : ∃ μ', Tape_look μ = some (lkI S i, μ') ∧ K_C S (skp S i) μ' ∧ Fr [1002] μ μ' := by
  have hn := W.1
  have hl : ∃ μ', Tape_look_l1 FU (nI i) μ = some μ' ∧ K_C S (skp S i) μ' ∧ Fr [1002] μ μ' := by
    refine loopE (fun f v s => Tape_look_l1 f v s) (nTp S) (fun k s => skp S k = skp S i ∧ K_C S k s ∧ Fr [1002] μ s) _ ?_ ?_ (nTp S - i) i μ FU (by omega) (FU_lt (by omega)) ⟨rfl, K, Fr.refl⟩
    · rintro f k s hk ⟨h1, Ks, F⟩
      have hb := W.2 k hk
      show (∃ s', Tape_look_l1b (Tape_look_l1 f) (nI k) s = _ ∧ _) ∨ (∃ r, Tape_look_l1b (Tape_look_l1 f) (nI k) s = _ ∧ _)
      unfold Tape_look_l1b
      rw [Ks.1.1, if_pos ((lt_n (by omega) (by omega)).mpr hk), rd_n (by omega) (by decide), Ks.1.2 k hk, bS]
      by_cases h : sN S 1000 0 k = 32
      · left
        rw [h, if_pos rfl, add_n, bS, bS]
        exact ⟨_, rfl, (skp_s hk h).symm.trans h1, Ks.at, fr_si (by simp) F⟩
      · right
        rw [if_neg (fun z => h ((eq_n (by omega) (by omega)).mp z))]
        rw [skp_e (fun z => h z.2)] at h1
        rw [← h1]
        exact ⟨s, rfl, Ks, F⟩
    · rintro f s ⟨h1, Ks, F⟩
      rw [skp_e (fun z => absurd z.1 (by omega))] at h1
      refine ⟨s, ?_, h1 ▸ Ks, F⟩
      show Tape_look_l1b (Tape_look_l1 f) (nI (nTp S)) s = _
      unfold Tape_look_l1b
      rw [Ks.1.1, if_neg (fun z => absurd ((lt_n (by omega) (by omega)).mp z) (by omega))]
  obtain ⟨μ', e1, K', F⟩ := hl
  have hs := skp_le hi
  refine ⟨μ', ?_, K', F⟩
  unfold Tape_look
  rw [K.2.1, bS, e1, bS, K'.2.1, K'.1.1]
  unfold lkI hrI
  by_cases h : skp S i < nTp S
  · rw [if_pos ((lt_n (by omega) (by omega)).mpr h), if_pos h, rd_n (by omega) (by decide), K'.1.2 _ h, bS]
  · rw [if_neg (fun z => h ((lt_n (by omega) (by omega)).mp z)), if_neg h]
theorem here_M {S : St} {i : Nat} {ν : Mem} (W : W_tp S) (K : K_M S i ν) (hi : i < 1000000) : M_here ν = some (hrI S i) := by
  have hn := W.1
  unfold M_here hrI
  rw [K.2.1, K.1.1]
  by_cases h : i < nTp S
  · rw [if_pos ((lt_n (by omega) (by omega)).mpr h), if_pos h, rd_n (by omega) (by decide), K.1.2 _ h, bS]
  · rw [if_neg (fun z => h ((lt_n (by omega) (by omega)).mp z)), if_neg h]
theorem look_M {S : St} {i : Nat} {ν : Mem} (W : W_tp S) (K : K_M S i ν) (hi : i ≤ nTp S) : ∃ ν', M_look ν = some (lkI S i, ν') ∧ K_M S (skp S i) ν' ∧ Fr [1303] ν ν' := by
  have hn := W.1
  have hl : ∃ ν', M_look_l1 FU ν = some ν' ∧ K_M S (skp S i) ν' ∧ Fr [1303] ν ν' := by
    refine loopE (fun f _ s => M_look_l1 f s) (nTp S) (fun k s => skp S k = skp S i ∧ K_M S k s ∧ Fr [1303] ν s) _ ?_ ?_ (nTp S - i) i ν FU (by omega) (FU_lt (by omega)) ⟨rfl, K, Fr.refl⟩
    · rintro f k s hk ⟨h1, Ks, F⟩
      have hb := W.2 k hk
      show (∃ s', M_look_l1b (M_look_l1 f) s = _ ∧ _) ∨ (∃ r, M_look_l1b (M_look_l1 f) s = _ ∧ _)
      unfold M_look_l1b
      rw [here_M W Ks (by omega), bS, hr_at hk, Ks.2.1]
      by_cases h : sN S 1000 0 k = 32
      · left
        rw [h, if_pos rfl, add_n, bS]
        exact ⟨_, rfl, (skp_s hk h).symm.trans h1, Ks.at, fr_si (by simp) F⟩
      · right
        rw [if_neg (fun z => h ((eq_n (by omega) (by omega)).mp z))]
        rw [skp_e (fun z => h z.2)] at h1
        rw [← h1]
        exact ⟨s, rfl, Ks, F⟩
    · rintro f s ⟨h1, Ks, F⟩
      rw [skp_e (fun z => absurd z.1 (by omega))] at h1
      refine ⟨s, ?_, h1 ▸ Ks, F⟩
      show M_look_l1b (M_look_l1 f) s = _
      unfold M_look_l1b
      rw [here_M W Ks (by omega), bS, hr_end (Nat.le_refl _), if_neg (neg_n (by decide))]
  obtain ⟨ν', e1, K', F⟩ := hl
  have hs := skp_le hi
  refine ⟨ν', ?_, K', F⟩
  unfold M_look
  rw [e1, bS, here_M W K' (by omega), bS]
  rfl
/-- a sign that is seen: it lies on the tape -/
theorem lk_in {S : St} {i c : Nat} (hc : c < 1000000) (h : lkI S i = nI c) : skp S i < nTp S := by
  refine Classical.byContradiction fun z => ?_
  unfold lkI at h
  rw [hr_end (by omega)] at h
  exact neg_n hc h
theorem skp_skp {S : St} {i : Nat} (hi : i ≤ nTp S) : skp S (skp S i) = skp S i := by
  obtain ⟨m, hm⟩ : ∃ m, m = nTp S - i := ⟨_, rfl⟩
  induction m generalizing i with
  | zero => rw [skp_e (i := i) (fun z => absurd z.1 (by omega))]; exact skp_e (fun z => absurd z.1 (by omega))
  | succ m ih =>
    by_cases h : i < nTp S ∧ sN S 1000 0 i = 32
    · rw [skp_s h.1 h.2]; exact ih (by omega) (by omega)
    · rw [skp_e h, skp_e h]
theorem lk_lk {S : St} {i : Nat} (hi : i ≤ nTp S) : lkI S (skp S i) = lkI S i := by
  unfold lkI
  rw [skp_skp hi]
theorem step_C {S : St} {i : Nat} {μ : Mem} (W : W_tp S) (K : K_C S i μ) (hi : i < nTp S) : ∃ μ', Tape_step μ = some μ' ∧ K_C S (i + 1) μ' ∧ Fr [1002] μ μ' := by
  have hn := W.1
  refine ⟨mSI μ 1002 0 0 (nI (i + 1)), ?_, K.at, fr_si (by simp) Fr.refl⟩
  unfold Tape_step
  rw [K.2.1, K.1.1, if_pos ((lt_n (by omega) (by omega)).mpr hi), add_n, bS]
theorem takes_C {S : St} {i c : Nat} {μ : Mem} (W : W_tp S) (K : K_C S i μ) (hi : i ≤ nTp S) (hc : c < 256) : ∃ μ', Tape_takes (nI c) μ = some (if lkI S i = nI c then nI 1 else nI 0, μ') ∧ K_C S (if lkI S i = nI c then skp S i + 1 else skp S i) μ' ∧ Fr [1002] μ μ' := by
  have hn := W.1
  obtain ⟨μ1, e1, K1, F1⟩ := look_C W K hi
  unfold Tape_takes
  rw [e1, bS]
  simp only []
  by_cases h : lkI S i = nI c
  · have hl := lk_in (by omega) h
    rw [if_pos h, if_pos h, if_pos h, K1.2.1, K1.1.1, if_pos ((lt_n (by omega) (by omega)).mpr hl), add_n, bS, rz_1, bS]
    exact ⟨_, rfl, K1.at, fr_si (by simp) F1⟩
  · rw [if_neg h, if_neg h, if_neg h, rz_0, bS]
    exact ⟨_, rfl, K1, F1⟩
theorem wrong_C {S : St} {i : Nat} {μ : Mem} (K : K_C S i μ) : ∃ μ', Tape_wrongHere μ = some (nI 0, μ') ∧ mI μ' 1003 0 0 = nI i ∧ Fr [1003] μ μ' := by
  refine ⟨mSI μ 1003 0 0 (nI i), ?_, iS_eq, fr_si (by simp) Fr.refl⟩
  unfold Tape_wrongHere
  rw [K.2.1, bS, rz_0, bS]
theorem wrongB_C {S : St} {i : Nat} {μ : Mem} (K : K_C S (i + 1) μ) : ∃ μ', Tape_wrongBefore μ = some (nI 0, μ') ∧ mI μ' 1003 0 0 = nI i ∧ Fr [1003] μ μ' := by
  refine ⟨mSI μ 1003 0 0 (nI i), ?_, iS_eq, fr_si (by simp) Fr.refl⟩
  unfold Tape_wrongBefore
  rw [K.2.1, sub_n (by omega), Nat.add_sub_cancel, bS, rz_0, bS]
theorem bad_M {S : St} {i : Nat} {ν : Mem} (K : K_M S i ν) : ∃ ν', M_bad ν = some ν' ∧ mI ν' 1304 0 0 = nI i ∧ Fr [1304] ν ν' := by
  refine ⟨mSI ν 1304 0 0 (nI i), ?_, iS_eq, fr_si (by simp) Fr.refl⟩
  unfold M_bad
  rw [K.2.2, if_pos rfl, K.2.1, bS]
/-! numbers -/
theorem dig_or (x : Int32) : B_isDigit x = some (nI 0) ∨ ∃ d, d ≤ 9 ∧ x = nI (48 + d) ∧ B_isDigit x = some (nI 1) := by
  rcases in_nat x 48 57 (by decide) (by decide) with h | ⟨k, h1, h2, rfl, h⟩
  · exact Or.inl h
  · exact Or.inr ⟨k - 48, by omega, by rw [show 48 + (k - 48) = k by omega], h⟩
theorem dig_M : M_isDigit = B_isDigit := rfl
theorem hr_in {S : St} {i c : Nat} (hc : c < 1000000) (h : hrI S i = nI c) : i < nTp S := by
  refine Classical.byContradiction fun z => ?_
  rw [hr_end (by omega)] at h
  exact neg_n hc h
