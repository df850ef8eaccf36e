/-! PURE: calls that ask, over dishes: frames for them, and the first of them -/
def Cmd (B M : Mem → Option (Int32 × Mem)) : Prop := ∀ (S : St) (μ ν : Mem), WF S → CR S μ → MR S ν → ∃ r μ' ν', B μ = some (r, μ') ∧ M ν = some (r, ν') ∧ CR S μ' ∧ MR S ν'
def CmdP (B M : Mem → Option Int32) : Prop := ∀ (S : St) (μ ν : Mem), WF S → CR S μ → MR S ν → ∃ r, B μ = some r ∧ M ν = some r
/-- one dish is asked -/
theorem q_dish {x y e : Int32} {fC fM : Mem → Option (Int32 × Mem)} {S : St} {μ ν : Mem} (W : WF S) (C : CR S μ) (R : MR S ν)
    (h : ∀ p i d μ ν, Dsh S x y p i d → On S p μ → Shw S p d μ → MR S ν → Wnt S p d ν → ∃ r μ' ν', fC μ = some (r, μ') ∧ fM ν = some (r, ν') ∧ CR S μ' ∧ MR S ν') :
    ∃ r μ' ν', ((B_shows x y μ).bind fun (x2, μ3) => if x2 = 0 then some (e, μ3) else fC μ3) = some (r, μ') ∧ ((M_isTold x ν).bind fun (x2, μ3) => if x2 = 0 then some (e, μ3) else (M_in y (nI 0) ((mI μ3 1342 0 0) - (nI 1))).bind fun x4 => if x4 = 0 then some (e, μ3) else (M_go x y μ3).bind fM) = some (r, ν') ∧ CR S μ' ∧ MR S ν' := by
  by_cases hd : ∃ p i d, Dsh S x y p i d
  · obtain ⟨p, i, d, hd⟩ := hd
    obtain ⟨μ1, a1, a2, a3, -⟩ := shows_yes W C hd
    have hd' := hd
    obtain ⟨hp, rfl, rfl, ht, hi⟩ := hd'
    obtain ⟨ν1, b1, b2, b3, -⟩ := told_yes W R hp ht
    obtain ⟨ν2, c1, c2, c3, c4, -⟩ := go_M W b2 hp ht b3 hi
    obtain ⟨r, μ', ν', d1, d2, d3, d4⟩ := h p i d μ1 ν2 hd a2 a3 c2 c4
    refine ⟨r, μ', ν', ?_, ?_, d3, d4⟩
    · rw [a1, bS]; simp only []; rw [if_neg (by decide)]; exact d1
    · rw [b1, bS]; simp only []; rw [if_neg (by decide), num_yes ht b3 hi, bS, if_neg (by decide), c1, bS]; exact d2
  · obtain ⟨μ1, a1, a2, -⟩ := shows_no W C (fun p i d q => hd ⟨p, i, d, q⟩)
    have hM : ∃ ν', ((M_isTold x ν).bind fun (x2, μ3) => if x2 = 0 then some (e, μ3) else (M_in y (nI 0) ((mI μ3 1342 0 0) - (nI 1))).bind fun x4 => if x4 = 0 then some (e, μ3) else (M_go x y μ3).bind fM) = some (e, ν') ∧ MR S ν' := by
      rcases arg_n x (nPg S) (by have := W.pg.1; omega) with hx | ⟨p, hp, rfl⟩
      · rw [told_out W R hx, bS]; simp only []; rw [if_pos (by decide)]; exact ⟨ν, rfl, R⟩
      · by_cases ht : told S p
        · obtain ⟨ν1, b1, b2, b3, -⟩ := told_yes W R hp ht
          rw [b1, bS]; simp only []
          rw [if_neg (by decide), num_no ht b3 (fun i d q hi => hd ⟨p, i, d, hp, rfl, q, ht, hi⟩), bS, if_pos (by decide)]
          exact ⟨ν1, rfl, b2⟩
        · obtain ⟨ν1, b1, b2⟩ := told_not W R hp ht
          rw [b1, bS]; simp only []; rw [if_pos (by decide)]; exact ⟨ν1, rfl, b2⟩
    obtain ⟨ν', b1, b2⟩ := hM
    refine ⟨e, μ1, ν', ?_, b1, a2, b2⟩
    rw [a1, bS]; simp only []; rw [if_pos (by decide)]
/-- one dish is asked, its parts alone -/
theorem q_parts {x y e : Int32} {fC fM : Mem → Option (Int32 × Mem)} {S : St} {μ ν : Mem} (W : WF S) (C : CR S μ) (R : MR S ν)
    (h : ∀ p i d μ ν, Dsh S x y p i d → On S p μ → Shw S p d μ → MR S ν → (∀ k, k < mT S p → mI ν 1340 0 k = nI (prtP S p d k)) → ∃ r μ' ν', fC μ = some (r, μ') ∧ fM ν = some (r, ν') ∧ CR S μ' ∧ MR S ν') :
    ∃ r μ' ν', ((B_shows x y μ).bind fun (x2, μ3) => if x2 = 0 then some (e, μ3) else fC μ3) = some (r, μ') ∧ ((M_isTold x ν).bind fun (x2, μ3) => if x2 = 0 then some (e, μ3) else (M_in y (nI 0) ((mI μ3 1342 0 0) - (nI 1))).bind fun x4 => if x4 = 0 then some (e, μ3) else (mRd μ3 1341 0 5000 y).bind fun x6 => (M_lay x x6 μ3).bind fM) = some (r, ν') ∧ CR S μ' ∧ MR S ν' := by
  by_cases hd : ∃ p i d, Dsh S x y p i d
  · obtain ⟨p, i, d, hd⟩ := hd
    obtain ⟨μ1, a1, a2, a3, -⟩ := shows_yes W C hd
    have hd' := hd
    obtain ⟨hp, rfl, rfl, ht, hi⟩ := hd'
    obtain ⟨ν1, b1, b2, b3, -⟩ := told_yes W R hp ht
    obtain ⟨c0, ν2, c1, c2, c3, c4, -⟩ := layi_M W b2 hp ht b3 hi
    obtain ⟨r, μ', ν', d1, d2, d3, d4⟩ := h p i d μ1 ν2 hd a2 a3 c2 c4
    refine ⟨r, μ', ν', ?_, ?_, d3, d4⟩
    · rw [a1, bS]; simp only []; rw [if_neg (by decide)]; exact d1
    · rw [b1, bS]; simp only []; rw [if_neg (by decide), num_yes ht b3 hi, bS, if_neg (by decide), c0, bS, c1, bS]; exact d2
  · obtain ⟨μ1, a1, a2, -⟩ := shows_no W C (fun p i d q => hd ⟨p, i, d, q⟩)
    have hM : ∃ ν', ((M_isTold x ν).bind fun (x2, μ3) => if x2 = 0 then some (e, μ3) else (M_in y (nI 0) ((mI μ3 1342 0 0) - (nI 1))).bind fun x4 => if x4 = 0 then some (e, μ3) else (mRd μ3 1341 0 5000 y).bind fun x6 => (M_lay x x6 μ3).bind fM) = some (e, ν') ∧ MR S ν' := by
      rcases arg_n x (nPg S) (by have := W.pg.1; omega) with hx | ⟨p, hp, rfl⟩
      · rw [told_out W R hx, bS]; simp only []; rw [if_pos (by decide)]; exact ⟨ν, rfl, R⟩
      · by_cases ht : told S p
        · obtain ⟨ν1, b1, b2, b3, -⟩ := told_yes W R hp ht
          rw [b1, bS]; simp only []
          rw [if_neg (by decide), num_no ht b3 (fun i d q hi => hd ⟨p, i, d, hp, rfl, q, ht, hi⟩), bS, if_pos (by decide)]
          exact ⟨ν1, rfl, b2⟩
        · obtain ⟨ν1, b1, b2⟩ := told_not W R hp ht
          rw [b1, bS]; simp only []; rw [if_pos (by decide)]; exact ⟨ν1, rfl, b2⟩
    obtain ⟨ν', b1, b2⟩ := hM
    refine ⟨e, μ1, ν', ?_, b1, a2, b2⟩
    rw [a1, bS]; simp only []; rw [if_pos (by decide)]
/-- all dishes are asked, and there is one -/
theorem q_some {x e : Int32} {fC fM : Mem → Option (Int32 × Mem)} {S : St} {μ ν : Mem} (W : WF S) (C : CR S μ) (R : MR S ν)
    (h : ∀ p μ ν, p < nPg S → x = nI p → told S p → 0 < (dl S p).length → On S p μ → MR S ν → Fnd S p ν → ∃ r μ' ν', fC μ = some (r, μ') ∧ fM ν = some (r, ν') ∧ CR S μ' ∧ MR S ν') :
    ∃ r μ' ν', ((B_laid x μ).bind fun (x1, μ2) => if 0 < x1 then fC μ2 else some (e, μ2)) = some (r, μ') ∧ ((M_isTold x ν).bind fun (x1, μ2) => if x1 = 0 then some (e, μ2) else if (mI μ2 1342 0 0) = 0 then some (e, μ2) else fM μ2) = some (r, ν') ∧ CR S μ' ∧ MR S ν' := by
  rcases arg_n x (nPg S) (by have := W.pg.1; omega) with hx | ⟨p, hp, rfl⟩
  · refine ⟨e, μ, ν, ?_, ?_, C, R⟩
    · rw [laid_out C hx, bS]; simp only []; rw [if_neg (by decide)]
    · rw [told_out W R hx, bS]; simp only []; rw [if_pos (by decide)]
  · obtain ⟨μ1, a1, a2, -⟩ := laid_eq W C hp
    rw [a1, bS]
    simp only []
    by_cases ht : told S p
    · obtain ⟨ν1, b1, b2, b3, -⟩ := told_yes W R hp ht
      have h5 := dl_le ht
      rw [cnt_told ht, b1, bS]
      simp only []
      rw [if_neg (c := nI 1 = 0) (by decide), b3.1]
      by_cases h0 : 0 < (dl S p).length
      · rw [if_pos ((gt0_n (by omega)).mpr h0), if_neg (fun q => absurd ((eq0_n (by omega)).mp q) (by omega))]
        exact h p μ1 ν1 hp rfl ht h0 a2 b2 b3
      · rw [if_neg (fun q => h0 ((gt0_n (by omega)).mp q)), if_pos ((eq0_n (by omega)).mpr (by omega))]
        exact ⟨e, μ1, ν1, rfl, rfl, a2.1, b2⟩
    · obtain ⟨ν1, b1, b2⟩ := told_not W R hp ht
      rw [cnt_not ht, b1, bS]
      simp only []
      rw [if_neg (by decide), if_pos (by decide)]
      exact ⟨e, μ1, ν1, rfl, rfl, a2.1, b2⟩
/-- all dishes are asked -/
theorem q_all {x e : Int32} {fC fM : Mem → Option (Int32 × Mem)} {S : St} {μ ν : Mem} (W : WF S) (C : CR S μ) (R : MR S ν)
    (h : ∀ p μ ν, p < nPg S → x = nI p → told S p → On S p μ → MR S ν → Fnd S p ν → ∃ r μ' ν', fC μ = some (r, μ') ∧ fM ν = some (r, ν') ∧ CR S μ' ∧ MR S ν') :
    ∃ r μ' ν', ((B_laid x μ).bind fun (x1, μ2) => if x1 < 0 then some (e, μ2) else fC μ2) = some (r, μ') ∧ ((M_isTold x ν).bind fun (x1, μ2) => if x1 = 0 then some (e, μ2) else fM μ2) = some (r, ν') ∧ CR S μ' ∧ MR S ν' := by
  rcases arg_n x (nPg S) (by have := W.pg.1; omega) with hx | ⟨p, hp, rfl⟩
  · refine ⟨e, μ, ν, ?_, ?_, C, R⟩
    · rw [laid_out C hx, bS]; simp only []; rw [if_pos (by decide)]
    · rw [told_out W R hx, bS]; simp only []; rw [if_pos (by decide)]
  · obtain ⟨μ1, a1, a2, -⟩ := laid_eq W C hp
    rw [a1, bS]
    simp only []
    by_cases ht : told S p
    · obtain ⟨ν1, b1, b2, b3, -⟩ := told_yes W R hp ht
      have h5 := dl_le ht
      rw [cnt_told ht, b1, bS]
      simp only []
      rw [if_neg (c := nI 1 = 0) (by decide), if_neg (nI_pos (by omega))]
      exact h p μ1 ν1 hp rfl ht a2 b2 b3
    · obtain ⟨ν1, b1, b2⟩ := told_not W R hp ht
      rw [cnt_not ht, b1, bS]
      simp only []
      rw [if_pos (by decide), if_pos (by decide)]
      exact ⟨e, μ1, ν1, rfl, rfl, a2.1, b2⟩
/-! loops over dishes -/
def fo {A : Type} (g : Nat → A → A) : Nat → Nat → A → A
  | _, 0, a => a
  | k, m + 1, a => fo g (k + 1) m (g k a)
theorem fo_congr {A : Type} {g h : Nat → A → A} (I : Nat → A → Prop) : ∀ {m k : Nat} {a : A}, I k a → (∀ i a, k ≤ i → i < k + m → I i a → g i a = h i a ∧ I (i + 1) (g i a)) → fo g k m a = fo h k m a := by
  intro m
  induction m with
  | zero => intro k a _ _; rfl
  | succ m ih =>
    intro k a hI hh
    obtain ⟨h1, h2⟩ := hh k a (Nat.le_refl _) (by omega) hI
    show fo g (k + 1) m (g k a) = fo h (k + 1) m (h k a)
    rw [← h1]
    exact ih h2 fun i a h3 h4 h5 => hh i a (by omega) (by omega) h5
theorem fo_inv {A : Type} {g : Nat → A → A} (I : Nat → A → Prop) : ∀ {m k : Nat} {a : A}, I k a → (∀ i a, k ≤ i → i < k + m → I i a → I (i + 1) (g i a)) → I (k + m) (fo g k m a) := by
  intro m
  induction m with
  | zero => intro k a h _; exact h
  | succ m ih =>
    intro k a hI hh
    rw [show k + (m + 1) = k + 1 + m by omega]
    exact ih (hh k a (Nat.le_refl _) (by omega) hI) fun i a h3 h4 h5 => hh i a (by omega) (by omega) h5
def dx (S : St) (p i : Nat) : Nat := (dl S p).getD i 0
theorem dx_of {S : St} {p i d : Nat} (h : (dl S p)[i]? = some d) : dx S p i = d := by
  unfold dx
  rw [List.getD_eq_getElem?_getD, h]; rfl
theorem dx_at {S : St} {p i : Nat} (h : i < (dl S p).length) : (dl S p)[i]? = some (dx S p i) := by
  have := List.getElem?_eq_getElem h
  rw [dx_of this]; exact this
theorem C_over {A R : Type} (L : Nat → Int32 → A × Mem → Option R) (g : Nat → A → A) (fin : A → Mem → R) (J : Nat → A → Mem → Prop) {S : St} {p : Nat} (ht : told S p)
    (hs : ∀ f i acc μ, i < (dl S p).length → (dl S p)[i]? = some (dx S p i) → On S p μ → J i acc μ → ∃ μ', L (f + 1) (nI i) (acc, μ) = L f (nI (i + 1)) (g i acc, μ') ∧ On S p μ' ∧ J (i + 1) (g i acc) μ')
    (he : ∀ f acc μ, On S p μ → L (f + 1) (nI (dl S p).length) (acc, μ) = some (fin acc μ)) {k : Nat} {acc : A} {μ : Mem} (hk : k ≤ (dl S p).length) (h : On S p μ) (hJ : J k acc μ) :
    ∃ μ', L FU (nI k) (acc, μ) = some (fin (fo g k ((dl S p).length - k) acc) μ') ∧ On S p μ' ∧ J (dl S p).length (fo g k ((dl S p).length - k) acc) μ' := by
  have h5 := dl_le ht
  have key : ∀ m k f acc μ, k + m = (dl S p).length → m < f → On S p μ → J k acc μ → ∃ μ', L f (nI k) (acc, μ) = some (fin (fo g k m acc) μ') ∧ On S p μ' ∧ J (dl S p).length (fo g k m acc) μ' := by
    intro m
    induction m with
    | zero =>
      intro k f acc μ hk hf h1 h2
      obtain ⟨f, rfl⟩ : ∃ g, f = g + 1 := ⟨f - 1, by omega⟩
      have : k = (dl S p).length := by omega
      subst this
      exact ⟨μ, he f acc μ h1, h1, h2⟩
    | succ m ih =>
      intro k f acc μ hk hf h1 h2
      obtain ⟨f, rfl⟩ : ∃ g, f = g + 1 := ⟨f - 1, by omega⟩
      obtain ⟨μ1, a1, a2, a3⟩ := hs f k acc μ (by omega) (dx_at (by omega)) h1 h2
      obtain ⟨μ2, b1, b2, b3⟩ := ih (k + 1) f (g k acc) μ1 (by omega) (by omega) a2 a3
      exact ⟨μ2, a1.trans b1, b2, b3⟩
  exact key _ k FU acc μ (by omega) (FU_lt (by omega)) h hJ
theorem M_over {A R : Type} (L : Nat → Int32 → A × Mem → Option R) (g : Nat → A → A) (fin : A → Mem → R) (J : Nat → A → Mem → Prop) {S : St} {p : Nat} (ht : told S p)
    (hs : ∀ f i acc ν, i < (dl S p).length → (dl S p)[i]? = some (dx S p i) → MR S ν → Fnd S p ν → J i acc ν → ∃ ν', L (f + 1) (nI i) (acc, ν) = L f (nI (i + 1)) (g i acc, ν') ∧ MR S ν' ∧ Fnd S p ν' ∧ J (i + 1) (g i acc) ν')
    (he : ∀ f acc ν, MR S ν → Fnd S p ν → L (f + 1) (nI (dl S p).length) (acc, ν) = some (fin acc ν)) {k : Nat} {acc : A} {ν : Mem} (hk : k ≤ (dl S p).length) (h : MR S ν) (hF : Fnd S p ν) (hJ : J k acc ν) :
    ∃ ν', L FU (nI k) (acc, ν) = some (fin (fo g k ((dl S p).length - k) acc) ν') ∧ MR S ν' ∧ Fnd S p ν' ∧ J (dl S p).length (fo g k ((dl S p).length - k) acc) ν' := by
  have h5 := dl_le ht
  have key : ∀ m k f acc ν, k + m = (dl S p).length → m < f → MR S ν → Fnd S p ν → J k acc ν → ∃ ν', L f (nI k) (acc, ν) = some (fin (fo g k m acc) ν') ∧ MR S ν' ∧ Fnd S p ν' ∧ J (dl S p).length (fo g k m acc) ν' := by
    intro m
    induction m with
    | zero =>
      intro k f acc ν hk hf h1 hF h2
      obtain ⟨f, rfl⟩ : ∃ g, f = g + 1 := ⟨f - 1, by omega⟩
      have : k = (dl S p).length := by omega
      subst this
      exact ⟨ν, he f acc ν h1 hF, h1, hF, h2⟩
    | succ m ih =>
      intro k f acc ν hk hf h1 hF h2
      obtain ⟨f, rfl⟩ : ∃ g, f = g + 1 := ⟨f - 1, by omega⟩
      obtain ⟨ν1, a1, a2, a3, a4⟩ := hs f k acc ν (by omega) (dx_at (by omega)) h1 hF h2
      obtain ⟨ν2, b1, b2, b3, b4⟩ := ih (k + 1) f (g k acc) ν1 (by omega) (by omega) a2 a3 a4
      exact ⟨ν2, a1.trans b1, b2, b3, b4⟩
  exact key _ k FU acc ν (by omega) (FU_lt (by omega)) h hF hJ
theorem shown_n {S : St} {p : Nat} {μ : Mem} (W : WF S) (h : On S p μ) (ht : told S p) : Pot_shownCount μ = some (nI (dl S p).length) := by
  have h16 := W.pg.1
  have hp := h.2.1
  unfold Pot_shownCount
  rw [h.2.2.1, if_neg (fun q => (m1_n (by omega)).mp q), rd_n (by omega) (by decide), h.cnt.1, cnt_told ht, bS]
theorem On.fr {S : St} {p : Nat} {W : List Nat} {μ μ' : Mem} (h : On S p μ) (F : Fr W μ μ') (hW : nIn W CRv = true) : On S p μ' :=
  ⟨h.1.fr F hW, h.2.1, by rw [F.i 912 (nIn_of (L := CRv) hW (by unfold CRv; simp))]; exact h.2.2.1, by rw [F.i 909 (nIn_of (L := CRv) hW (by unfold CRv; simp))]; exact h.2.2.2⟩
/-- worth of the dish shown -/
def wthP (S : St) (p d l : Nat) : Int32 := wthF S p (prtP S p d) l
theorem shw_val {S : St} {p d l : Nat} {μ : Mem} (W : WF S) (h : On S p μ) (hs : Shw S p d μ) (hl : l < nLw S) : ∃ μ', Laws_valueOf (nI l) μ = some (wthP S p d l, μ') ∧ On S p μ' ∧ Fr [502, 503] μ μ' := by
  obtain ⟨μ', a1, a2⟩ := val_C (f := prtP S p d) W h.1.lw hl hs.2
  exact ⟨μ', a1, h.fr a2 (by decide), a2⟩
theorem wnt_val {S : St} {p d l : Nat} {ν : Mem} (W : WF S) (h : MR S ν) (hs : Wnt S p d ν) (hl : l < nLw S) : ∃ ν', M_worthNow (nI l) ν = some (wthP S p d l, ν') ∧ MR S ν' ∧ Fr [1333] ν ν' := by
  obtain ⟨ν', a1, a2⟩ := val_M (f := prtP S p d) W h.lw hl hs.2
  exact ⟨ν', a1, h.fr a2 (by decide), a2⟩
/-- what both ask of a law -/
theorem law_arg {S : St} (W : WF S) (x : Int32) : outN x (nLw S) ∨ ∃ l, l < nLw S ∧ x = nI l := arg_n x (nLw S) (by have := W.lw.1; omega)
theorem pg_arg {S : St} (W : WF S) (x : Int32) : outN x (nPg S) ∨ ∃ l, l < nPg S ∧ x = nI l := arg_n x (nPg S) (by have := W.pg.1; omega)
theorem th_arg {S : St} (W : WF S) (x : Int32) : outN x (nTh S) ∨ ∃ l, l < nTh S ∧ x = nI l := arg_n x (nTh S) (by have := W.th.1; omega)
theorem dy_arg {S : St} (W : WF S) (x : Int32) : outN x (nDy S) ∨ ∃ l, l < nDy S ∧ x = nI l := arg_n x (nDy S) (by have := W.dy.1; omega)
theorem bk_arg {S : St} (W : WF S) (x : Int32) : outN x (nBk S) ∨ ∃ l, l < nBk S ∧ x = nI l := arg_n x (nBk S) (by have := W.bk.1; omega)
theorem hasL0 {S : St} {x : Int32} {μ : Mem} (C : CR S μ) (h : outN x (nLw S)) : Laws_has x μ = some (nI 0) := lwh_out C.lw.1 h
theorem hasL1 {S : St} {l : Nat} {μ : Mem} (W : WF S) (C : CR S μ) (h : l < nLw S) : Laws_has (nI l) μ = some (nI 1) := lwh_in C.lw.1 (by have := W.lw.1; omega) h
theorem isL0 {S : St} {x : Int32} {ν : Mem} (W : WF S) (R : MR S ν) (h : outN x (nLw S)) : M_isLaw x ν = some (nI 0) := mlw_out R.lw.1 (by have := W.lw.1; omega) h
theorem isL1 {S : St} {l : Nat} {ν : Mem} (W : WF S) (R : MR S ν) (h : l < nLw S) : M_isLaw (nI l) ν = some (nI 1) := mlw_in R.lw.1 (by have := W.lw.1; omega) h
theorem hasT0 {S : St} {x : Int32} {μ : Mem} (C : CR S μ) (h : outN x (nTh S)) : Pantry_has x μ = some (nI 0) := thh_out C.th.1 h
theorem hasT1 {S : St} {l : Nat} {μ : Mem} (W : WF S) (C : CR S μ) (h : l < nTh S) : Pantry_has (nI l) μ = some (nI 1) := thh_in C.th.1 (by have := W.th.1; omega) h
theorem isT0 {S : St} {x : Int32} {ν : Mem} (W : WF S) (R : MR S ν) (h : outN x (nTh S)) : M_isThing x ν = some (nI 0) := mth_out R.th.1 (by have := W.th.1; omega) h
theorem isT1 {S : St} {l : Nat} {ν : Mem} (W : WF S) (R : MR S ν) (h : l < nTh S) : M_isThing (nI l) ν = some (nI 1) := mth_in R.th.1 (by have := W.th.1; omega) h
theorem hasP0 {S : St} {x : Int32} {μ : Mem} (C : CR S μ) (h : outN x (nPg S)) : Pages_has x μ = some (nI 0) := pgh_out C.pg.1 h
theorem hasP1 {S : St} {l : Nat} {μ : Mem} (W : WF S) (C : CR S μ) (h : l < nPg S) : Pages_has (nI l) μ = some (nI 1) := pgh_in C.pg.1 (by have := W.pg.1; omega) h
theorem isP0 {S : St} {x : Int32} {ν : Mem} (W : WF S) (R : MR S ν) (h : outN x (nPg S)) : M_isPage x ν = some (nI 0) := mpg_out R.pg.1 (by have := W.pg.1; omega) h
theorem isP1 {S : St} {l : Nat} {ν : Mem} (W : WF S) (R : MR S ν) (h : l < nPg S) : M_isPage (nI l) ν = some (nI 1) := mpg_in R.pg.1 (by have := W.pg.1; omega) h
theorem hasD0 {S : St} {x : Int32} {μ : Mem} (C : CR S μ) (h : outN x (nDy S)) : Account_has x μ = some (nI 0) := dyh_out C.dy.1 h
theorem hasD1 {S : St} {l : Nat} {μ : Mem} (W : WF S) (C : CR S μ) (h : l < nDy S) : Account_has (nI l) μ = some (nI 1) := dyh_in C.dy.1 (by have := W.dy.1; omega) h
theorem isD0 {S : St} {x : Int32} {ν : Mem} (W : WF S) (R : MR S ν) (h : outN x (nDy S)) : M_isDay x ν = some (nI 0) := mdy_out R.dy.1 (by have := W.dy.1; omega) h
theorem isD1 {S : St} {l : Nat} {ν : Mem} (W : WF S) (R : MR S ν) (h : l < nDy S) : M_isDay (nI l) ν = some (nI 1) := mdy_in R.dy.1 (by have := W.dy.1; omega) h
/-- the place of a thing on a page: the same in both -/
def plcR (S : St) (p : Nat) (x : Int32) (o : Int32) : Prop := (o = -1 ∧ ∀ k, k < mT S p → ¬ x = nI (sN S 703 p k)) ∨ ∃ k, k < mT S p ∧ o = nI k ∧ x = nI (sN S 703 p k)
theorem place_C {S : St} {p : Nat} {μ : Mem} (W : WF S) (C : C_pg S μ) (hp : p < nPg S) (x : Int32) : ∃ o, Pages_placeOf (nI p) x μ = some o ∧ plcR S p x o := by
  have h16 := W.pg.1
  have hm8 := (W.pg.2.1 p hp).1.2
  have cp := C.2.1 p hp
  refine loopE (fun f v (_ : Unit) => Pages_placeOf_l1 (nI p) x μ f v) (mT S p) (fun c _ => ∀ k, k < c → ¬ x = nI (sN S 703 p k)) (fun r => plcR S p x r) ?_ ?_ (mT S p) 0 () FU (by omega) (FU_lt (by omega)) (fun k h => absurd h (by omega))
  · rintro f k - hk hI
    show (∃ s', Pages_placeOf_l1b (nI p) x μ (Pages_placeOf_l1 (nI p) x μ f) (nI k) = _ ∧ _) ∨ (∃ r, Pages_placeOf_l1b (nI p) x μ (Pages_placeOf_l1 (nI p) x μ f) (nI k) = _ ∧ _)
    unfold Pages_placeOf_l1b
    rw [rd_n (by omega) (by decide), cp.1, bS, if_pos ((lt_n (by omega) (by omega)).mpr hk), ix_n (by omega) (by decide), bS, rd_n (by omega) (by decide), (cp.2.1 k hk).1, bS]
    by_cases e : x = nI (sN S 703 p k)
    · right
      rw [if_pos e.symm]
      exact ⟨_, rfl, Or.inr ⟨k, hk, rfl, e⟩⟩
    · left
      rw [if_neg (fun q => e q.symm), bS, add_n]
      refine ⟨(), rfl, fun j hj => ?_⟩
      by_cases e' : j = k
      · subst e'; exact e
      · exact hI j (by omega)
  · rintro f - hI
    refine ⟨-1, ?_, Or.inl ⟨rfl, hI⟩⟩
    show Pages_placeOf_l1b (nI p) x μ (Pages_placeOf_l1 (nI p) x μ f) (nI (mT S p)) = _
    unfold Pages_placeOf_l1b
    rw [rd_n (by omega) (by decide), cp.1, bS, if_neg (fun q => absurd ((lt_n (by omega) (by omega)).mp q) (by omega))]
theorem place_M {S : St} {p : Nat} {ν : Mem} (W : WF S) (R : M_pg S ν) (hp : p < nPg S) (x : Int32) : ∃ o, M_onPage (nI p) x ν = some o ∧ plcR S p x o := by
  have h16 := W.pg.1
  have hm8 := (W.pg.2.1 p hp).1.2
  have cp := R.2 p hp
  refine loopE (fun f v (_ : Unit) => M_onPage_l1 (nI p) x ν f v) (mT S p) (fun c _ => ∀ k, k < c → ¬ x = nI (sN S 703 p k)) (fun r => plcR S p x r) ?_ ?_ (mT S p) 0 () FU (by omega) (FU_lt (by omega)) (fun k h => absurd h (by omega))
  · rintro f k - hk hI
    show (∃ s', M_onPage_l1b (nI p) x ν (M_onPage_l1 (nI p) x ν f) (nI k) = _ ∧ _) ∨ (∃ r, M_onPage_l1b (nI p) x ν (M_onPage_l1 (nI p) x ν f) (nI k) = _ ∧ _)
    unfold M_onPage_l1b
    rw [rd_n (by omega) (by decide), cp.1, bS, if_pos ((lt_n (by omega) (by omega)).mpr hk), mul_n, add_n, rd_n (by omega) (by decide), (cp.2.1 k hk).1, bS]
    by_cases e : x = nI (sN S 703 p k)
    · right
      rw [if_pos e.symm]
      exact ⟨_, rfl, Or.inr ⟨k, hk, rfl, e⟩⟩
    · left
      rw [if_neg (fun q => e q.symm), bS, add_n]
      refine ⟨(), rfl, fun j hj => ?_⟩
      by_cases e' : j = k
      · subst e'; exact e
      · exact hI j (by omega)
  · rintro f - hI
    refine ⟨-1, ?_, Or.inl ⟨rfl, hI⟩⟩
    show M_onPage_l1b (nI p) x ν (M_onPage_l1 (nI p) x ν f) (nI (mT S p)) = _
    unfold M_onPage_l1b
    rw [rd_n (by omega) (by decide), cp.1, bS, if_neg (fun q => absurd ((lt_n (by omega) (by omega)).mp q) (by omega))]
theorem plc_one {S : St} {p : Nat} {x o o' : Int32} (W : WF S) (hp : p < nPg S) (h : plcR S p x o) (h' : plcR S p x o') : o = o' := by
  have w := (W.pg.2.1 p hp)
  have h12 := W.th.1
  rcases h with ⟨rfl, h⟩ | ⟨k, hk, rfl, h⟩
  · rcases h' with ⟨rfl, -⟩ | ⟨k', hk', -, h'⟩
    · rfl
    · exact absurd h' (h k' hk')
  · rcases h' with ⟨rfl, h'⟩ | ⟨k', hk', rfl, h'⟩
    · exact absurd h (h' k hk)
    · have t1 := (w.2.1 k hk).1
      have t2 := (w.2.1 k' hk').1
      rw [h] at h'
      rw [w.2.2.1 k k' hk hk' ((eq_n (by omega) (by omega)).mp h')]
/-- what place_C and place_M answer -/
theorem place_both {S : St} {p : Nat} {μ ν : Mem} (W : WF S) (C : C_pg S μ) (R : M_pg S ν) (hp : p < nPg S) (x : Int32) : ∃ o, Pages_placeOf (nI p) x μ = some o ∧ M_onPage (nI p) x ν = some o ∧ plcR S p x o := by
  obtain ⟨o, a1, a2⟩ := place_C W C hp x
  obtain ⟨o', b1, b2⟩ := place_M W R hp x
  rw [plc_one W hp b2 a2] at b1
  exact ⟨o, a1, b1, a2⟩
/-! dishes, dish, worth -/
theorem q_dishes (x : Int32) : Cmd (B_dishes x) (M_dishes x) := by
  intro S μ ν W C R
  unfold B_dishes M_dishes
  rcases pg_arg W x with hx | ⟨p, hp, rfl⟩
  · rw [laid_out C hx, told_out W R hx, bS, bS]; simp only []; rw [if_pos (by decide)]; exact ⟨_, _, _, rfl, rfl, C, R⟩
  · obtain ⟨μ1, a1, a2, -⟩ := laid_eq W C hp
    rw [a1, bS]
    by_cases ht : told S p
    · obtain ⟨ν1, b1, b2, b3, -⟩ := told_yes W R hp ht
      rw [b1, bS]; simp only []; rw [if_neg (by decide), b3.1, cnt_told ht]; exact ⟨_, _, _, rfl, rfl, a2.1, b2⟩
    · obtain ⟨ν1, b1, b2⟩ := told_not W R hp ht
      rw [b1, bS]; simp only []; rw [if_pos (by decide), cnt_not ht]; exact ⟨_, _, _, rfl, rfl, a2.1, b2⟩
theorem partsOf_C {S : St} {p d : Nat} {μ : Mem} (W : WF S) (h : On S p μ) (hs : Shw S p d μ) {x o : Int32} (ho : plcR S p x o) : Pot_partsOf x μ = some (if o = -1 then nI 0 else mI μ 917 0 (nv o)) := by
  have h16 := W.pg.1
  have hp := h.2.1
  have hm8 := (W.pg.2.1 p hp).1.2
  obtain ⟨o', a1, a2⟩ := place_C W h.1.pg hp x
  rw [plc_one W hp a2 ho] at a1
  unfold Pot_partsOf
  rw [h.2.2.1, if_neg (fun q => (m1_n (by omega)).mp q), a1, bS, bS]
  rcases ho with ⟨rfl, -⟩ | ⟨k, hk, rfl, -⟩
  · rw [if_pos rfl, if_pos rfl]
  · rw [if_neg (fun q => (m1_n (by omega)).mp q), if_neg (fun q => (m1_n (by omega)).mp q), rd_n (by omega) (by decide), bS, nv_nI (by omega)]
theorem q_dish_ (x y z : Int32) : Cmd (B_dish x y z) (M_dish x y z) := by
  intro S μ ν W C R
  unfold B_dish M_dish
  rcases th_arg W z with hz | ⟨t, ht, rfl⟩
  · rw [hasT0 C hz, isT0 W R hz, bS, bS, if_pos (by decide), if_pos (by decide)]; exact ⟨_, _, _, rfl, rfl, C, R⟩
  · rw [hasT1 W C ht, isT1 W R ht, bS, bS, if_neg (by decide), if_neg (by decide)]
    refine q_dish (fC := fun μ3 => (Pot_partsOf (nI t) μ3).bind fun x4 => some (x4, μ3)) (fM := fun μ5 => (M_onPage x (nI t) μ5).bind fun x6 => if x6 = (-1) then some ((nI 0), μ5) else (mRd μ5 1340 0 8 x6).bind fun x7 => some (x7, μ5)) W C R ?_
    rintro p i d μ ν hd hO hS hR hW
    obtain ⟨hp, rfl, -, -, -⟩ := hd
    have hm8 := (W.pg.2.1 p hp).1.2
    obtain ⟨o, a1, a2⟩ := place_M W hR.pg hp (nI t)
    simp only [partsOf_C W hO hS a2, a1, bS]
    rcases a2 with ⟨rfl, -⟩ | ⟨k, hk, rfl, -⟩
    · rw [if_pos rfl, if_pos rfl]; exact ⟨_, _, _, rfl, rfl, hO.1, hR⟩
    · rw [if_neg (fun q => (m1_n (by omega)).mp q), if_neg (fun q => (m1_n (by omega)).mp q), rd_n (by omega) (by decide), bS, nv_nI (by omega), hS.1 k hk, hW.1 k hk]
      exact ⟨_, _, _, rfl, rfl, hO.1, hR⟩
theorem q_worth (x y z : Int32) : Cmd (B_worth x y z) (M_worth x y z) := by
  intro S μ ν W C R
  unfold B_worth M_worth
  rcases law_arg W z with hz | ⟨l, hl, rfl⟩
  · rw [hasL0 C hz, isL0 W R hz, bS, bS, if_pos (by decide), if_pos (by decide)]; exact ⟨_, _, _, rfl, rfl, C, R⟩
  · rw [hasL1 W C hl, isL1 W R hl, bS, bS, if_neg (by decide), if_neg (by decide)]
    refine q_dish (fC := fun μ3 => (Laws_valueOf (nI l) μ3).bind fun (x4, μ5) => some (x4, μ5)) (fM := fun μ5 => (M_worthNow (nI l) μ5).bind fun (x6, μ7) => some (x6, μ7)) W C R ?_
    rintro p i d μ ν hd hO hS hR hW
    obtain ⟨μ1, a1, a2, -⟩ := shw_val W hO hS hl
    obtain ⟨ν1, b1, b2, -⟩ := wnt_val W hR hW hl
    simp only [a1, b1, bS]
    exact ⟨_, _, _, rfl, rfl, a2.1, b2⟩
