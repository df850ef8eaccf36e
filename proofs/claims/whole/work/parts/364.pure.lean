/-! PURE: conditions of a law that is read, in both -/
def LockP (S : St) (l p dep : Nat) (P : List Nat → Prop) (d : Nat) (bl : Bool) (B : Mem → Option (Int32 × Mem)) (M : Mem → Option Mem) : Prop := ∀ (i : Nat) (X Y c : List Nat) (μ ν : Mem), K_C S i μ → K_M S i ν → i ≤ nTp S → mI μ 504 0 0 = nI l → mI ν 1331 0 0 = nI p → mI ν 1305 0 0 = nI dep → LC l (X ++ c) μ → LM p (Y ++ c) ν → X.length + c.length ≤ i → Y.length + c.length ≤ i → P c →
  (∃ j μ' ν', j ≤ nTp S ∧ B μ = some (nI 0, μ') ∧ mI μ' 1003 0 0 = nI j ∧ Ft (XL l) μ μ' ∧ M ν = some ν' ∧ FM p j ν' ∧ Ft (XLM p) ν ν') ∨
  ∃ c' i' μ' ν', Frag d bl c' ∧ i + c'.length ≤ i' + c.length ∧ i' ≤ nTp S ∧ B μ = some (nI 1, μ') ∧ K_C S i' μ' ∧ LC l (X ++ c') μ' ∧ Ft (XL l) μ μ' ∧ M ν = some ν' ∧ K_M S i' ν' ∧ mI ν' 1305 0 0 = nI dep ∧ LM p (Y ++ c') ν' ∧ Ft (XLM p) ν ν'
def nilP (c : List Nat) : Prop := c = []
theorem Lock.toP {S : St} {l p dep d : Nat} {bl : Bool} {B : Mem → Option (Int32 × Mem)} {M : Mem → Option Mem} (h : Lock S l p dep d bl B M) : LockP S l p dep nilP d bl B M := by
  rintro i X Y c μ ν KC KM hi e4 e31 e5 hX hY hXi hYi rfl
  rw [List.append_nil] at hX hY
  rcases h i X Y μ ν KC KM hi e4 e31 e5 hX hY (by simpa using hXi) (by simpa using hYi) with h | ⟨c', i', μ', ν', r1, r2, r⟩
  · exact Or.inl h
  · exact Or.inr ⟨c', i', μ', ν', r1, by simpa using r2, r⟩
theorem LockP.of {S : St} {l p dep d : Nat} {bl : Bool} {B : Mem → Option (Int32 × Mem)} {M : Mem → Option Mem} (h : LockP S l p dep nilP d bl B M) : Lock S l p dep d bl B M := by
  intro i X Y μ ν KC KM hi e4 e31 e5 hX hY hXi hYi
  rcases h i X Y [] μ ν KC KM hi e4 e31 e5 (by rw [List.append_nil]; exact hX) (by rw [List.append_nil]; exact hY) (by simpa using hXi) (by simpa using hYi) rfl with h | ⟨c', i', μ', ν', r1, r2, r⟩
  · exact Or.inl h
  · exact Or.inr ⟨c', i', μ', ν', r1, by simpa using r2, r⟩
def Stay (p : Nat) (M : Mem → Option Mem) : Prop := ∀ j ν, j < 1000000 → FM p j ν → ∃ ν', M ν = some ν' ∧ FM p j ν' ∧ Ft (XLM p) ν ν'
theorem seq_L {S : St} {l p dep d1 d : Nat} {b1 bl : Bool} {P : List Nat → Prop} {B1 B2 : Mem → Option (Int32 × Mem)} {M1 M2 : Mem → Option Mem} (W : W_tp S) (h1 : LockP S l p dep P d1 b1 B1 M1) (h2 : LockP S l p dep (Frag d1 b1) d bl B2 M2) (hst : Stay p M2) : LockP S l p dep P d bl (fun μ => (B1 μ).bind fun (x1, μ2) => if x1 = 0 then (mRz (nI 0)).bind fun z => some (z, μ2) else B2 μ2) (fun ν => (M1 ν).bind M2) := by
  intro i X Y c μ ν KC KM hi e4 e31 e5 hX hY hXi hYi hP
  have hn := W.1
  simp only []
  rcases h1 i X Y c μ ν KC KM hi e4 e31 e5 hX hY hXi hYi hP with ⟨j, μ', ν', r1, r2, r3, r4, r5, r6, r7⟩ | ⟨c', i', μ', ν', r1, r2, r3, r4, r5, r6, r7, r8, r9, r10, r11, r12⟩
  · left
    obtain ⟨ν2, t1, t2, t3⟩ := hst j ν' (by omega) r6
    refine ⟨j, μ', ν2, r1, ?_, r3, r4, by rw [r5, bS, t1], t2, r7.trans t3⟩
    rw [r2, bS]
    simp only []
    rw [if_pos z00, rz_0, bS]
  · rw [r4, bS, r8, bS]
    simp only []
    rw [if_neg n10]
    rcases h2 i' X Y c' μ' ν' r5 r9 r3 (by rw [xl4 r7]; exact e4) (by rw [xlm31 r12]; exact e31) r10 r6 r11 (by omega) (by omega) r1 with ⟨j, μ5, ν5, t1, t2, t3, t4, t5, t6, t7⟩ | ⟨c5, i5, μ5, ν5, t1, t2, t3, t4, t5, t6, t7, t8, t9, t10, t11, t12⟩
    · exact Or.inl ⟨j, μ5, ν5, t1, t2, t3, r7.trans t4, t5, t6, r12.trans t7⟩
    · exact Or.inr ⟨c5, i5, μ5, ν5, t1, by omega, t3, t4, t5, t6, r7.trans t7, t8, t9, t10, t11, r12.trans t12⟩
/-! loops over and, or -/
def hC (c s : Nat) (r : Mem → Option (Int32 × Mem)) (rec : Int32 → Mem → Option (Int32 × Mem)) (v3 : Int32) (μ : Mem) : Option (Int32 × Mem) :=
  if v3 < (nI 120) then ((Tape_takes (nI c) μ).bind fun (x1, μ2) => if x1 = 0 then (mRz (nI 1)).bind fun z => some (z, μ2) else (r μ2).bind fun (x3, μ4) => if x3 = 0 then (mRz (nI 0)).bind fun z => some (z, μ4) else (Laws_emit (nI s) μ4).bind fun μ5 => (some (v3 + (nI 1))).bind fun x6 => rec x6 μ5) else (mRz (nI 1)).bind fun z => some (z, μ)
def hCl (c s : Nat) (r : Mem → Option (Int32 × Mem)) : Nat → Int32 → Mem → Option (Int32 × Mem)
  | 0 => fun _ _ => none
  | n + 1 => hC c s r (hCl c s r n)
def hM (c k : Nat) (r : Mem → Option Mem) (rec : Mem → Option Mem) (μ : Mem) : Option Mem :=
  if (mI μ 1304 0 0) = (-1) then ((M_look μ).bind fun (x1, μ2) => if x1 = (nI c) then ((some (mSI μ2 1303 0 0 ((mI μ2 1303 0 0) + (nI 1)))).bind fun μ3 => (r μ3).bind fun μ4 => (M_put (nI k) (nI 0) μ4).bind fun μ5 => rec μ5) else some μ2) else some μ
def hMl (c k : Nat) (r : Mem → Option Mem) : Nat → Mem → Option Mem
  | 0 => fun _ => none
  | n + 1 => hM c k r (hMl c k r n)
theorem truthC_g {rT : Int32 → Int32 → Mem → Option (Int32 × Mem)} {a : Int32} : ∀ n, LawReader_truth_l1 rT a n = hCl 38 10107 (rT a (nI 0)) n := by
  intro n
  induction n with
  | zero => rfl
  | succ n ih => show LawReader_truth_l1b rT a (LawReader_truth_l1 rT a n) = hC 38 10107 (rT a (nI 0)) (hCl 38 10107 (rT a (nI 0)) n); rw [ih]; rfl
theorem condC_g {rT : Int32 → Int32 → Mem → Option (Int32 × Mem)} {a : Int32} : ∀ n, LawReader_condition_l1 rT a n = hCl 124 10108 (rT a (nI 0)) n := by
  intro n
  induction n with
  | zero => rfl
  | succ n ih => show LawReader_condition_l1b rT a (LawReader_condition_l1 rT a n) = hC 124 10108 (rT a (nI 0)) (hCl 124 10108 (rT a (nI 0)) n); rw [ih]; rfl
theorem truthM_g {rT : Mem → Option Mem} : ∀ n, M_truth_l1 rT n = hMl 38 10 rT n := by
  intro n
  induction n with
  | zero => rfl
  | succ n ih => show M_truth_l1b rT (M_truth_l1 rT n) = hM 38 10 rT (hMl 38 10 rT n); rw [ih]; rfl
theorem condM_g {rT : Mem → Option Mem} : ∀ n, M_condition_l1 rT n = hMl 124 11 rT n := by
  intro n
  induction n with
  | zero => rfl
  | succ n ih => show M_condition_l1b rT (M_condition_l1 rT n) = hM 124 11 rT (hMl 124 11 rT n); rw [ih]; rfl
theorem goOn1_g : ∀ n, M_goOn_l1 n = hMl 38 10 (M_unit RF) n := by
  intro n
  induction n with
  | zero => rfl
  | succ n ih => show M_goOn_l1b (M_goOn_l1 n) = hM 38 10 (M_unit RF) (hMl 38 10 (M_unit RF) n); rw [ih]; rfl
theorem goOn2_g : ∀ n, M_goOn_l2 n = hMl 124 11 (M_truth RF) n := by
  intro n
  induction n with
  | zero => rfl
  | succ n ih => show M_goOn_l2b (M_goOn_l2 n) = hM 124 11 (M_truth RF) (hMl 124 11 (M_truth RF) n); rw [ih]; rfl
theorem hM_stop {p c k j : Nat} {r : Mem → Option Mem} {n : Nat} {ν : Mem} (hj : j < 1000000) (h : FM p j ν) : hMl c k r (n + 1) ν = some ν := by
  show hM c k r (hMl c k r n) ν = _
  unfold hM
  rw [h.1, if_neg (fun z => neg_n hj z.symm)]
theorem hM_stay {p c k : Nat} {r : Mem → Option Mem} {n : Nat} : Stay p (hMl c k r (n + 1)) := fun j ν hj h => ⟨ν, hM_stop hj h, h, Ft.refl⟩
theorem loop_L {S : St} {l p dep d d2 c s k : Nat} {rB : Mem → Option (Int32 × Mem)} {rM : Mem → Option Mem} (W : W_tp S) (hl : l < 7) (hp : p < 7) (hr : Lock S l p dep d2 true rB rM) (hd2 : d2 + 1 ≤ d) (hd : 2 ≤ d) (hc : c < 256) (hs : vbn s ∧ 10107 ≤ s) (hk : cdM s = k ∧ vlM s = 0) :
    ∀ {m i v f g : Nat} {X Y x : List Nat} {μ ν : Mem}, i + m = nTp S → v + 1 ≤ i → m < f → m < g → K_C S i μ → K_M S i ν → mI μ 504 0 0 = nI l → mI ν 1331 0 0 = nI p → mI ν 1305 0 0 = nI dep → LC l (X ++ x) μ → LM p (Y ++ x) ν → X.length + x.length ≤ i → Y.length + x.length ≤ i → Frag d true x →
    (∃ j μ' ν', j ≤ nTp S ∧ hCl c s rB f (nI v) μ = some (nI 0, μ') ∧ mI μ' 1003 0 0 = nI j ∧ Ft (XL l) μ μ' ∧ hMl c k rM g ν = some ν' ∧ FM p j ν' ∧ Ft (XLM p) ν ν') ∨
    ∃ x' i' μ' ν', Frag d true x' ∧ i + x'.length ≤ i' + x.length ∧ i' ≤ nTp S ∧ hCl c s rB f (nI v) μ = some (nI 1, μ') ∧ K_C S i' μ' ∧ LC l (X ++ x') μ' ∧ Ft (XL l) μ μ' ∧ hMl c k rM g ν = some ν' ∧ K_M S i' ν' ∧ mI ν' 1305 0 0 = nI dep ∧ LM p (Y ++ x') ν' ∧ Ft (XLM p) ν ν' := by
  have hn := W.1
  intro m
  induction m using Nat.strongRecOn with
  | ind m ih =>
    intro i v f g X Y x μ ν hm hv hf hg KC KM e4 e31 e5 hX hY hXi hYi hF
    obtain ⟨f, rfl⟩ : ∃ z, f = z + 1 := ⟨f - 1, by omega⟩
    obtain ⟨g, rfl⟩ : ∃ z, g = z + 1 := ⟨g - 1, by omega⟩
    have hi : i ≤ nTp S := by omega
    have hsk := skp_le hi
    obtain ⟨μ2, a1, a2, a3⟩ := takes_C (c := c) W KC hi hc
    obtain ⟨ν2, b1, b2, b3⟩ := look_M W KM hi
    have cls : hCl c s rB (f + 1) (nI v) μ = if (if lkI S i = nI c then nI 1 else nI 0) = 0 then (mRz (nI 1)).bind fun z => some (z, μ2) else (rB μ2).bind fun (x3, μ4) => if x3 = 0 then (mRz (nI 0)).bind fun z => some (z, μ4) else (Laws_emit (nI s) μ4).bind fun μ5 => hCl c s rB f (nI (v + 1)) μ5 := by
      show hC c s rB (hCl c s rB f) (nI v) μ = _
      unfold hC
      rw [if_pos ((lt_n (by omega) (by omega)).mpr (show v < 120 by omega)), a1, bS]
      simp only [bS, add_n]
    have ref : hMl c k rM (g + 1) ν = if lkI S i = nI c then ((some (mSI ν2 1303 0 0 ((mI ν2 1303 0 0) + (nI 1)))).bind fun μ3 => (rM μ3).bind fun μ4 => (M_put (nI k) (nI 0) μ4).bind fun μ5 => hMl c k rM g μ5) else some ν2 := by
      show hM c k rM (hMl c k rM g) ν = _
      unfold hM
      rw [KM.2.2, if_pos rfl, b1, bS]
    by_cases hop : lkI S i = nI c
    · rw [if_pos hop] at a2 cls ref
      rw [if_neg n10] at cls
      have hin := lk_in (by omega) hop
      have K3 : K_M S (skp S i + 1) (mSI ν2 1303 0 0 (nI (skp S i + 1))) := b2.at
      have F3 : Fr [1303] ν2 (mSI ν2 1303 0 0 (nI (skp S i + 1))) := fr_si (by simp) Fr.refl
      rw [b2.2.1, add_n, bS] at ref
      rcases hr (skp S i + 1) (X ++ x) (Y ++ x) μ2 _ a2 K3 (by omega) (by rw [a3.i 504 (by decide)]; exact e4) (by rw [F3.i 1331 (by decide), b3.i 1331 (by decide)]; exact e31) (by rw [F3.i 1305 (by decide), b3.i 1305 (by decide)]; exact e5) (hX.fr a3 (by decide)) ((hY.fr b3 (by decide)).fr F3 (by decide)) (by rw [List.length_append]; omega) (by rw [List.length_append]; omega) with ⟨j, μ', ν', r1, r2, r3, r4, r5, r6, r7⟩ | ⟨c', i', μ', ν', r1, r2, r3, r4, r5, r6, r7, r8, r9, r10, r11, r12⟩
      · left
        obtain ⟨ν4, y1, y2, y3⟩ := put_F (x := nI k) (y := nI 0) hp r6
        obtain ⟨g', rfl⟩ : ∃ z, g = z + 1 := ⟨g - 1, by omega⟩
        rw [r2, bS] at cls
        simp only [] at cls
        rw [if_pos z00, rz_0, bS] at cls
        rw [r5, bS, y1, bS, hM_stop (by omega) y2] at ref
        exact ⟨j, μ', ν4, r1, cls, r3, (xl_fr a3 (by decide)).trans r4, ref, y2, (((xlm_fr b3 (by decide)).trans (xlm_fr F3 (by decide))).trans r7).trans (y3.mono fun v r c => pt_XLM)⟩
      · have hlenX : (X ++ x ++ c').length < 120 := by rw [List.length_append, List.length_append]; omega
        have hlenY : (Y ++ x ++ c').length < 260 := by rw [List.length_append, List.length_append]; omega
        obtain ⟨μ3, m1, m2, m3⟩ := emit_C (s := s) hl hlenX (show mI μ' 504 0 0 = nI l by rw [xl4 r7, a3.i 504 (by decide)]; exact e4) r6
        obtain ⟨ν3, p1, p2, p3⟩ := put_M (s := s) hp hlenY (show mI ν' 1331 0 0 = nI p by rw [xlm31 r12, F3.i 1331 (by decide), b3.i 1331 (by decide)]; exact e31) r11
        rw [hk.1, hk.2] at p1
        have KC3 : K_C S i' μ3 := r5.ft m3 (fun r c => by omega)
        have KM3 : K_M S i' ν3 := r9.ft p3 (fun r c => by unfold XPt; omega)
        rw [r4, bS] at cls
        simp only [] at cls
        rw [if_neg n10, m1, bS] at cls
        rw [r8, bS, p1, bS] at ref
        have FC3 : Ft (XL l) μ μ3 := ((xl_fr a3 (by decide)).trans r7).trans (m3.mono fun v r c => em_XL)
        have FM4 : Ft (XLM p) ν ν3 := (((xlm_fr b3 (by decide)).trans (xlm_fr F3 (by decide))).trans r12).trans (p3.mono fun v r c => pt_XLM)
        have hF' : Frag d true (x ++ (c' ++ [s])) := Frag_bin hF r1 hs.1 (Nat.le_refl _) hd2 hd (fun _ => by omega) (fun _ => ⟨rfl, rfl⟩)
        have hlen : (x ++ (c' ++ [s])).length = x.length + c'.length + 1 := by rw [List.length_append, List.length_append, List.length_singleton]; omega
        rw [show X ++ x ++ c' ++ [s] = X ++ (x ++ (c' ++ [s])) by simp [List.append_assoc]] at m2
        rw [show Y ++ x ++ c' ++ [s] = Y ++ (x ++ (c' ++ [s])) by simp [List.append_assoc]] at p2
        rcases ih (nTp S - i') (by omega) (i := i') (v := v + 1) (f := f) (g := g) (X := X) (Y := Y) (by omega) (by omega) (by omega) (by omega) KC3 KM3 (by rw [xl4 FC3]; exact e4) (by rw [xlm31 FM4]; exact e31) (by rw [p3 1305 0 0 (by unfold XPt; omega)]; exact r10) m2 p2 (by omega) (by omega) hF' with ⟨j, μ5, ν5, t1, t2, t3, t4, t5, t6, t7⟩ | ⟨c5, i5, μ5, ν5, t1, t2, t3, t4, t5, t6, t7, t8, t9, t10, t11, t12⟩
        · left
          exact ⟨j, μ5, ν5, t1, cls.trans t2, t3, FC3.trans t4, ref.trans t5, t6, FM4.trans t7⟩
        · right
          exact ⟨c5, i5, μ5, ν5, t1, by omega, t3, cls.trans t4, t5, t6, FC3.trans t7, ref.trans t8, t9, t10, t11, FM4.trans t12⟩
    · right
      rw [if_neg hop] at a2 cls ref
      rw [if_pos z00, rz_1, bS] at cls
      exact ⟨x, skp S i, μ2, ν2, hF, by omega, hsk.2, cls, a2, hX.fr a3 (by decide), xl_fr a3 (by decide), ref, b2, by rw [b3.i 1305 (by decide)]; exact e5, hY.fr b3 (by decide), xlm_fr b3 (by decide)⟩
theorem loopP_L {S : St} {l p dep d d2 c s k : Nat} {rB : Mem → Option (Int32 × Mem)} {rM : Mem → Option Mem} (W : W_tp S) (hl : l < 7) (hp : p < 7) (hr : Lock S l p dep d2 true rB rM) (hd2 : d2 + 1 ≤ d) (hd : 2 ≤ d) (hc : c < 256) (hs : vbn s ∧ 10107 ≤ s) (hk : cdM s = k ∧ vlM s = 0) : LockP S l p dep (Frag d2 true) d true (hCl c s rB FU (nI 0)) (hMl c k rM FU) := by
  intro i X Y x μ ν KC KM hi e4 e31 e5 hX hY hXi hYi hF
  have hn := W.1
  have hFU : 120 < FU := by unfold FU; decide
  have hne : 0 < x.length := by
    have := hF.1
    cases x with
    | nil => exact absurd rfl this
    | cons _ _ => simp
  exact loop_L W hl hp hr hd2 hd hc hs hk (m := nTp S - i) (v := 0) (by omega) (by omega) (by omega) (by omega) KC KM e4 e31 e5 hX hY hXi hYi (hF.mono (by omega))
