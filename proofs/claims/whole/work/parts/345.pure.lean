/-! PURE: the class counts a menu -/
theorem st_rc {μ s : Mem} {v c : Nat} {x : Int32} (h : s = mSI μ v 0 c x) : (∀ w r e, w ≠ v → mI s w r e = mI μ w r e) ∧ (∀ e, e ≠ c → mI s v 0 e = mI μ v 0 e) ∧ mI s v 0 c = x := by
  subst h
  exact ⟨fun w r c hw => iS_v hw, fun e he => iS_c he, iS_eq⟩
theorem flG_bit {S : St} {t : Nat} : ∀ (l : List Nat) (g : Nat), (l.foldl (fun g p => g ||| sN S 706 0 p) g).testBit t = true ↔ g.testBit t = true ∨ ∃ p, p ∈ l ∧ (sN S 706 0 p).testBit t = true := by
  intro l
  induction l with
  | nil => intro g; exact ⟨Or.inl, fun h => h.elim id fun ⟨p, hp, _⟩ => absurd hp (List.not_mem_nil)⟩
  | cons p l ih =>
    intro g
    show (l.foldl (fun g p => g ||| sN S 706 0 p) (g ||| sN S 706 0 p)).testBit t = true ↔ _
    rw [ih, Nat.testBit_or, Bool.or_eq_true]
    constructor
    · rintro ((h | h) | ⟨q, h1, h2⟩)
      · exact Or.inl h
      · exact Or.inr ⟨p, List.mem_cons_self, h⟩
      · exact Or.inr ⟨q, List.mem_cons_of_mem _ h1, h2⟩
    · rintro (h | ⟨q, h1, h2⟩)
      · exact Or.inl (Or.inl h)
      · rcases List.mem_cons.mp h1 with e | e
        · subst e; exact Or.inl (Or.inr h2)
        · exact Or.inr ⟨q, e, h2⟩
theorem mG_bit {S : St} {a t : Nat} : (mG S a).testBit t = true ↔ ∃ p, p ∈ mpg S a ∧ (sN S 706 0 p).testBit t = true := by
  unfold mG
  rw [flG_bit]
  exact ⟨fun h => h.elim (fun z => by simp at z) id, Or.inr⟩
theorem mG_th {S : St} {a t : Nat} (W : WF S) (h : (mG S a).testBit t = true) : t < nTh S := by
  obtain ⟨p, hp, hb⟩ := mG_bit.mp h
  have hp := List.mem_range.mp (List.mem_filter.mp hp).1
  obtain ⟨k, hk, rfl⟩ := ((W.pg.2.1 p hp).2.2.2.1.2 t).mp hb
  exact ((W.pg.2.1 p hp).2.1 k hk).1
theorem mN_bit {S : St} {d a i t : Nat} (W : WF S) (hi : i < mm S a) (h : 0 < mN S d a i t) : (mG S a).testBit t = true := by
  have hq := (mq_lt hi).1
  unfold mN at h
  split at h
  · refine mG_bit.mpr ⟨mq S a i, ?_, ?_⟩
    · unfold mq
      rw [List.getD_eq_getElem?_getD, List.getElem?_eq_getElem hi]
      exact List.getElem_mem hi
    · refine ((W.pg.2.1 _ hq).2.2.2.1.2 t).mpr (Classical.byContradiction fun z => ?_)
      rw [fpt_no (fun k hk he => z ⟨k, hk, he⟩)] at h
      omega
  · omega
theorem ws_12 {S : St} {d a : Nat} {x : Nat → Nat} (W : WF S) : ∀ k, wsN S d a x (nTh S + k) = wsN S d a x (nTh S) := by
  intro k
  induction k with
  | zero => rfl
  | succ k ih =>
    show wsN S d a x (nTh S + k) + (if (mG S a).testBit (nTh S + k) then _ else 0) = _
    rw [if_neg (fun z => absurd (mG_th W z) (by omega)), ih]; rfl
def C_ac (S : St) (a : Nat) (tg : Int32) (c : AcT) (μ : Mem) : Prop := mI μ 610 0 0 = nI c.1.1 ∧ mI μ 610 0 1 = nI c.1.2.1 ∧ mI μ 610 0 2 = nI c.1.2.2.1 ∧ mI μ 610 0 3 = (if c.1.1 = 0 then -1 else nI c.1.2.2.2.1) ∧ mI μ 610 0 4 = (if c.1.1 = 0 then -1 else nI c.1.2.2.2.2) ∧ (0 < c.1.1 → mI μ 610 0 7 = nI c.2.1.2.2 ∧ mI μ 610 0 6 = nI c.2.1.2.1 ∧ mI μ 610 0 5 = nI c.2.1.1) ∧ ∀ j, j < c.1.1 → tg = nI j → mI μ 615 0 0 = nI c.2.2.1 ∧ ∀ i, i < mm S a → mI μ 609 0 i = nI (c.2.2.2 i)
theorem nwl_C {S : St} {d a K : Nat} {tg y : Int32} {x : Nat → Nat} {μ : Mem} (W : WF S) (hd : d < nDy S) (L : C_mn S d a K tg μ) (P : C_sp S d (fun t => usN S d a x t (mm S a)) μ) (hU : ∀ t, t < 12 → usN S d a x t (mm S a) ≤ sN S 105 d t) : Menus_noteWaste_l1 y μ FU (nI 0) (nI 0) = some (nI (wsN S d a x (nTh S))) := by
  have h10 := W.dy.1
  have h12 := W.th.1
  have hG := mG_lt (a := a) W
  obtain ⟨r, e1, e2⟩ : ∃ r, Menus_noteWaste_l1 y μ FU (nI 0) (nI 0) = some r ∧ r = nI (wsN S d a x 12) := by
    refine loopE (fun f v s => Menus_noteWaste_l1 y μ f s v) 12 (fun c s => s = nI (wsN S d a x c)) _ ?_ ?_ 12 0 _ FU (by omega) (FU_lt (by omega)) rfl
    · rintro f t s ht rfl
      left
      refine ⟨nI (wsN S d a x (t + 1)), ?_, rfl⟩
      have hu : wsN S d a x (t + 1) = wsN S d a x t + (if (mG S a).testBit t then sN S 105 d t - usN S d a x t (mm S a) else 0) := rfl
      show Menus_noteWaste_l1b y μ (Menus_noteWaste_l1 y μ f) (nI (wsN S d a x t)) (nI t) = _
      unfold Menus_noteWaste_l1b
      rw [if_pos ((lt_n (by omega) (by omega)).mpr ht), L.2.1, hbit (by omega) (by omega), bS, hu]
      cases hb : (mG S a).testBit t with
      | false => rw [if_pos (show nI false.toNat = 0 from rfl), bS, bS, add_n, if_neg (fun z => nomatch z)]; rfl
      | true => rw [if_neg (show ¬ nI true.toNat = 0 from n10), rd_n (by omega) (by decide), P t ht, bS, sub_n (hU t ht), bS, add_n, bS, bS, add_n, if_pos rfl]
    · rintro f s rfl
      refine ⟨_, ?_, rfl⟩
      show Menus_noteWaste_l1b y μ (Menus_noteWaste_l1 y μ f) (nI (wsN S d a x 12)) (nI 12) = _
      unfold Menus_noteWaste_l1b
      rw [if_neg (by decide)]
  have := ws_12 (d := d) (a := a) (x := x) W (12 - nTh S)
  rw [show nTh S + (12 - nTh S) = 12 by omega] at this
  rw [e1, e2, this]
theorem cp_to {μ : Mem} {v v' n i : Nat} (h : i < n) : mI (mCP μ v 0 v' 0 n) v' 0 i = mI μ v 0 i := by
  show (if v' = v' ∧ 0 = 0 ∧ i < n then μ.1 v 0 i else μ.1 v' 0 i) = _
  rw [if_pos ⟨rfl, rfl, h⟩]; rfl
theorem cp_v {μ : Mem} {v r v' r' n u b e : Nat} (h : u ≠ v') : mI (mCP μ v r v' r' n) u b e = mI μ u b e := if_neg (fun z => h z.1)
theorem cp_fr {μ : Mem} {W : List Nat} {a : Mem} {v r v' r' n : Nat} (hv : v' ∈ W) (h : Fr W a μ) : Fr W a (mCP μ v r v' r' n) := fun u hu => by
  refine ⟨?_, (h u hu).2⟩
  refine Eq.trans ?_ (h u hu).1
  funext b e
  exact cp_v (fun z => hu (z ▸ hv))
theorem noteWaste_C {S : St} {d a K : Nat} {tg : Int32} {x : Nat → Nat} {c : AcT} {μ : Mem} (W : WF S) (hd : d < nDy S) (h5 : mm S a ≤ 5) (L : C_mn S d a K tg μ) (P : C_sp S d (fun t => usN S d a x t (mm S a)) μ) (hU : ∀ t, t < 12 → usN S d a x t (mm S a) ≤ sN S 105 d t) (hx : ∀ i, i < mm S a → mI μ 608 0 i = nI (x i)) (A : 0 < c.1.1 → mI μ 610 0 7 = nI c.2.1.2.2 ∧ mI μ 610 0 6 = nI c.2.1.2.1 ∧ mI μ 610 0 5 = nI c.2.1.1) (B : ∀ j, j < c.1.1 → tg = nI j → mI μ 615 0 0 = nI c.2.2.1 ∧ ∀ i, i < mm S a → mI μ 609 0 i = nI (c.2.2.2 i)) (o : AcOk c) :
    ∃ μ', Menus_noteWaste (nI c.1.1) μ = some μ' ∧ Fr [609, 610, 615] μ μ' ∧ (∀ e, e < 5 → mI μ' 610 0 e = mI μ 610 0 e) ∧ (mI μ' 610 0 7 = nI (noteS S d a tg x c).2.1.2.2 ∧ mI μ' 610 0 6 = nI (noteS S d a tg x c).2.1.2.1 ∧ mI μ' 610 0 5 = nI (noteS S d a tg x c).2.1.1) ∧ ∀ j, j < c.1.1 + 1 → tg = nI j → mI μ' 615 0 0 = nI (noteS S d a tg x c).2.2.1 ∧ ∀ i, i < mm S a → mI μ' 609 0 i = nI ((noteS S d a tg x c).2.2.2 i) := by
  have hws := ws_le (x := x) (a := a) W (show d < 10 by have := W.dy.1; omega) (show nTh S ≤ 12 by have := W.th.1; omega)
  have h12 := W.th.1
  obtain ⟨o1, o2, o3, o4, o5, o6, o7, o8⟩ := o
  have e1 := nwl_C (y := nI c.1.1) W hd L P hU
  unfold noteS
  simp only []
  obtain ⟨w, hw⟩ : ∃ w, w = wsN S d a x (nTh S) := ⟨_, rfl⟩
  rw [← hw] at hws e1 ⊢
  unfold Menus_noteWaste
  rw [e1, bS]
  have k4 : ∃ s4, (if nI c.1.1 = 0 then (mWr μ 610 0 8 (nI 5) (nI 0)).bind fun μ2 => (mWr μ2 610 0 8 (nI 6) (nI c.1.1)).bind fun μ3 => (mWr μ3 610 0 8 (nI 7) (nI w)).bind fun μ4 => some μ4 else (mRd μ 610 0 8 (nI 7)).bind fun x5 => if nI w < x5 then (mWr μ 610 0 8 (nI 5) (nI 0)).bind fun μ6 => (mWr μ6 610 0 8 (nI 6) (nI c.1.1)).bind fun μ7 => (mWr μ7 610 0 8 (nI 7) (nI w)).bind fun μ8 => some μ8 else some μ) = some s4 ∧ Fr [610] μ s4 ∧ (∀ e, e < 5 → mI s4 610 0 e = mI μ 610 0 e) ∧ (c.1.1 = 0 ∨ w < c.2.1.2.2 → mI s4 610 0 7 = nI w ∧ mI s4 610 0 6 = nI c.1.1 ∧ mI s4 610 0 5 = nI 0) ∧ (¬ (c.1.1 = 0 ∨ w < c.2.1.2.2) → mI s4 610 0 7 = nI c.2.1.2.2 ∧ mI s4 610 0 6 = nI c.2.1.2.1 ∧ mI s4 610 0 5 = nI c.2.1.1) := by
    have go : (mWr μ 610 0 8 (nI 5) (nI 0)).bind (fun μ2 => (mWr μ2 610 0 8 (nI 6) (nI c.1.1)).bind fun μ3 => (mWr μ3 610 0 8 (nI 7) (nI w)).bind fun μ4 => some μ4) = some (mSI (mSI (mSI μ 610 0 5 (nI 0)) 610 0 6 (nI c.1.1)) 610 0 7 (nI w)) := by
      rw [wr_n (by decide) (by decide), bS, wr_n (by decide) (by decide), bS, wr_n (by decide) (by decide), bS]
    have fin : Fr [610] μ (mSI (mSI (mSI μ 610 0 5 (nI 0)) 610 0 6 (nI c.1.1)) 610 0 7 (nI w)) ∧ (∀ e, e < 5 → mI (mSI (mSI (mSI μ 610 0 5 (nI 0)) 610 0 6 (nI c.1.1)) 610 0 7 (nI w)) 610 0 e = mI μ 610 0 e) ∧ mI (mSI (mSI (mSI μ 610 0 5 (nI 0)) 610 0 6 (nI c.1.1)) 610 0 7 (nI w)) 610 0 7 = nI w ∧ mI (mSI (mSI (mSI μ 610 0 5 (nI 0)) 610 0 6 (nI c.1.1)) 610 0 7 (nI w)) 610 0 6 = nI c.1.1 ∧ mI (mSI (mSI (mSI μ 610 0 5 (nI 0)) 610 0 6 (nI c.1.1)) 610 0 7 (nI w)) 610 0 5 = nI 0 :=
      ⟨fr_si (by simp) (fr_si (by simp) (fr_si (by simp) Fr.refl)), fun e he => (iS_c (by omega)).trans ((iS_c (by omega)).trans (iS_c (by omega))), iS_eq, (iS_c (by decide)).trans iS_eq, (iS_c (by decide)).trans ((iS_c (by decide)).trans iS_eq)⟩
    rw [go]
    by_cases h0 : c.1.1 = 0
    · rw [if_pos ((eq0_n (by omega)).mpr h0)]
      exact ⟨_, rfl, fin.1, fin.2.1, fun _ => fin.2.2, fun z => absurd (Or.inl h0) z⟩
    · rw [if_neg (fun z => h0 ((eq0_n (by omega)).mp z)), rd_n (by decide) (by decide), (A (by omega)).1, bS]
      by_cases h1 : w < c.2.1.2.2
      · rw [if_pos ((lt_n (by omega) (by omega)).mpr h1)]
        exact ⟨_, rfl, fin.1, fin.2.1, fun _ => fin.2.2, fun z => absurd (Or.inr h1) z⟩
      · rw [if_neg (fun z => h1 ((lt_n (by omega) (by omega)).mp z))]
        exact ⟨_, rfl, Fr.refl, fun _ _ => rfl, fun z => absurd z (fun z => z.elim h0 h1), fun _ => A (by omega)⟩
  obtain ⟨s4, k4, F4, g4, v4, v5⟩ := k4
  rw [k4, bS]
  have k5 : ∃ s5, ((mRd s4 610 0 8 (nI 7)).bind fun x10 => (if nI w = x10 then (mRd s4 610 0 8 (nI 5)).bind fun x11 => (mWr s4 610 0 8 (nI 5) (x11 + nI 1)).bind fun μ12 => some μ12 else some s4).bind fun μ13 => if nI c.1.1 = mI μ13 614 0 0 then (some (mSI μ13 615 0 0 (nI w))).bind fun μ14 => (some (mCP μ14 608 0 609 0 5)).bind fun μ15 => some μ15 else some μ13) = (if nI c.1.1 = mI s5 614 0 0 then (some (mSI s5 615 0 0 (nI w))).bind fun μ14 => (some (mCP μ14 608 0 609 0 5)).bind fun μ15 => some μ15 else some s5) ∧ Fr [610] s4 s5 ∧ (∀ e, e ≠ 5 → mI s5 610 0 e = mI s4 610 0 e) ∧ mI s5 610 0 5 = nI (if c.1.1 = 0 ∨ w < c.2.1.2.2 then (1, c.1.1, w) else if w = c.2.1.2.2 then (c.2.1.1 + 1, c.2.1.2.1, c.2.1.2.2) else c.2.1).1 := by
    rw [rd_n (by decide) (by decide), bS]
    have fin : ∀ y, Fr [610] s4 (mSI s4 610 0 5 y) ∧ (∀ e, e ≠ 5 → mI (mSI s4 610 0 5 y) 610 0 e = mI s4 610 0 e) ∧ mI (mSI s4 610 0 5 y) 610 0 5 = y := fun y => ⟨fr_si (by simp) Fr.refl, fun e he => iS_c he, iS_eq⟩
    by_cases h : c.1.1 = 0 ∨ w < c.2.1.2.2
    · rw [(v4 h).1, if_pos rfl, rd_n (by decide) (by decide), (v4 h).2.2, bS, add_n, wr_n (by decide) (by decide), bS, bS, if_pos h]
      exact ⟨_, rfl, fin _⟩
    · rw [(v5 h).1, if_neg h]
      by_cases h2 : w = c.2.1.2.2
      · rw [if_pos (congrArg nI h2), rd_n (by decide) (by decide), (v5 h).2.2, bS, add_n, wr_n (by decide) (by decide), bS, bS, if_pos h2]
        exact ⟨_, rfl, fin _⟩
      · rw [if_neg (fun z => h2 ((eq_n (by omega) (by omega)).mp z)), bS, if_neg h2]
        exact ⟨_, rfl, Fr.refl, fun _ _ => rfl, (v5 h).2.2⟩
  obtain ⟨s5, k5, F5, g5, g55⟩ := k5
  rw [k5]
  have k7 : mI s4 610 0 7 = nI (if c.1.1 = 0 ∨ w < c.2.1.2.2 then (1, c.1.1, w) else if w = c.2.1.2.2 then (c.2.1.1 + 1, c.2.1.2.1, c.2.1.2.2) else c.2.1).2.2 ∧ mI s4 610 0 6 = nI (if c.1.1 = 0 ∨ w < c.2.1.2.2 then (1, c.1.1, w) else if w = c.2.1.2.2 then (c.2.1.1 + 1, c.2.1.2.1, c.2.1.2.2) else c.2.1).2.1 := by
    by_cases h : c.1.1 = 0 ∨ w < c.2.1.2.2
    · rw [if_pos h]; exact ⟨(v4 h).1, (v4 h).2.1⟩
    · rw [if_neg h]
      by_cases h2 : w = c.2.1.2.2
      · rw [if_pos h2]; exact ⟨(v5 h).1, (v5 h).2.1⟩
      · rw [if_neg h2]; exact ⟨(v5 h).1, (v5 h).2.1⟩
  have F45 : Fr [610] μ s5 := F4.trans F5
  rw [show mI s5 614 0 0 = tg by rw [F45.i 614 (by decide)]; exact L.2.2.2.1]
  by_cases h : nI c.1.1 = tg
  · rw [if_pos h, bS, bS]
    have F6 : Fr [609, 615] s5 (mCP (mSI s5 615 0 0 (nI w)) 608 0 609 0 5) := cp_fr (by simp) (fr_si (by simp) Fr.refl)
    refine ⟨_, rfl, (F45.mono (by simp)).trans (F6.mono (by simp)), fun e he => ?_, ⟨?_, ?_, ?_⟩, fun j hj ht => ⟨?_, fun i hi => ?_⟩⟩
    · rw [F6.i 610 (by decide), g5 e (by omega), g4 e he]
    · rw [F6.i 610 (by decide), g5 7 (by decide), k7.1]
    · rw [F6.i 610 (by decide), g5 6 (by decide), k7.2]
    · rw [F6.i 610 (by decide), g55]
    · rw [if_pos h, cp_v (show (615 : Nat) ≠ 609 by decide)]; exact iS_eq
    · rw [if_pos h, cp_to (by omega), iS_v (show (608 : Nat) ≠ 615 by decide), F45.i 608 (by decide), hx i hi]
  · rw [if_neg h]
    refine ⟨_, rfl, F45.mono (by simp), fun e he => ?_, ⟨?_, ?_, ?_⟩, fun j hj ht => ?_⟩
    · rw [g5 e (by omega), g4 e he]
    · rw [g5 7 (by decide), k7.1]
    · rw [g5 6 (by decide), k7.2]
    · rw [g55]
    · have hj' : j < c.1.1 := by
        have : j ≠ c.1.1 := fun z => h (by rw [ht, z])
        omega
      rw [if_neg h, if_neg h, F45.i 615 (by decide), F45.i 609 (by decide)]
      exact B j hj' ht
