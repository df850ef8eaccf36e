/-! PURE: the class counts menus that are alike but for the last page: sums -/
theorem st_rc {μ s : Mem} {v c : Nat} {x : Int32} (h : s = mSI μ v 0 c x) : (∀ w r e, w ≠ v → mI s w r e = mI μ w r e) ∧ (∀ e, e ≠ c → mI s v 0 e = mI μ v 0 e) ∧ mI s v 0 c = x := by
  subst h
  exact ⟨fun w r c hw => iS_v hw, fun e he => iS_c he, iS_eq⟩
theorem flG_bit {S : St} {t : Nat} : ∀ (l : List Nat) (g : Nat), (l.foldl (fun g p => g ||| sN S 706 0 p) g).testBit t = true ↔ g.testBit t = true ∨ ∃ p, p ∈ l ∧ (sN S 706 0 p).testBit t = true := by
  intro l
  induction l with
  | nil => intro g; exact ⟨Or.inl, fun h => h.elim id fun ⟨p, hp, _⟩ => absurd hp (List.not_mem_nil)⟩
  | cons p l ih =>
    intro g
    show (l.foldl (fun g p => g ||| sN S 706 0 p) (g ||| sN S 706 0 p)).testBit t = true ↔ _
    rw [ih, Nat.testBit_or, Bool.or_eq_true]
    constructor
    · rintro ((h | h) | ⟨q, h1, h2⟩)
      · exact Or.inl h
      · exact Or.inr ⟨p, List.mem_cons_self, h⟩
      · exact Or.inr ⟨q, List.mem_cons_of_mem _ h1, h2⟩
    · rintro (h | ⟨q, h1, h2⟩)
      · exact Or.inl (Or.inl h)
      · rcases List.mem_cons.mp h1 with e | e
        · subst e; exact Or.inl (Or.inr h2)
        · exact Or.inr ⟨q, e, h2⟩
theorem mG_bit {S : St} {a t : Nat} : (mG S a).testBit t = true ↔ ∃ p, p ∈ mpg S a ∧ (sN S 706 0 p).testBit t = true := by
  unfold mG
  rw [flG_bit]
  exact ⟨fun h => h.elim (fun z => by simp at z) id, Or.inr⟩
theorem mG_th {S : St} {a t : Nat} (W : WF S) (h : (mG S a).testBit t = true) : t < nTh S := by
  obtain ⟨p, hp, hb⟩ := mG_bit.mp h
  have hp := List.mem_range.mp (List.mem_filter.mp hp).1
  obtain ⟨k, hk, rfl⟩ := ((W.pg.2.1 p hp).2.2.2.1.2 t).mp hb
  exact ((W.pg.2.1 p hp).2.1 k hk).1
theorem mN_bit {S : St} {d a i t : Nat} (W : WF S) (hi : i < mm S a) (h : 0 < mN S d a i t) : (mG S a).testBit t = true := by
  have hq := (mq_lt hi).1
  unfold mN at h
  split at h
  · refine mG_bit.mpr ⟨mq S a i, ?_, ?_⟩
    · unfold mq
      rw [List.getD_eq_getElem?_getD, List.getElem?_eq_getElem hi]
      exact List.getElem_mem hi
    · refine ((W.pg.2.1 _ hq).2.2.2.1.2 t).mpr (Classical.byContradiction fun z => ?_)
      rw [fpt_no (fun k hk he => z ⟨k, hk, he⟩)] at h
      omega
  · omega
theorem ws_12 {S : St} {d a : Nat} {x : Nat → Nat} (W : WF S) : ∀ k, wsN S d a x (nTh S + k) = wsN S d a x (nTh S) := by
  intro k
  induction k with
  | zero => rfl
  | succ k ih =>
    show wsN S d a x (nTh S + k) + (if (mG S a).testBit (nTh S + k) then _ else 0) = _
    rw [if_neg (fun z => absurd (mG_th W z) (by omega)), ih]; rfl
def C_ac (S : St) (a : Nat) (tg : Int32) (c : AcT) (μ : Mem) : Prop := mI μ 609 0 0 = nI c.1.1 ∧ mI μ 609 0 1 = nI c.1.2.1 ∧ mI μ 609 0 2 = nI c.1.2.2.1 ∧ mI μ 609 0 3 = (if c.1.1 = 0 then -1 else nI c.1.2.2.2.1) ∧ mI μ 609 0 4 = (if c.1.1 = 0 then -1 else nI c.1.2.2.2.2) ∧ (0 < c.1.1 → mI μ 609 0 7 = nI c.2.1.2.2 ∧ mI μ 609 0 6 = nI c.2.1.2.1 ∧ mI μ 609 0 5 = nI c.2.1.1) ∧ (∀ j, j < c.1.1 → tg = nI j → mI μ 614 0 0 = nI c.2.2.1 ∧ ∀ i, i < mm S a → mI μ 608 0 i = nI (c.2.2.2 i)) ∧ (mI μ 609 0 5 = 0 ↔ c.1.1 = 0)
theorem cp_to {μ : Mem} {v v' n i : Nat} (h : i < n) : mI (mCP μ v 0 v' 0 n) v' 0 i = mI μ v 0 i := by
  show (if v' = v' ∧ 0 = 0 ∧ i < n then μ.1 v 0 i else μ.1 v' 0 i) = _
  rw [if_pos ⟨rfl, rfl, h⟩]; rfl
theorem cp_v {μ : Mem} {v r v' r' n u b e : Nat} (h : u ≠ v') : mI (mCP μ v r v' r' n) u b e = mI μ u b e := if_neg (fun z => h z.1)
theorem cp_fr {μ : Mem} {W : List Nat} {a : Mem} {v r v' r' n : Nat} (hv : v' ∈ W) (h : Fr W a μ) : Fr W a (mCP μ v r v' r' n) := fun u hu => by
  refine ⟨?_, (h u hu).2⟩
  refine Eq.trans ?_ (h u hu).1
  funext b e
  exact cp_v (fun z => hu (z ▸ hv))
/-- the doses of a place in sum, of the things of the pages -/
def eaN (S : St) (d a k : Nat) : Nat → Nat
  | 0 => 0
  | t + 1 => eaN S d a k t + (if (mG S a).testBit t then mN S d a k t else 0)
/-- what is over in sum behind the first k places -/
def ovN (S : St) (d a k : Nat) (x : Nat → Nat) : Nat → Nat
  | 0 => 0
  | t + 1 => ovN S d a k x t + (if (mG S a).testBit t then sN S 105 d t - usN S d a x t k else 0)
theorem ea_le {S : St} {d a k : Nat} (W : WF S) (hk : k < mm S a) : ∀ t, eaN S d a k t ≤ 99 * t := by
  intro t
  induction t with
  | zero => exact Nat.zero_le _
  | succ t ih =>
    have h1 := mN_le (d := d) (t := t) W hk
    show eaN S d a k t + _ ≤ _
    split <;> omega
theorem ea_ge {S : St} {d a k t : Nat} (hb : (mG S a).testBit t = true) : ∀ T, t < T → mN S d a k t ≤ eaN S d a k T := by
  intro T
  induction T with
  | zero => intro h; exact absurd h (Nat.not_lt_zero t)
  | succ T ih =>
    intro h
    show _ ≤ eaN S d a k T + _
    by_cases e : t = T
    · subst e; rw [if_pos hb]; omega
    · have := ih (by omega); omega
theorem ov_le {S : St} {d a k : Nat} {x : Nat → Nat} (W : WF S) (hd : d < 10) : ∀ {t : Nat}, t ≤ 12 → ovN S d a k x t ≤ 999 * t := by
  intro t
  induction t with
  | zero => intro _; exact Nat.zero_le _
  | succ t ih =>
    intro ht
    have := ih (by omega)
    have := W.dy.2.2 d t hd (by omega)
    show ovN S d a k x t + _ ≤ _
    split <;> omega
theorem up_us {S : St} {d a t k v : Nat} {x : Nat → Nat} : usN S d a (upX x k v) t (k + 1) = usN S d a x t k + v * mN S d a k t := by
  show usN S d a (upX x k v) t k + mN S d a k t * upX x k v k = _
  rw [us_congr (y := x) (fun i hi => by unfold upX; rw [if_neg (by omega)])]
  unfold upX
  rw [if_pos rfl, Nat.mul_comm]
/-- what v messes of the last page leave -/
theorem ws_up {S : St} {d a k v : Nat} {x : Nat → Nat} (hk : k + 1 = mm S a) (hv : ∀ t, t < 12 → usN S d a x t k + mN S d a k t * v ≤ sN S 105 d t) : ∀ {T : Nat}, T ≤ 12 → wsN S d a (upX x k v) T + v * eaN S d a k T = ovN S d a k x T := by
  intro T
  induction T with
  | zero => intro _; rfl
  | succ T ih =>
    intro hT
    have h1 := ih (by omega)
    have h2 := hv T (by omega)
    show wsN S d a (upX x k v) T + (if (mG S a).testBit T then sN S 105 d T - usN S d a (upX x k v) T (mm S a) else 0) + v * (eaN S d a k T + (if (mG S a).testBit T then mN S d a k T else 0)) = ovN S d a k x T + (if (mG S a).testBit T then sN S 105 d T - usN S d a x T k else 0)
    rw [← hk, up_us, Nat.mul_add]
    rw [Nat.mul_comm] at h2
    cases hb : (mG S a).testBit T with
    | false => rw [if_neg (show ¬ false = true by decide), if_neg (show ¬ false = true by decide), if_neg (show ¬ false = true by decide), Nat.mul_zero]; omega
    | true => rw [if_pos (show true = true from rfl), if_pos (show true = true from rfl), if_pos (show true = true from rfl)]; omega
/-- what is served takes something -/
theorem ea_pos {S : St} {d a k : Nat} (W : WF S) (hk : k < mm S a) (h : 0 < mcap S d a k) : 0 < eaN S d a k 12 := by
  have hq := (mq_lt hk).1
  have wp := W.pg.2.1 _ hq
  have hm1 := wp.1.1
  have ht := (wp.2.1 0 (by omega)).1
  have h12 := W.th.1
  have hs : srvB S d (mq S a k) = true := by
    unfold mcap at h
    cases e : srvB S d (mq S a k) with
    | true => rfl
    | false => rw [e] at h; exact absurd h (by decide)
  have hn : mN S d a k (sN S 703 (mq S a k) 0) = prtP S (mq S a k) (dx S (mq S a k) 0) 0 := by
    unfold mN
    rw [if_pos hs]
    exact fpt_at W hq (by omega) rfl
  have hp := (prt_bd W (dx S (mq S a k) 0) hq (show 0 < mT S (mq S a k) by omega)).1
  have hb := mN_bit (d := d) (t := sN S 703 (mq S a k) 0) W hk (by omega)
  have := ea_ge (d := d) (k := k) hb 12 (by omega)
  omega
theorem nwl_C {S : St} {d a K k : Nat} {tg y2 y3 y4 : Int32} {x : Nat → Nat} {μ : Mem} (W : WF S) (hd : d < nDy S) (h5 : mm S a ≤ 5) (hk : k < mm S a) (L : C_mn S d a K tg μ) (P : C_sp S d (fun t => usN S d a x t k) μ) (hU : ∀ t, t < 12 → usN S d a x t k ≤ sN S 105 d t) : Menus_noteWaste_l1 (nI k) y2 y3 y4 μ FU (nI 0) (nI 0) (nI 0) = some (nI (eaN S d a k 12), nI (ovN S d a k x 12)) := by
  have h10 := W.dy.1
  have hG := mG_lt (a := a) W
  have L5 := (L.2.2.2.2 k hk).2.2
  obtain ⟨⟨p, q⟩, e1, e2, e3⟩ : ∃ r : Int32 × Int32, Menus_noteWaste_l1 (nI k) y2 y3 y4 μ FU (nI 0) (nI 0) (nI 0) = some r ∧ r.1 = nI (eaN S d a k 12) ∧ r.2 = nI (ovN S d a k x 12) := by
    refine loopE (fun f v (s : Int32 × Int32) => Menus_noteWaste_l1 (nI k) y2 y3 y4 μ f s.1 s.2 v) 12 (fun c s => s.1 = nI (eaN S d a k c) ∧ s.2 = nI (ovN S d a k x c)) _ ?_ ?_ 12 0 (nI 0, nI 0) FU (by omega) (FU_lt (by omega)) ⟨rfl, rfl⟩
    · rintro f t ⟨p, q⟩ ht ⟨h1, h2⟩
      simp only at h1 h2
      subst h1 h2
      left
      refine ⟨(nI (eaN S d a k (t + 1)), nI (ovN S d a k x (t + 1))), ?_, rfl, rfl⟩
      have hu1 : eaN S d a k (t + 1) = eaN S d a k t + (if (mG S a).testBit t then mN S d a k t else 0) := rfl
      have hu2 : ovN S d a k x (t + 1) = ovN S d a k x t + (if (mG S a).testBit t then sN S 105 d t - usN S d a x t k else 0) := rfl
      show Menus_noteWaste_l1b (nI k) y2 y3 y4 μ (Menus_noteWaste_l1 (nI k) y2 y3 y4 μ f) (nI (eaN S d a k t)) (nI (ovN S d a k x t)) (nI t) = _
      unfold Menus_noteWaste_l1b
      rw [if_pos ((lt_n (by omega) (by omega)).mpr ht), L.2.1, hbit (by omega) (by omega), bS, hu1, hu2]
      cases hb : (mG S a).testBit t with
      | false =>
        rw [if_pos (show nI false.toNat = 0 from rfl), bS, if_neg (show ¬ false = true by decide), if_neg (show ¬ false = true by decide)]
        simp only []
        rw [bS, add_n] <;> rfl
      | true =>
        rw [if_neg (show ¬ nI true.toNat = 0 from n10), ix_n (by omega) (by decide), bS, rd_n (by omega) (by decide), L5 t ht, bS, add_n, bS, rd_n (by omega) (by decide), P t ht, bS, sub_n (hU t ht), add_n, bS, bS, if_pos (show true = true from rfl), if_pos (show true = true from rfl)]
        simp only []
        rw [bS, add_n] <;> rfl
    · rintro f ⟨p, q⟩ ⟨h1, h2⟩
      refine ⟨(p, q), ?_, h1, h2⟩
      show Menus_noteWaste_l1b (nI k) y2 y3 y4 μ (Menus_noteWaste_l1 (nI k) y2 y3 y4 μ f) p q (nI 12) = _
      unfold Menus_noteWaste_l1b
      rw [if_neg (by decide)]
  simp only at e2 e3
  subst e2 e3
  exact e1
/-- the leanest, behind a menu more -/
def lnS (n w : Nat) (c : AcT) : Nat × Nat × Nat := if c.1.1 = 0 ∨ w < c.2.1.2.2 then (1, n, w) else if w = c.2.1.2.2 then (c.2.1.1 + 1, c.2.1.2.1, c.2.1.2.2) else c.2.1
theorem noteLean_C {n w : Nat} {c : AcT} {μ : Mem} (hw : w < 1000000) (A : 0 < c.1.1 → mI μ 609 0 7 = nI c.2.1.2.2 ∧ mI μ 609 0 6 = nI c.2.1.2.1 ∧ mI μ 609 0 5 = nI c.2.1.1) (Z : mI μ 609 0 5 = 0 ↔ c.1.1 = 0) (o8 : c.2.1.2.2 < 1000000) :
    ∃ μ', Menus_noteLean (nI n) (nI w) μ = some μ' ∧ Fr [609] μ μ' ∧ (∀ e, e < 5 → mI μ' 609 0 e = mI μ 609 0 e) ∧ mI μ' 609 0 7 = nI (lnS n w c).2.2 ∧ mI μ' 609 0 6 = nI (lnS n w c).2.1 ∧ mI μ' 609 0 5 = nI (lnS n w c).1 := by
  unfold Menus_noteLean
  rw [rd_n (by decide) (by decide), bS]
  have k4 : ∃ s4, (if mI μ 609 0 5 = 0 then (mWr μ 609 0 8 (nI 5) (nI 0)).bind fun μ2 => (mWr μ2 609 0 8 (nI 6) (nI n)).bind fun μ3 => (mWr μ3 609 0 8 (nI 7) (nI w)).bind fun μ4 => some μ4 else (mRd μ 609 0 8 (nI 7)).bind fun x5 => if nI w < x5 then (mWr μ 609 0 8 (nI 5) (nI 0)).bind fun μ6 => (mWr μ6 609 0 8 (nI 6) (nI n)).bind fun μ7 => (mWr μ7 609 0 8 (nI 7) (nI w)).bind fun μ8 => some μ8 else some μ) = some s4 ∧ Fr [609] μ s4 ∧ (∀ e, e < 5 → mI s4 609 0 e = mI μ 609 0 e) ∧ (c.1.1 = 0 ∨ w < c.2.1.2.2 → mI s4 609 0 7 = nI w ∧ mI s4 609 0 6 = nI n ∧ mI s4 609 0 5 = nI 0) ∧ (¬ (c.1.1 = 0 ∨ w < c.2.1.2.2) → mI s4 609 0 7 = nI c.2.1.2.2 ∧ mI s4 609 0 6 = nI c.2.1.2.1 ∧ mI s4 609 0 5 = nI c.2.1.1) := by
    have go : (mWr μ 609 0 8 (nI 5) (nI 0)).bind (fun μ2 => (mWr μ2 609 0 8 (nI 6) (nI n)).bind fun μ3 => (mWr μ3 609 0 8 (nI 7) (nI w)).bind fun μ4 => some μ4) = some (mSI (mSI (mSI μ 609 0 5 (nI 0)) 609 0 6 (nI n)) 609 0 7 (nI w)) := by
      rw [wr_n (by decide) (by decide), bS, wr_n (by decide) (by decide), bS, wr_n (by decide) (by decide), bS]
    have fin : Fr [609] μ (mSI (mSI (mSI μ 609 0 5 (nI 0)) 609 0 6 (nI n)) 609 0 7 (nI w)) ∧ (∀ e, e < 5 → mI (mSI (mSI (mSI μ 609 0 5 (nI 0)) 609 0 6 (nI n)) 609 0 7 (nI w)) 609 0 e = mI μ 609 0 e) ∧ mI (mSI (mSI (mSI μ 609 0 5 (nI 0)) 609 0 6 (nI n)) 609 0 7 (nI w)) 609 0 7 = nI w ∧ mI (mSI (mSI (mSI μ 609 0 5 (nI 0)) 609 0 6 (nI n)) 609 0 7 (nI w)) 609 0 6 = nI n ∧ mI (mSI (mSI (mSI μ 609 0 5 (nI 0)) 609 0 6 (nI n)) 609 0 7 (nI w)) 609 0 5 = nI 0 :=
      ⟨fr_si (by simp) (fr_si (by simp) (fr_si (by simp) Fr.refl)), fun e he => (iS_c (by omega)).trans ((iS_c (by omega)).trans (iS_c (by omega))), iS_eq, (iS_c (by decide)).trans iS_eq, (iS_c (by decide)).trans ((iS_c (by decide)).trans iS_eq)⟩
    rw [go]
    by_cases h0 : c.1.1 = 0
    · rw [if_pos (Z.mpr h0)]
      exact ⟨_, rfl, fin.1, fin.2.1, fun _ => fin.2.2, fun z => absurd (Or.inl h0) z⟩
    · rw [if_neg (fun z => h0 (Z.mp z)), rd_n (by decide) (by decide), (A (by omega)).1, bS]
      by_cases h1 : w < c.2.1.2.2
      · rw [if_pos ((lt_n (by omega) (by omega)).mpr h1)]
        exact ⟨_, rfl, fin.1, fin.2.1, fun _ => fin.2.2, fun z => absurd (Or.inr h1) z⟩
      · rw [if_neg (fun z => h1 ((lt_n (by omega) (by omega)).mp z))]
        exact ⟨_, rfl, Fr.refl, fun _ _ => rfl, fun z => absurd z (fun z => z.elim h0 h1), fun _ => A (by omega)⟩
  obtain ⟨s4, k4, F4, g4, v4, v5⟩ := k4
  rw [k4, bS, rd_n (by decide) (by decide), bS]
  by_cases h : c.1.1 = 0 ∨ w < c.2.1.2.2
  · obtain ⟨a7, a6, a5⟩ := v4 h
    rw [a7, if_pos rfl, rd_n (by decide) (by decide), a5, bS, add_n, wr_n (by decide) (by decide), bS, show lnS n w c = (1, n, w) from if_pos h]
    exact ⟨_, rfl, F4.trans (fr_si (by simp) Fr.refl), fun e he => (iS_c (by omega)).trans (g4 e he), (iS_c (by decide)).trans a7, (iS_c (by decide)).trans a6, iS_eq⟩
  · obtain ⟨a7, a6, a5⟩ := v5 h
    by_cases h2 : w = c.2.1.2.2
    · rw [a7, if_pos (congrArg nI h2), rd_n (by decide) (by decide), a5, bS, add_n, wr_n (by decide) (by decide), bS, show lnS n w c = (c.2.1.1 + 1, c.2.1.2.1, c.2.1.2.2) from (if_neg h).trans (if_pos h2)]
      exact ⟨_, rfl, F4.trans (fr_si (by simp) Fr.refl), fun e he => (iS_c (by omega)).trans (g4 e he), (iS_c (by decide)).trans a7, (iS_c (by decide)).trans a6, iS_eq⟩
    · rw [a7, if_neg (fun z => h2 ((eq_n (by omega) (by omega)).mp z)), show lnS n w c = c.2.1 from (if_neg h).trans (if_neg h2)]
      exact ⟨s4, rfl, F4, g4, a7, a6, a5⟩
