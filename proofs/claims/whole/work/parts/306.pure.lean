/-! PURE: the class lays a page's dishes -/
theorem wth_eq {S : St} {p l : Nat} {f : Nat → Nat} {g : Nat → Int32} (W : WF S) (hl : l < nLw S) (h : ∀ i, i < 9 → g i = ltF S p f i) : lawV g (sL S l) = wthF S p f l := lawV_congr h (W.lw.2 l hl).2
theorem lt_two {a b n : Nat} (h : a < 2 ^ n) (hb : n ≤ b) : a.testBit b = false := Nat.testBit_lt_two_pow (Nat.lt_of_lt_of_le h (Nat.pow_le_pow_right (by decide) hb))
theorem val_C {S : St} {p l : Nat} {f : Nat → Nat} {μ : Mem} (W : WF S) (C : C_lw S μ) (hl : l < nLw S) (h : ∀ i, i < 9 → mI μ 918 0 i = ltF S p f i) : ∃ μ', Laws_valueOf (nI l) μ = some (wthF S p f l, μ') ∧ Fr [502, 503] μ μ' := by
  have h6 := W.lw.1
  obtain ⟨μ', e⟩ := valueOf_eq (by omega) (C.2 l hl) (W.lw.2 l hl)
  rw [wth_eq W hl h] at e
  exact ⟨μ', e, Laws_valueOf_fr e⟩
theorem holds_eq {S : St} {p : Nat} {f : Nat → Nat} {μ0 : Mem} (W : WF S) (C : C_lw S μ0 ∧ C_ho S μ0) (hp : p < nPg S) (h : ∀ i, i < 9 → mI μ0 918 0 i = ltF S p f i) :
    ∃ μ', Pot_keepsHolds (nI p) μ0 = some (nI (keptB S p f).toNat, μ') ∧ Fr [502, 503] μ0 μ' := by
  have h16 := W.pg.1
  have h6 := W.lw.1
  have h905 := W.ho.2.2.1 p (by omega)
  have h64 : 2 ^ nLw S ≤ 64 := Nat.pow_le_pow_right (n := 2) (by decide) h6
  have lk := C.2.2.2 p (by omega)
  have no : ∀ l, l < 6 → (sN S 905 0 p).testBit l = true → ¬ (sI S 906 p l ≤ wthF S p f l ∧ wthF S p f l ≤ sI S 907 p l) → keptB S p f = false := fun l hl hb hn => by
    cases hk : keptB S p f with
    | false => rfl
    | true => exact absurd (keptB_iff.mp hk l hl hb) hn
  obtain ⟨⟨x, μ'⟩, e, hx, hF⟩ : ∃ r, Pot_keepsHolds_l1 (nI p) FU (nI 0) μ0 = some r ∧ r.1 = nI (keptB S p f).toNat ∧ Fr [502, 503] μ0 r.2 := by
    refine loopE (fun g v s => Pot_keepsHolds_l1 (nI p) g v s) (nLw S) (fun c s => Fr [502, 503] μ0 s ∧ ∀ l, l < c → (sN S 905 0 p).testBit l = true → sI S 906 p l ≤ wthF S p f l ∧ wthF S p f l ≤ sI S 907 p l) (fun r => r.1 = nI (keptB S p f).toNat ∧ Fr [502, 503] μ0 r.2) ?_ ?_ (nLw S) 0 μ0 FU (by omega) (FU_lt (by omega)) ⟨Fr.refl, fun l q => absurd q (by omega)⟩
    · rintro g l μ hl ⟨F, hI⟩
      obtain ⟨lk1, lk2⟩ := lk.2 l (by omega)
      show (∃ s', Pot_keepsHolds_l1b (nI p) (Pot_keepsHolds_l1 (nI p) g) (nI l) μ = _ ∧ _) ∨ (∃ r, Pot_keepsHolds_l1b (nI p) (Pot_keepsHolds_l1 (nI p) g) (nI l) μ = _ ∧ _)
      unfold Pot_keepsHolds_l1b
      rw [F.i 504 (by decide), C.1.1, if_pos ((lt_n (by omega) (by omega)).mpr hl), rd_n (by omega) (by decide), F.i 905 (by decide), lk.1, bS, hbit (by omega) (by omega), bS]
      cases hb : (sN S 905 0 p).testBit l with
      | false =>
        left
        rw [if_pos (show nI false.toNat = 0 from rfl), bS, add_n]
        refine ⟨μ, rfl, F, fun l' h1 h2 => ?_⟩
        by_cases e : l' = l
        · subst e; rw [hb] at h2; exact nomatch h2
        · exact hI l' (by omega) h2
      | true =>
        rw [if_neg (show ¬ nI true.toNat = 0 by decide)]
        obtain ⟨μ1, v1, v2⟩ := val_C (μ := μ) (f := f) (p := p) W (C.1.fr fun v hv => F.i v (nIn_of (L := [500, 501, 504]) (by decide) hv)) hl (fun i hi => by rw [F.i 918 (by decide)]; exact h i hi)
        rw [v1, bS]
        simp only []
        rw [ix_n (by omega) (by decide), bS, rd_n (by omega) (by decide), v2.i 906 (by decide), F.i 906 (by decide), lk1, bS]
        have F1 := F.trans v2
        by_cases c1 : wthF S p f l < sI S 906 p l
        · right
          rw [if_pos c1, rz_0, bS]
          refine ⟨_, rfl, ?_, F1⟩
          rw [no l (by omega) hb (fun q => by
            have q1 := q.1
            rw [Int32.le_iff_toInt_le] at q1
            rw [Int32.lt_iff_toInt_lt] at c1
            omega)]
          rfl
        · rw [if_neg c1, bS, rd_n (by omega) (by decide), v2.i 907 (by decide), F.i 907 (by decide), lk2, bS]
          by_cases c2 : sI S 907 p l < wthF S p f l
          · right
            rw [if_pos c2, rz_0, bS]
            refine ⟨_, rfl, ?_, F1⟩
            rw [no l (by omega) hb (fun q => by
              have q1 := q.2
              rw [Int32.le_iff_toInt_le] at q1
              rw [Int32.lt_iff_toInt_lt] at c2
              omega)]
            rfl
          · left
            rw [if_neg c2, bS, add_n]
            refine ⟨μ1, rfl, F1, fun l' h1 h2 => ?_⟩
            by_cases e : l' = l
            · subst e
              rw [Int32.lt_iff_toInt_lt] at c1 c2
              rw [Int32.le_iff_toInt_le, Int32.le_iff_toInt_le]
              omega
            · exact hI l' (by omega) h2
    · rintro g μ ⟨F, hI⟩
      refine ⟨(nI 1, μ), ?_, ?_, F⟩
      · show Pot_keepsHolds_l1b (nI p) (Pot_keepsHolds_l1 (nI p) g) (nI (nLw S)) μ = _
        unfold Pot_keepsHolds_l1b
        rw [F.i 504 (by decide), C.1.1, if_neg (fun q => absurd ((lt_n (by omega) (by omega)).mp q) (by omega)), rz_1, bS]
      · have : keptB S p f = true := keptB_iff.mpr fun l hl hb => hI l (by
          rcases Nat.lt_or_ge l (nLw S) with h1 | h1
          · exact h1
          · rw [lt_two h905 h1] at hb; exact nomatch hb) hb
        rw [this]; rfl
  simp only at hx hF
  subst hx
  exact ⟨μ', e, hF⟩
/-- the dishes below d -/
def dlu (S : St) (p d : Nat) : List Nat := (List.range d).filter fun d => keptB S p (prtP S p d)
theorem dlu_s {S : St} {p d : Nat} : dlu S p (d + 1) = if keptB S p (prtP S p d) = true then dlu S p d ++ [d] else dlu S p d := by
  unfold dlu
  rw [List.range_succ, List.filter_append]
  by_cases h : keptB S p (prtP S p d) = true
  · simp [h]
  · simp [h]
theorem dlu_len {S : St} {p d : Nat} : (dlu S p d).length ≤ d := by
  unfold dlu
  exact Nat.le_trans (List.length_filter_le _ _) (by simp)
def layI (S : St) (p : Nat) (μ0 : Mem) (d : Nat) (μ : Mem) : Prop :=
  Fr [502, 503, 910, 911, 913, 917, 918] μ0 μ ∧ (∀ q, q ≠ p → mI μ 910 0 q = mI μ0 910 0 q ∧ ∀ k, mI μ 911 q k = mI μ0 911 q k) ∧ mI μ 910 0 p = nI (dlu S p d).length ∧ (∀ i e, (dlu S p d)[i]? = some e → mI μ 913 0 i = nI e) ∧ (∀ e, (dlu S p d)[0]? = some e → ∀ k, k < mT S p → mI μ 911 p k = nI (prtP S p e k)) ∧ ∀ i, 4 ≤ i → i < 9 → mI μ 918 0 i = ltP S p 0 i
theorem keep_eq {S : St} {p d : Nat} {μ0 μ : Mem} (W : WF S) (hp : p < nPg S) (ht : told S p) (hd : d < totP S p) (h : layI S p μ0 d μ) (hk : keptB S p (prtP S p d) = true) (h917 : ∀ k, k < mT S p → mI μ 917 0 k = nI (prtP S p d k)) :
    ∃ μ', Pot_keep (nI p) (nI d) μ = some μ' ∧ layI S p μ0 (d + 1) μ' := by
  have h16 := W.pg.1
  have hm8 := (W.pg.2.1 p hp).1.2
  obtain ⟨F, hq, h910, h913, h911, h918⟩ := h
  have hl := dlu_len (S := S) (p := p) (d := d)
  have hd5 : d < 5000 := Nat.lt_of_lt_of_le hd ht
  have hs : dlu S p (d + 1) = dlu S p d ++ [d] := by rw [dlu_s, if_pos hk]
  have hcp : ∀ (x : Mem), x = (if (dlu S p d).length = 0 then mCP μ 917 0 911 p 8 else μ) → layI S p μ0 (d + 1) (mSI (mSI x 913 0 (dlu S p d).length (nI d)) 910 0 p (nI ((dlu S p d).length + 1))) := by
    intro x hx
    have cx : ∀ v r c, v ≠ 911 ∨ r ≠ p → mI x v r c = mI μ v r c := by
      intro v r c hv
      subst hx
      split
      · rw [I_CP, if_neg (fun q => by rcases hv with hv | hv; exact hv q.1; exact hv q.2.1)]
      · rfl
    have cF : Fr [911] μ x := by
      subst hx
      split
      · exact fr_mCP (by simp) Fr.refl rfl
      · exact Fr.refl
    refine ⟨fr_si (by simp) (fr_si (by simp) (F.trans (cF.mono (by simp)))), ?_, ?_, ?_, ?_, ?_⟩
    · intro q hqp
      refine ⟨?_, fun k => ?_⟩
      · rw [iS_c hqp, iS_v (by decide), cx _ _ _ (Or.inl (by decide))]; exact (hq q hqp).1
      · rw [iS_v (by decide), iS_v (by decide), cx _ _ _ (Or.inr hqp)]; exact (hq q hqp).2 k
    · rw [iS_eq, hs, List.length_append]; rfl
    · intro i e he
      rw [iS_v (by decide)]
      rw [hs] at he
      by_cases hi : i = (dlu S p d).length
      · subst hi
        rw [List.getElem?_append_right (Nat.le_refl _), Nat.sub_self] at he
        simp at he
        rw [iS_eq, he]
      · rw [iS_c hi, cx _ _ _ (Or.inl (by decide))]
        have hil : i < (dlu S p d).length := by
          have := (List.getElem?_eq_some_iff.mp he).1
          rw [List.length_append, List.length_singleton] at this
          omega
        rw [List.getElem?_append_left hil] at he
        exact h913 i e he
    · intro e he k hk'
      rw [iS_v (by decide), iS_v (by decide)]
      rw [hs] at he
      by_cases h0 : (dlu S p d).length = 0
      · rw [List.length_eq_zero_iff.mp h0] at he
        simp at he
        subst he
        rw [hx, if_pos h0, I_CP, if_pos ⟨rfl, rfl, by omega⟩]
        exact h917 k hk'
      · rw [List.getElem?_append_left (by omega)] at he
        rw [hx, if_neg h0]
        exact h911 e he k hk'
    · intro i h4 h9
      rw [iS_v (by decide), iS_v (by decide), cx _ _ _ (Or.inl (by decide))]
      exact h918 i h4 h9
  refine ⟨_, ?_, hcp _ rfl⟩
  unfold Pot_keep
  rw [rd_n (by omega) (by decide), h910, bS]
  have e910 : ∀ x : Mem, x = (if (dlu S p d).length = 0 then mCP μ 917 0 911 p 8 else μ) → mI x 910 0 p = nI (dlu S p d).length := by
    intro x hx
    subst hx
    split
    · rw [I_CP, if_neg (fun q => absurd q.1 (by decide))]; exact h910
    · exact h910
  by_cases h0 : (dlu S p d).length = 0
  · rw [if_pos ((eq0_n (by omega)).mpr h0), if_pos h0, ix_n (by omega) (by decide), bS, bS, bS, wr_n (by omega) (by decide), bS, add_n, wr_n (by omega) (by decide), bS]
  · rw [if_neg (fun q => h0 ((eq0_n (by omega)).mp q)), if_neg h0, bS, wr_n (by omega) (by decide), bS, add_n, wr_n (by omega) (by decide), bS]
theorem dl_dlu {S : St} {p : Nat} : dl S p = dlu S p (totP S p) := rfl
theorem layl_eq {S : St} {p : Nat} {μ0 : Mem} (W : WF S) (C : C_th S μ0 ∧ C_pg S μ0 ∧ C_lw S μ0 ∧ C_ho S μ0) (hp : p < nPg S) (ht : told S p) (h912 : mI μ0 912 0 0 = nI p)
    (hr : ∀ k, k < mT S p → mI μ0 914 0 k = nI (loP S p k) ∧ mI μ0 915 0 k = nI (wdP S p k) ∧ mI μ0 916 0 k = nI (strP S p k)) (h0 : layI S p μ0 0 μ0) :
    ∃ μ', Pot_lay_l1 (nI p) (nI (totP S p)) FU (nI 0) μ0 = some μ' ∧ layI S p μ0 (totP S p) μ' := by
  have ht' := ht
  unfold told at ht'
  refine loopE (fun g v s => Pot_lay_l1 (nI p) (nI (totP S p)) g v s) (totP S p) (fun d s => layI S p μ0 d s) (fun r => layI S p μ0 (totP S p) r) ?_ ?_ (totP S p) 0 μ0 FU (by omega) (FU_lt (by omega)) h0
  · intro g d μ hd hI
    left
    have F := hI.1
    obtain ⟨μ1, a1, a2, a3⟩ := spread_eq (μ0 := μ) W ⟨C.1.fr fun v hv => F.i v (nIn_of (by decide) hv), C.2.1.fr fun v hv => F.i v (nIn_of (by decide) hv)⟩ hp ht (by rw [F.i 912 (by decide)]; exact h912) hd (fun k hk => by rw [F.i 914 (by decide), F.i 915 (by decide), F.i 916 (by decide)]; exact hr k hk) hI.2.2.2.2.2
    have F1 := F.trans (a2.mono (W' := [502, 503, 910, 911, 913, 917, 918]) (by simp))
    obtain ⟨μ2, b1, b2⟩ := holds_eq (μ0 := μ1) (f := prtP S p d) W ⟨C.2.2.1.fr fun v hv => F1.i v (nIn_of (by decide) hv), C.2.2.2.fr fun v hv => F1.i v (nIn_of (by decide) hv)⟩ hp a3.2
    have FF : Fr [502, 503, 917, 918] μ μ2 := (a2.mono (by simp)).trans (b2.mono (by simp))
    have hI2 : layI S p μ0 d μ2 := by
      obtain ⟨-, i2, i3, i4, i5, i6⟩ := hI
      refine ⟨F1.trans (b2.mono (by simp)), ?_, by rw [FF.i 910 (by decide)]; exact i3, by rw [FF.i 913 (by decide)]; exact i4, by rw [FF.i 911 (by decide)]; exact i5, fun i h4 h9 => ?_⟩
      · rw [FF.i 910 (by decide), FF.i 911 (by decide)]; exact i2
      · rw [b2.i 918 (by decide), a3.2 i h9]; exact lt_hi h4
    have step : ∀ μ3, (if nI (keptB S p (prtP S p d)).toNat = 0 then some μ2 else (Pot_keep (nI p) (nI d) μ2).bind fun μ4 => some μ4) = some μ3 → Pot_lay_l1 (nI p) (nI (totP S p)) (g + 1) (nI d) μ = Pot_lay_l1 (nI p) (nI (totP S p)) g (nI (d + 1)) μ3 := by
      intro μ3 h3
      show Pot_lay_l1b (nI p) (nI (totP S p)) (Pot_lay_l1 (nI p) (nI (totP S p)) g) (nI d) μ = _
      unfold Pot_lay_l1b
      rw [if_pos ((lt_n (by omega) (by omega)).mpr hd), if_neg (fun q => absurd ((lt_n (by omega) (by omega)).mp q) (by omega)), a1, bS, b1, bS]
      simp only []
      rw [h3, bS, bS, add_n]
    cases hk : keptB S p (prtP S p d) with
    | false =>
      rw [hk] at step
      refine ⟨μ2, step μ2 (if_pos rfl), ?_⟩
      have : dlu S p (d + 1) = dlu S p d := by rw [dlu_s, if_neg (by rw [hk]; decide)]
      unfold layI
      rw [this]
      exact hI2
    | true =>
      rw [hk] at step
      obtain ⟨μ3, c1, c2⟩ := keep_eq W hp ht hd hI2 hk (by rw [b2.i 917 (by decide)]; exact a3.1)
      exact ⟨μ3, step μ3 (by rw [if_neg (show ¬ nI true.toNat = 0 by decide), c1, bS]), c2⟩
  · intro g μ hI
    refine ⟨μ, ?_, hI⟩
    show Pot_lay_l1b (nI p) (nI (totP S p)) (Pot_lay_l1 (nI p) (nI (totP S p)) g) (nI (totP S p)) μ = _
    unfold Pot_lay_l1b
    rw [if_neg (fun q => absurd ((lt_n (by omega) (by omega)).mp q) (by omega))]
/-- page p's dishes stand in the rows -/
def On (S : St) (p : Nat) (μ : Mem) : Prop := CR S μ ∧ p < nPg S ∧ mI μ 912 0 0 = nI p ∧ mI μ 909 0 p = nI (sN S 908 0 0)
theorem On.rows {S : St} {p : Nat} {μ : Mem} (h : On S p μ) : Rows S p μ := h.1.ca.2.2.2.2.2 p h.2.1 h.2.2.1 h.2.2.2
theorem On.cnt {S : St} {p : Nat} {μ : Mem} (h : On S p μ) : Cnt S p μ := h.1.ca.2.2.2.2.1 p h.2.1 h.2.2.2
def layW : List Nat := [502, 503, 909, 910, 911, 912, 913, 914, 915, 916, 917, 918]
theorem lay_new {S : St} {p : Nat} {μ0 μ' : Mem} (C : CR S μ0) (hp : p < nPg S) (hp16 : nPg S ≤ 16) (F : Fr layW μ0 μ') (h912 : mI μ' 912 0 0 = nI p) (h909 : ∀ q, mI μ' 909 0 q = if q = p then nI (sN S 908 0 0) else mI μ0 909 0 q)
    (hq : ∀ q, q ≠ p → mI μ' 910 0 q = mI μ0 910 0 q ∧ ∀ k, mI μ' 911 q k = mI μ0 911 q k) (hC : Cnt S p μ') (hR : Rows S p μ') : On S p μ' := by
  have hca : C_ca S μ' := by
    obtain ⟨a1, a2, a3, a4, a5, a6⟩ := C.ca
    refine ⟨by rw [F.i 908 (by decide)]; exact a1, fun q hq16 => ?_, fun q hq16 hqn => ?_, Or.inr ⟨p, hp, h912⟩, fun q hqn hqa => ?_, fun q hqn hq2 _ => ?_⟩
    · rw [h909]
      split
      · exact Or.inr ⟨_, Nat.le_refl _, rfl⟩
      · exact a2 q hq16
    · rw [h909, if_neg (by omega)]; exact a3 q hq16 hqn
    · by_cases e : q = p
      · subst e; exact hC
      · rw [h909, if_neg e] at hqa
        have := a5 q hqn hqa
        unfold Cnt at *
        obtain ⟨b1, b2⟩ := hq q e
        simp only [b1, b2]
        exact this
    · rw [h912] at hq2
      have : q = p := ((eq_n (by omega) (by omega)).mp hq2).symm
      subst this; exact hR
  refine ⟨⟨C.tp.fr fun v hv => F.i v (nIn_of (by decide) hv), C.th.fr fun v hv => F.i v (nIn_of (by decide) hv), C.pg.fr fun v hv => F.i v (nIn_of (by decide) hv), C.lw.fr fun v hv => F.i v (nIn_of (by decide) hv), C.tr.fr fun v hv => F.i v (nIn_of (by decide) hv), C.ho.fr fun v hv => F.i v (nIn_of (by decide) hv), C.bk.fr fun v hv => F.i v (nIn_of (by decide) hv), C.dy.fr fun v hv => F.i v (nIn_of (by decide) hv), hca, C.kn.fr fun v hv => F.i v (nIn_of (by decide) hv)⟩, hp, h912, ?_⟩
  rw [h909, if_pos rfl]
theorem lay_eq {S : St} {p : Nat} {μ0 : Mem} (W : WF S) (C : CR S μ0) (hp : p < nPg S) : ∃ μ', Pot_lay (nI p) μ0 = some (cntI S p, μ') ∧ On S p μ' ∧ Fr layW μ0 μ' := by
  have h16 := W.pg.1
  have hca := C.ca
  have h908 := hca.1
  by_cases hs : mI μ0 912 0 0 = nI p ∧ mI μ0 909 0 p = nI (sN S 908 0 0)
  · have hon : On S p μ0 := ⟨C, hp, hs.1, hs.2⟩
    refine ⟨μ0, ?_, hon, Fr.refl⟩
    unfold Pot_lay kj
    simp only []
    rw [if_pos hs.1, rd_n (by omega) (by decide), hs.2, bS, h908, if_pos rfl, rd_n (by omega) (by decide), hon.cnt.1, bS]
  · have key : ∀ r, ((some (mSI μ0 912 0 0 (nI p))).bind fun μ4 => (mWr μ4 909 0 16 (nI p) (mI μ4 908 0 0)).bind fun μ5 => (Pot_frame (nI p) μ5).bind fun (x6, μ7) => (if (nI 5000) < x6 then some ((-1) : Int32) else some (nI 0)).bind fun x8 => (mWr μ7 910 0 16 (nI p) x8).bind fun μ9 => (Pot_lay_l1 (nI p) x6 FU (nI 0) μ9).bind fun μ10 => (mRd μ10 910 0 16 (nI p)).bind fun x11 => some (x11, μ10)) = some r → Pot_lay (nI p) μ0 = some r := by
      intro r hr
      unfold Pot_lay kj
      simp only []
      by_cases h1 : mI μ0 912 0 0 = nI p
      · rw [if_pos h1, rd_n (by omega) (by decide), bS, h908, if_neg (fun q => hs ⟨h1, q⟩)]; exact hr
      · rw [if_neg h1]; exact hr
    let μ5 := mSI (mSI μ0 912 0 0 (nI p)) 909 0 p (nI (sN S 908 0 0))
    have F5 : Fr [909, 912] μ0 μ5 := fr_si (by simp) (fr_si (by simp) Fr.refl)
    have e5 : ∀ q, mI μ5 909 0 q = if q = p then nI (sN S 908 0 0) else mI μ0 909 0 q := by
      intro q
      by_cases e : q = p
      · subst e; rw [if_pos rfl]; exact iS_eq
      · rw [if_neg e]; exact (iS_c e).trans (iS_v (by decide))
    have e512 : mI μ5 912 0 0 = nI p := (iS_v (by decide)).trans iS_eq
    have Cth : C_th S μ5 := C.th.fr fun v hv => F5.i v (nIn_of (by decide) hv)
    have Cpg : C_pg S μ5 := C.pg.fr fun v hv => F5.i v (nIn_of (by decide) hv)
    have Cho : C_ho S μ5 := C.ho.fr fun v hv => F5.i v (nIn_of (by decide) hv)
    obtain ⟨x, μ7, f1, f2, f3, f4, f5⟩ := frame_eq (μ0 := μ5) W ⟨Cth, Cpg, Cho⟩ hp
    have e908 : mI (mSI μ0 912 0 0 (nI p)) 908 0 0 = nI (sN S 908 0 0) := (iS_v (by decide)).trans h908
    by_cases ht : told S p
    · obtain ⟨rfl, f3'⟩ := f3 ht
      have ht' := ht
      unfold told at ht'
      let μ9 := mSI μ7 910 0 p (nI 0)
      have F9 : Fr [909, 910, 912, 914, 915, 916, 918] μ0 μ9 := fr_si (by simp) ((F5.mono (by simp)).trans (f2.mono (by simp)))
      have v9 : ∀ v, v ≠ 910 → mI μ9 v = mI μ7 v := fun v hv => funext fun r => funext fun c => iS_v hv
      have h9 : layI S p μ9 0 μ9 := ⟨Fr.refl, fun _ _ => ⟨rfl, fun _ => rfl⟩, iS_eq, fun i e he => by simp [dlu] at he, fun e he => by simp [dlu] at he, fun i h4 hi => by rw [v9 918 (by decide)]; exact f5 i h4 hi⟩
      obtain ⟨μ10, g1, g2, g3, g4, g5, g6, g7⟩ := layl_eq (μ0 := μ9) W ⟨C.th.fr fun v hv => F9.i v (nIn_of (by decide) hv), C.pg.fr fun v hv => F9.i v (nIn_of (by decide) hv), C.lw.fr fun v hv => F9.i v (nIn_of (by decide) hv), C.ho.fr fun v hv => F9.i v (nIn_of (by decide) hv)⟩ hp ht (by rw [v9 912 (by decide), f2.i 912 (by decide)]; exact e512) (fun k hk => by rw [v9 914 (by decide), v9 915 (by decide), v9 916 (by decide)]; exact f3' k hk) h9
      have FF : Fr layW μ0 μ10 := (F9.mono (by unfold layW; simp)).trans (g2.mono (by unfold layW; simp))
      have hc : cntI S p = nI (dlu S p (totP S p)).length := if_pos ht
      refine ⟨μ10, ?_, ?_, FF⟩
      · refine key _ ?_
        rw [bS, e908, wr_n (by omega) (by decide), bS]
        show ((Pot_frame (nI p) μ5).bind _) = _
        rw [f1, bS]
        simp only []
        rw [if_neg (fun q => absurd ((lt_n (by omega) (by omega)).mp q) (by omega)), bS, wr_n (by omega) (by decide), bS]
        show ((Pot_lay_l1 (nI p) (nI (totP S p)) FU (nI 0) μ9).bind _) = _
        rw [g1, bS, rd_n (by omega) (by decide), g4, bS, hc]
      · refine lay_new C hp h16 FF ?_ ?_ ?_ ⟨?_, ?_⟩ ⟨?_, ?_⟩
        · rw [g2.i 912 (by decide), v9 912 (by decide), f2.i 912 (by decide)]; exact e512
        · rw [g2.i 909 (by decide), v9 909 (by decide), f2.i 909 (by decide)]; exact e5
        · intro q hq
          obtain ⟨b1, b2⟩ := g3 q hq
          refine ⟨b1.trans ?_, fun k => (b2 k).trans ?_⟩
          · show mI (mSI μ7 910 0 p (nI 0)) 910 0 q = _
            rw [iS_c hq, f2.i 910 (by decide), F5.i 910 (by decide)]
          · rw [v9 911 (by decide), f2.i 911 (by decide), F5.i 911 (by decide)]
        · rw [hc]; exact g4
        · exact fun _ => g6
        · refine fun _ => ⟨g5, fun k hk => ?_⟩
          rw [g2.i 914 (by decide), g2.i 915 (by decide), g2.i 916 (by decide), v9 914 (by decide), v9 915 (by decide), v9 916 (by decide)]
          exact f3' k hk
        · exact g7
    · obtain ⟨A, rfl, hA, hA2⟩ := f4 ht
      let μ9 := mSI μ7 910 0 p (-1)
      have v9 : ∀ v, v ≠ 910 → mI μ9 v = mI μ7 v := fun v hv => funext fun r => funext fun c => iS_v hv
      have FF : Fr layW μ0 μ9 := fr_si (by unfold layW; simp) ((F5.mono (by unfold layW; simp)).trans (f2.mono (by unfold layW; simp)))
      have hc : cntI S p = -1 := if_neg ht
      refine ⟨μ9, ?_, ?_, FF⟩
      · refine key _ ?_
        rw [bS, e908, wr_n (by omega) (by decide), bS]
        show ((Pot_frame (nI p) μ5).bind _) = _
        rw [f1, bS]
        simp only []
        rw [if_pos ((lt_n (by decide) (by omega)).mpr hA), bS, wr_n (by omega) (by decide), bS]
        have hl : Pot_lay_l1 (nI p) (nI A) FU (nI 0) μ9 = some μ9 := by
          obtain ⟨g, hg, hg2⟩ := FU_g
          obtain ⟨g, rfl⟩ : ∃ h, g = h + 1 := ⟨g - 1, by omega⟩
          rw [hg]
          show Pot_lay_l1b (nI p) (nI A) (Pot_lay_l1 (nI p) (nI A) g) (nI 0) μ9 = _
          unfold Pot_lay_l1b
          rw [if_pos ((lt_n (by omega) (by omega)).mpr (by omega)), if_pos ((lt_n (by decide) (by omega)).mpr hA)]
        show ((Pot_lay_l1 (nI p) (nI A) FU (nI 0) μ9).bind _) = _
        rw [hl, bS, rd_n (by omega) (by decide), show mI μ9 910 0 p = -1 from iS_eq, bS, hc]
      · refine lay_new C hp h16 FF ?_ ?_ ?_ ⟨?_, fun q => absurd q ht⟩ ⟨fun q => absurd q ht, ?_⟩
        · rw [v9 912 (by decide), f2.i 912 (by decide)]; exact e512
        · rw [v9 909 (by decide), f2.i 909 (by decide)]; exact e5
        · intro q hq
          refine ⟨?_, fun k => ?_⟩
          · show mI (mSI μ7 910 0 p (-1)) 910 0 q = _
            rw [iS_c hq, f2.i 910 (by decide), F5.i 910 (by decide)]
          · rw [v9 911 (by decide), f2.i 911 (by decide), F5.i 911 (by decide)]
        · rw [hc]; exact iS_eq
        · intro i h4 hi
          rw [v9 918 (by decide)]; exact f5 i h4 hi
theorem show_eq {S : St} {p i d : Nat} {μ0 : Mem} (W : WF S) (h : On S p μ0) (ht : told S p) (hd : (dl S p)[i]? = some d) : ∃ μ', Pot_show (nI i) μ0 = some μ' ∧ On S p μ' ∧ Shw S p d μ' ∧ Fr [917, 918] μ0 μ' := by
  have hil : i < (dl S p).length := (List.getElem?_eq_some_iff.mp hd).1
  have hle := dlu_len (S := S) (p := p) (d := totP S p)
  rw [← dl_dlu] at hle
  have ht' := ht
  unfold told at ht'
  have hd2 : d < totP S p := by
    have := List.mem_of_getElem? hd
    exact List.mem_range.mp (List.mem_filter.mp this).1
  obtain ⟨r1, r2⟩ := h.rows
  obtain ⟨μ1, a1, a2, a3⟩ := spread_eq W ⟨h.1.th, h.1.pg⟩ h.2.1 ht h.2.2.1 hd2 (r1 ht).2 r2
  have hon : On S p μ1 := by
    have hR : Rows S p μ1 := ⟨fun q => ⟨by rw [a2.i 913 (by decide)]; exact (r1 q).1, by rw [a2.i 914 (by decide), a2.i 915 (by decide), a2.i 916 (by decide)]; exact (r1 q).2⟩, fun i h4 h9 => by rw [a3.2 i h9]; exact lt_hi h4⟩
    have C := h.1
    obtain ⟨c1, c2, c3, c4, c5, c6⟩ := C.ca
    refine ⟨⟨C.tp.fr fun v hv => a2.i v (nIn_of (by decide) hv), C.th.fr fun v hv => a2.i v (nIn_of (by decide) hv), C.pg.fr fun v hv => a2.i v (nIn_of (by decide) hv), C.lw.fr fun v hv => a2.i v (nIn_of (by decide) hv), C.tr.fr fun v hv => a2.i v (nIn_of (by decide) hv), C.ho.fr fun v hv => a2.i v (nIn_of (by decide) hv), C.bk.fr fun v hv => a2.i v (nIn_of (by decide) hv), C.dy.fr fun v hv => a2.i v (nIn_of (by decide) hv), ?_, C.kn.fr fun v hv => a2.i v (nIn_of (by decide) hv)⟩, h.2.1, by rw [a2.i 912 (by decide)]; exact h.2.2.1, by rw [a2.i 909 (by decide)]; exact h.2.2.2⟩
    refine ⟨by rw [a2.i 908 (by decide)]; exact c1, by rw [a2.i 909 (by decide)]; exact c2, by rw [a2.i 909 (by decide)]; exact c3, by rw [a2.i 912 (by decide)]; exact c4, ?_, ?_⟩
    · rw [a2.i 909 (by decide)]
      exact fun q hq hqa => (c5 q hq hqa).fr fun v hv => a2.i v (nIn_of (L := [910, 911]) (by decide) hv)
    · intro q hq h1 _
      rw [a2.i 912 (by decide), h.2.2.1] at h1
      have h16 := W.pg.1
      have hp := h.2.1
      have : p = q := (eq_n (by omega) (by omega)).mp h1
      subst this
      exact hR
  refine ⟨μ1, ?_, hon, a3, a2⟩
  unfold Pot_show
  rw [if_neg (nI_pos (by omega)), if_pos ((lt_n (by omega) (by decide)).mpr (by omega)), rd_n (by omega) (by decide), (r1 ht).1 i d hd, bS, a1, bS]
theorem partsAt_eq {S : St} {p i d k : Nat} {μ : Mem} (W : WF S) (h : On S p μ) (ht : told S p) (hd : (dl S p)[i]? = some d) (hk : k < mT S p) : Pot_partsAt (nI i) (nI k) μ = some (nI (prtP S p d k)) := by
  have hil : i < (dl S p).length := (List.getElem?_eq_some_iff.mp hd).1
  have hle := dlu_len (S := S) (p := p) (d := totP S p)
  rw [← dl_dlu] at hle
  have ht' := ht
  unfold told at ht'
  have hd2 : d < totP S p := by
    have := List.mem_of_getElem? hd
    exact List.mem_range.mp (List.mem_filter.mp this).1
  obtain ⟨r1, r2⟩ := h.rows
  unfold Pot_partsAt
  rw [if_neg (nI_pos (by omega)), if_pos ((lt_n (by omega) (by decide)).mpr (by omega)), rd_n (by omega) (by decide), (r1 ht).1 i d hd, bS, partsIn_eq W h.2.1 ht hd2 hk ((r1 ht).2 k hk), bS]
theorem laid_eq {S : St} {p : Nat} {μ0 : Mem} (W : WF S) (C : CR S μ0) (hp : p < nPg S) : ∃ μ', B_laid (nI p) μ0 = some (cntI S p, μ') ∧ On S p μ' ∧ Fr layW μ0 μ' := by
  obtain ⟨μ', a1, a2, a3⟩ := lay_eq W C hp
  refine ⟨μ', ?_, a2, a3⟩
  unfold B_laid
  rw [pgh_in C.pg.1 (by have := W.pg.1; omega) hp, bS, if_neg (by decide), a1, bS]
theorem laid_out {S : St} {x : Int32} {μ0 : Mem} (C : CR S μ0) (hx : outN x (nPg S)) : B_laid x μ0 = some (-1, μ0) := by
  unfold B_laid
  rw [pgh_out C.pg.1 hx, bS, if_pos (by decide)]
/-- a dish that there is -/
def Dsh (S : St) (x y : Int32) (p i d : Nat) : Prop := p < nPg S ∧ x = nI p ∧ y = nI i ∧ told S p ∧ (dl S p)[i]? = some d
theorem dl_le {S : St} {p : Nat} (ht : told S p) : (dl S p).length ≤ 5000 := Nat.le_trans dlu_len ht
theorem cnt_told {S : St} {p : Nat} (ht : told S p) : cntI S p = nI (dl S p).length := if_pos ht
theorem cnt_not {S : St} {p : Nat} (ht : ¬ told S p) : cntI S p = -1 := if_neg ht
theorem shows_yes {S : St} {x y : Int32} {p i d : Nat} {μ0 : Mem} (W : WF S) (C : CR S μ0) (h : Dsh S x y p i d) : ∃ μ', B_shows x y μ0 = some (nI 1, μ') ∧ On S p μ' ∧ Shw S p d μ' ∧ Fr layW μ0 μ' := by
  obtain ⟨hp, rfl, rfl, ht, hd⟩ := h
  have hil : i < (dl S p).length := (List.getElem?_eq_some_iff.mp hd).1
  have h5 := dl_le ht
  obtain ⟨μ1, a1, a2, a3⟩ := laid_eq W C hp
  obtain ⟨μ2, b1, b2, b3, b4⟩ := show_eq W a2 ht hd
  refine ⟨μ2, ?_, b2, b3, a3.trans (b4.mono (by unfold layW; simp))⟩
  unfold B_shows
  rw [if_neg (nI_pos (by omega)), a1, bS]
  simp only []
  rw [cnt_told ht, if_pos ((lt_n (by omega) (by omega)).mpr hil), b1, bS, rz_1, bS]
theorem shows_no {S : St} {x y : Int32} {μ0 : Mem} (W : WF S) (C : CR S μ0) (h : ∀ p i d, ¬ Dsh S x y p i d) : ∃ μ', B_shows x y μ0 = some (nI 0, μ') ∧ CR S μ' ∧ Fr layW μ0 μ' := by
  unfold B_shows
  by_cases hy : y < 0
  · rw [if_pos hy, rz_0, bS]; exact ⟨μ0, rfl, C, Fr.refl⟩
  · rw [if_neg hy]
    rcases arg_n x (nPg S) (by have := W.pg.1; omega) with hx | ⟨p, hp, rfl⟩
    · rw [laid_out C hx, bS]
      simp only []
      rw [if_neg (fun q => by rw [Int32.lt_iff_toInt_lt] at q hy; rw [i0] at hy; rw [im1] at q; omega), rz_0, bS]
      exact ⟨μ0, rfl, C, Fr.refl⟩
    · obtain ⟨μ1, a1, a2, a3⟩ := laid_eq W C hp
      rw [a1, bS]
      simp only []
      refine ⟨μ1, ?_, a2.1, a3⟩
      rw [if_neg (fun q => ?_), rz_0, bS]
      by_cases ht : told S p
      · rw [cnt_told ht] at q
        obtain ⟨i, hi, rfl⟩ := nI_of hy
        have h5 := dl_le ht
        rw [lt_n hi (by omega)] at q
        exact h p i _ ⟨hp, rfl, rfl, ht, List.getElem?_eq_getElem q⟩
      · rw [cnt_not ht, Int32.lt_iff_toInt_lt, im1] at q
        rw [Int32.lt_iff_toInt_lt, i0] at hy
        omega
