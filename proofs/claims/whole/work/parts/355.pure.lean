/-! PURE: a thing on a page that is read, in both -/
theorem xm_fr {p : Nat} {W : List Nat} {a b : Mem} (h : Fr W a b) (hW : (W.all fun v => v == 1303 || v == 1304) = true) : Ft (XM p) a b := Ft.of h fun v hv r c => by
  have := List.all_eq_true.mp hW v hv
  simp at this
  rcases this with e | e
  · exact Or.inl e
  · exact Or.inr (Or.inl e)
theorem xc_fr {q : Nat} {W : List Nat} {a b : Mem} (h : Fr W a b) (hW : (W.all fun v => v == 1002 || v == 1003) = true) : Ft (XC q) a b := Ft.of h fun v hv r c => by
  have := List.all_eq_true.mp hW v hv
  simp at this
  rcases this with e | e
  · exact Or.inl e
  · exact Or.inr (Or.inl e)
/-- no thing can follow: the reference -/
theorem item_no {S : St} {i p m : Nat} {L lo hi : Nat → Nat} {ν : Mem} (W : W_tp S) (h12 : nTh S ≤ 12) (KM : K_M S i ν) (hiS : i ≤ nTp S) (hp : p ≤ 16) (hm : m ≤ 8) (e14 : mI ν 1314 0 0 = nI (nTh S)) (P : PgM p m L lo hi ν) (h : outN (lkI S i - nI 97) (nTh S) ∨ (∃ k, k < m ∧ lkI S i - nI 97 = nI (L k)) ∨ m = 8) :
    ∃ ν', M_item (nI p) ν = some ν' ∧ mI ν' 1304 0 0 = nI (skp S i) ∧ Ft (XM p) ν ν' := by
  obtain ⟨ν1, a1, a2, a3⟩ := look_M W KM hiS
  obtain ⟨ν2, b1, b2, b3⟩ := bad_M a2
  have F : Ft (XM p) ν ν2 := (xm_fr a3 (by decide)).trans (xm_fr b3 (by decide))
  have e14' : mI ν1 1314 0 0 = nI (nTh S) := by rw [a3.i 1314 (by decide)]; exact e14
  have P1 : PgM p m L lo hi ν1 := ⟨by rw [a3.i 1315 (by decide)]; exact P.1, fun k hk => by rw [a3.i 1316 (by decide), a3.i 1317 (by decide), a3.i 1318 (by decide)]; exact P.2 k hk⟩
  refine ⟨ν2, ?_, b2, F⟩
  unfold M_item
  rw [a1, bS]
  simp only []
  rw [bS]
  rcases arg_n (lkI S i - nI 97) (nTh S) (by omega) with hx | ⟨t, ht, hx⟩
  · rw [mth_out e14' (by omega) hx, bS, if_pos z00, b1, bS]
  · rw [hx, mth_in e14' (by omega) ht, bS, if_neg n10]
    rcases onPage_M (x := nI t) hp hm P1 with ⟨k, k1, k2, k3⟩ | ⟨k1, k3⟩
    · rw [k3, bS, if_neg (fun z => neg_n (by omega) z.symm), b1, bS]
    · rw [k3, bS, if_pos rfl]
      have h8 : m = 8 := by
        rcases h with h | ⟨k, k4, k5⟩ | h
        · rw [hx] at h
          have := mth_out (x := nI t) e14' (by omega) h
          rw [mth_in e14' (by omega) ht] at this
          exact absurd (Option.some.inj this) (by decide)
        · rw [hx] at k5; exact absurd k5 (k1 k k4)
        · exact h
      rw [rd_n (by omega) (by decide), P1.1, bS, h8, if_pos rfl, b1, bS]
theorem PgC_bit {q m b t : Nat} {L lo hi : Nat → Nat} {μ : Mem} (P : PgC q m L lo hi μ) (h : mI μ 706 0 q = nI b) (hb : b < 4096) : b.testBit t = true ↔ ∃ k, k < m ∧ L k = t := by
  obtain ⟨b', e, h1, h2⟩ := P.2.2.1
  have : b = b' := (eq_n (by omega) (by omega)).mp (h.symm.trans e)
  subst this
  exact h2 t
theorem PgC_bit7 {q m b t : Nat} {L lo hi : Nat → Nat} {μ : Mem} (P : PgC q m L lo hi μ) (h : mI μ 707 0 q = nI b) (hb : b < 4096) : b.testBit t = true ↔ ∃ k, k < m ∧ L k = t ∧ lo k = 0 := by
  obtain ⟨b', e, h1, h2⟩ := P.2.2.2
  have : b = b' := (eq_n (by omega) (by omega)).mp (h.symm.trans e)
  subst this
  exact h2 t
theorem PgW_up {S : St} {m t l h : Nat} {L lo hi : Nat → Nat} (P : PgW S m L lo hi) (ht : t < nTh S) (hn : ∀ k, k < m → ¬ L k = t) (hl : l ≤ h) (hh : h ≤ 99) (h0 : l = 0 → h = 0) : PgW S (m + 1) (upX L m t) (upX lo m l) (upX hi m h) := by
  refine ⟨fun k hk => ?_, fun k j hk hj he => ?_⟩
  · by_cases e : k = m
    · subst e
      rw [up_new, up_new, up_new]
      exact ⟨ht, by omega, hh, hl, h0⟩
    · rw [up_old (by omega), up_old (by omega), up_old (by omega)]
      exact P.1 k (by omega)
  · by_cases e : k = m
    · by_cases e2 : j = m
      · omega
      · rw [e, up_new, up_old (by omega)] at he
        exact absurd he.symm (hn j (by omega))
    · by_cases e2 : j = m
      · rw [e2, up_new, up_old (by omega)] at he
        exact absurd he (hn k (by omega))
      · rw [up_old (by omega), up_old (by omega)] at he
        exact P.2 k j (by omega) (by omega) he
theorem thing_L {S : St} {i q p m : Nat} {L lo hi : Nat → Nat} {μ ν : Mem} (W : W_tp S) (h12 : nTh S ≤ 12) (KC : K_C S i μ) (KM : K_M S i ν) (hiS : i ≤ nTp S) (hq : q ≤ 16) (hp : p ≤ 16) (hm : m < 8) (e12 : mI μ 712 0 0 = nI q) (e808 : mI μ 808 0 0 = nI (nTh S)) (e14 : mI ν 1314 0 0 = nI (nTh S)) (P : PgC q m L lo hi μ) (R : PgM p m L lo hi ν) (V : PgW S m L lo hi) :
    (∃ j μ' ν', j ≤ nTp S ∧ Pages_readsThing μ = some (nI 0, μ') ∧ mI μ' 1003 0 0 = nI j ∧ Ft (XC q) μ μ' ∧ M_item (nI p) ν = some ν' ∧ mI ν' 1304 0 0 = nI j ∧ Ft (XM p) ν ν') ∨
    ∃ t l h i' μ' ν', i' ≤ nTp S ∧ Pages_readsThing μ = some (nI 1, μ') ∧ K_C S i' μ' ∧ Ft (XC q) μ μ' ∧ PgC q (m + 1) (upX L m t) (upX lo m l) (upX hi m h) μ' ∧ M_item (nI p) ν = some ν' ∧ K_M S i' ν' ∧ Ft (XM p) ν ν' ∧ PgM p (m + 1) (upX L m t) (upX lo m l) (upX hi m h) ν' ∧ PgW S (m + 1) (upX L m t) (upX lo m l) (upX hi m h) := by
  have hn := W.1
  have hskp := skp_le hiS
  obtain ⟨μa, a1, a2, a3⟩ := look_C W KC hiS
  obtain ⟨b, eb, hb4, -⟩ := P.2.2.1
  have hbit' := fun t => PgC_bit (t := t) P eb hb4
  obtain ⟨μw, w1, w2, w3⟩ := wrong_C a2
  have Fw : Ft (XC q) μ μw := (xc_fr a3 (by decide)).trans (xc_fr w3 (by decide))
  rcases arg_n (lkI S i - nI 97) (nTh S) (by omega) with hx | ⟨t, ht, hx⟩
  · left
    obtain ⟨ν', n1, n2, n3⟩ := item_no W h12 KM hiS hp (by omega) e14 R (Or.inl hx)
    refine ⟨skp S i, μw, ν', hskp.2, ?_, w2, Fw, n1, n2, n3⟩
    unfold Pages_readsThing
    rw [a1, bS]
    simp only []
    rw [bS, show Pantry_has (lkI S i - nI 97) μa = some (nI 0) from thh_out (by rw [a3.i 808 (by decide)]; exact e808) hx, bS, if_pos z00, w1, bS]
    simp only []
    rw [rz_0, bS]
  by_cases hon : ∃ k, k < m ∧ L k = t
  · left
    obtain ⟨ν', n1, n2, n3⟩ := item_no W h12 KM hiS hp (by omega) e14 R (Or.inr (Or.inl (by obtain ⟨k, k1, k2⟩ := hon; exact ⟨k, k1, by rw [hx, k2]⟩)))
    refine ⟨skp S i, μw, ν', hskp.2, ?_, w2, Fw, n1, n2, n3⟩
    unfold Pages_readsThing
    rw [a1, bS]
    simp only []
    rw [bS, hx, show Pantry_has (nI t) μa = some (nI 1) from thh_in (by rw [a3.i 808 (by decide)]; exact e808) (by omega) ht, bS, if_neg n10, a3.i 712 (by decide), e12, rd_n (by omega) (by decide), a3.i 706 (by decide), eb, bS, hbit (by omega) (by omega), (hbit' t).mpr hon, bS, if_neg (show ¬ nI true.toNat = 0 from n10), w1, bS]
    simp only []
    rw [rz_0, bS]
  have hbf : b.testBit t = false := by
    cases hb : b.testBit t with
    | false => rfl
    | true => exact absurd ((hbit' t).mp hb) hon
  have hno : ∀ k, k < m → ¬ L k = t := fun k hk he => hon ⟨k, hk, he⟩
  have h2t : 2 ^ t < 4096 := Nat.pow_lt_pow_right (a := 2) (m := t) (n := 12) (by decide) (by omega)
  obtain ⟨s1, b7, μ1, es1, hsk, e7, hb7, C1, C2, C3, C4, C5, C6, C7, C8, C9, cls⟩ := thingC W KC hiS hq hm h12 e12 e808 P ht hx eb hbf hb4
  have hbit7 := fun u => PgC_bit7 (t := u) P e7 hb7
  have hs1 : s1 ≤ nTp S := by rw [es1]; exact (skp_le (by omega)).2
  have hss : skp S s1 = s1 := by rw [es1]; exact skp_skp (by omega)
  have e12' : mI μ1 712 0 0 = nI q := (C2 712 0 0 (by simp [XC])).trans e12
  -- the reference
  obtain ⟨νa, d1, d2, d3⟩ := look_M W KM hiS
  obtain ⟨νb, hνb⟩ : ∃ z, z = mSI (mSI (mSI (mSI νa 1303 0 0 (nI (skp S i + 1))) 1316 0 (8 * p + m) (nI t)) 1317 0 (8 * p + m) (nI 0)) 1318 0 (8 * p + m) (nI 0) := ⟨_, rfl⟩
  have Kb : K_M S (skp S i + 1) νb := by rw [hνb]; exact (((d2.at).wr (by decide)).wr (by decide)).wr (by decide)
  obtain ⟨ν1, f1, f2, f3⟩ := look_M W Kb (show skp S i + 1 ≤ nTp S by omega)
  rw [← es1] at f2
  have Fab : Ft (XM p) νa νb := by
    rw [hνb]
    exact (((Ft.refl.si (Or.inl rfl)).si (Or.inr (Or.inr (Or.inr (Or.inl ⟨Or.inl rfl, rfl, by omega, by omega⟩))))).si (Or.inr (Or.inr (Or.inr (Or.inl ⟨Or.inr (Or.inl rfl), rfl, by omega, by omega⟩))))).si (Or.inr (Or.inr (Or.inr (Or.inl ⟨Or.inr (Or.inr rfl), rfl, by omega, by omega⟩))))
  have F1 : Ft (XM p) ν ν1 := ((xm_fr d3 (by decide)).trans Fab).trans (xm_fr f3 (by decide))
  have g15 : mI ν1 1315 0 p = nI m := by
    rw [f3.i 1315 (by decide), hνb, iS_v (show (1315 : Nat) ≠ 1318 by decide), iS_v (show (1315 : Nat) ≠ 1317 by decide), iS_v (show (1315 : Nat) ≠ 1316 by decide), iS_v (show (1315 : Nat) ≠ 1303 by decide), d3.i 1315 (by decide)]; exact R.1
  have g16 : mI ν1 1316 0 (8 * p + m) = nI t := by
    rw [f3.i 1316 (by decide), hνb, iS_v (show (1316 : Nat) ≠ 1318 by decide), iS_v (show (1316 : Nat) ≠ 1317 by decide)]; exact iS_eq
  have g17 : mI ν1 1317 0 (8 * p + m) = nI 0 := by
    rw [f3.i 1317 (by decide), hνb, iS_v (show (1317 : Nat) ≠ 1318 by decide)]; exact iS_eq
  have g18 : mI ν1 1318 0 (8 * p + m) = nI 0 := by
    rw [f3.i 1318 (by decide), hνb]; exact iS_eq
  have gold : ∀ k, k < m → mI ν1 1316 0 (8 * p + k) = nI (L k) ∧ mI ν1 1317 0 (8 * p + k) = nI (lo k) ∧ mI ν1 1318 0 (8 * p + k) = nI (hi k) := fun k hk => by
    obtain ⟨r1, r2, r3⟩ := R.2 k hk
    refine ⟨?_, ?_, ?_⟩
    · rw [f3.i 1316 (by decide), hνb, iS_v (show (1316 : Nat) ≠ 1318 by decide), iS_v (show (1316 : Nat) ≠ 1317 by decide), iS_c (show 8 * p + k ≠ 8 * p + m by omega), iS_v (show (1316 : Nat) ≠ 1303 by decide), d3.i 1316 (by decide), r1]
    · rw [f3.i 1317 (by decide), hνb, iS_v (show (1317 : Nat) ≠ 1318 by decide), iS_c (show 8 * p + k ≠ 8 * p + m by omega), iS_v (show (1317 : Nat) ≠ 1316 by decide), iS_v (show (1317 : Nat) ≠ 1303 by decide), d3.i 1317 (by decide), r2]
    · rw [f3.i 1318 (by decide), hνb, iS_c (show 8 * p + k ≠ 8 * p + m by omega), iS_v (show (1318 : Nat) ≠ 1317 by decide), iS_v (show (1318 : Nat) ≠ 1316 by decide), iS_v (show (1318 : Nat) ≠ 1303 by decide), d3.i 1318 (by decide), r3]
  have Ra : PgM p m L lo hi νa := ⟨by rw [d3.i 1315 (by decide)]; exact R.1, fun k hk => by rw [d3.i 1316 (by decide), d3.i 1317 (by decide), d3.i 1318 (by decide)]; exact R.2 k hk⟩
  have onp : M_onPage (nI p) (nI t) νa = some (-1) := by
    rcases onPage_M (x := nI t) hp (by omega) Ra with ⟨k, k1, k2, k3⟩ | ⟨k1, k3⟩
    · have := (V.1 k k1).1
      exact absurd ((eq_n (by omega) (by omega)).mp k2).symm (hno k k1)
    · exact k3
  have ref : M_item (nI p) ν = ((B_isDigit (hrI S s1)).bind fun x17 => (if x17 = 0 then some ν1 else prtsM (nI (8 * p + m)) ν1).bind fun μ30 => (mRd μ30 1315 0 17 (nI p)).bind fun x31 => (mWr μ30 1315 0 17 (nI p) (x31 + (nI 1))).bind fun μ32 => some μ32) := by
    have hw : lkI S (skp S i + 1) = hrI S s1 := by rw [es1]; rfl
    unfold M_item
    rw [d1, bS]
    simp only []
    rw [bS, hx, mth_in (show mI νa 1314 0 0 = nI (nTh S) by rw [d3.i 1314 (by decide)]; exact e14) (by omega) ht, bS, if_neg n10, onp, bS, if_pos rfl, rd_n (by omega) (by decide), Ra.1, bS, if_neg (fun z => absurd ((eq_n (by omega) (by omega)).mp z) (by omega)), d2.2.1, add_n, bS, rd_n (by omega) (by decide), iS_v (show (1315 : Nat) ≠ 1303 by decide), Ra.1, bS, mul_n, add_n, bS, wr_n (by omega) (by decide), bS, wr_n (by omega) (by decide), bS, wr_n (by omega) (by decide), bS, ← hνb, f1, bS, hw]
    rfl
  have fin15 : ∀ ν2, K_M S s1 ν1 → mI ν2 1315 0 p = nI m → ((mRd ν2 1315 0 17 (nI p)).bind fun x31 => (mWr ν2 1315 0 17 (nI p) (x31 + (nI 1))).bind fun μ32 => some μ32) = some (mSI ν2 1315 0 p (nI (m + 1))) := fun ν2 _ e => by
    rw [rd_n (by omega) (by decide), e, bS, add_n, wr_n (by omega) (by decide), bS]
  have newM : ∀ ν2 l h, (∀ v c, v = 1316 ∨ v = 1317 ∨ v = 1318 → c ≠ 8 * p + m → mI ν2 v 0 c = mI ν1 v 0 c) → mI ν2 1316 0 (8 * p + m) = nI t → mI ν2 1317 0 (8 * p + m) = nI l → mI ν2 1318 0 (8 * p + m) = nI h → PgM p (m + 1) (upX L m t) (upX lo m l) (upX hi m h) (mSI ν2 1315 0 p (nI (m + 1))) := by
    intro ν2 l h k1 k2 k3 k4
    refine ⟨iS_eq, fun k hk => ?_⟩
    rw [iS_v (show (1316 : Nat) ≠ 1315 by decide), iS_v (show (1317 : Nat) ≠ 1315 by decide), iS_v (show (1318 : Nat) ≠ 1315 by decide)]
    by_cases e : k = m
    · subst e
      rw [up_new, up_new, up_new]
      exact ⟨k2, k3, k4⟩
    · rw [up_old (by omega), up_old (by omega), up_old (by omega), k1 1316 _ (Or.inl rfl) (by omega), k1 1317 _ (Or.inr (Or.inl rfl)) (by omega), k1 1318 _ (Or.inr (Or.inr rfl)) (by omega)]
      exact gold k (by omega)
  have bits6 : ∀ u, (b ||| 2 ^ t).testBit u = true ↔ ∃ k, k < m + 1 ∧ upX L m t k = u := fun u => by
    rw [bit_add, hbit' u]
    constructor
    · rintro (⟨k, k1, k2⟩ | h)
      · exact ⟨k, by omega, by rw [up_old k1]; exact k2⟩
      · exact ⟨m, by omega, by rw [up_new]; exact h.symm⟩
    · rintro ⟨k, k1, k2⟩
      by_cases e : k = m
      · subst e; rw [up_new] at k2; exact Or.inr k2.symm
      · rw [up_old (by omega)] at k2; exact Or.inl ⟨k, by omega, k2⟩
  have hb6 : b ||| 2 ^ t < 4096 := Nat.or_lt_two_pow (n := 12) hb4 h2t
  cases hd : dgN S s1 with
  | none =>
    right
    have e0 := dg_no W hd
    rw [e0, bS, if_pos z00, e12', rd_n (by omega) (by decide), C9, bS, or_n, wr_n (by omega) (by decide), bS, rz_1, bS] at cls
    rw [e0, bS, if_pos z00, bS, fin15 ν1 f2 g15] at ref
    have F7 : Ft (fun v r c => v = 707 ∧ r = 0 ∧ c = q) μ1 (mSI μ1 707 0 q (nI (b7 ||| 2 ^ t))) := Ft.refl.si ⟨rfl, rfl, rfl⟩
    have hb77 : b7 ||| 2 ^ t < 4096 := Nat.or_lt_two_pow (n := 12) hb7 h2t
    refine ⟨t, 0, 0, s1, _, _, hs1, cls, C1.ft F7 (fun r c => by simp), C2.trans (F7.mono fun v r c z => Or.inr (Or.inr (Or.inl ⟨by simp [z.1], z.2.1, z.2.2⟩))), ⟨?_, fun k hk => ?_, ⟨b ||| 2 ^ t, ?_, hb6, bits6⟩, ⟨b7 ||| 2 ^ t, iS_eq, hb77, fun u => ?_⟩⟩, ref, f2.wr (by decide), F1.si (Or.inr (Or.inr (Or.inl ⟨Or.inl rfl, rfl, rfl⟩))), newM ν1 0 0 (fun _ _ _ _ => rfl) g16 g17 g18, PgW_up V ht hno (Nat.le_refl _) (by omega) (fun _ => rfl)⟩
    · exact (iS_v (by decide)).trans C3
    · rw [iS_v (show (703 : Nat) ≠ 707 by decide), iS_v (show (704 : Nat) ≠ 707 by decide), iS_v (show (705 : Nat) ≠ 707 by decide)]
      by_cases e : k = m
      · subst e
        rw [up_new, up_new, up_new]
        exact ⟨C5, C6, C7⟩
      · obtain ⟨k1, k2, k3⟩ := C4 k (by omega)
        rw [up_old (by omega), up_old (by omega), up_old (by omega), k1, k2, k3]
        exact P.2.1 k (by omega)
    · exact (iS_v (by decide)).trans C8
    · rw [bit_add, hbit7 u]
      constructor
      · rintro (⟨k, k1, k2, k3⟩ | h)
        · exact ⟨k, by omega, by rw [up_old k1]; exact k2, by rw [up_old k1]; exact k3⟩
        · exact ⟨m, by omega, by rw [up_new]; exact h.symm, up_new⟩
      · rintro ⟨k, k1, k2, k3⟩
        by_cases e : k = m
        · subst e; rw [up_new] at k2; exact Or.inr k2.symm
        · rw [up_old (by omega)] at k2 k3; exact Or.inl ⟨k, by omega, k2, k3⟩
  | some d =>
    obtain ⟨-, -, -, -, e1⟩ := dg_at hd
    rw [e1, bS, if_neg n10] at cls ref
    rcases parts_L (x := 8 * p + m) W C1 f2 hs1 hss hd hq hm (by omega) e12' with ⟨j, μ', ν', r1, r2, r3, r4, r5, r6, r7⟩ | ⟨l, h, i', μ', ν', r1, r2, r3, r4, r5, r6, r7, r8, r9, r10, r11, r12, r13, r14⟩
    · left
      have g15' : mI ν' 1315 0 p = nI m := (r7 1315 0 p (by simp [XPM])).trans g15
      rw [r2, bS] at cls
      simp only [] at cls
      rw [rz_0, bS] at cls
      rw [r5, bS, fin15 ν' f2 g15'] at ref
      exact ⟨j, μ', _, r1, cls, r3, C2.trans (r4.mono fun _ _ _ => XP_XC), ref, (iS_v (by decide)).trans r6, (F1.trans (r7.mono fun _ _ _ => XPM_XM hm)).si (Or.inr (Or.inr (Or.inl ⟨Or.inl rfl, rfl, rfl⟩)))⟩
    · right
      have g15' : mI ν' 1315 0 p = nI m := (r14 1315 0 p (by simp [XPM])).trans g15
      rw [r5, bS] at cls
      simp only [] at cls
      rw [rz_1, bS] at cls
      rw [r10, bS, fin15 ν' f2 g15'] at ref
      refine ⟨t, l, h, i', μ', _, r4, cls, r6, C2.trans (r9.mono fun _ _ _ => XP_XC), ⟨?_, fun k hk => ?_, ⟨b ||| 2 ^ t, ?_, hb6, bits6⟩, ⟨b7, ?_, hb7, fun u => ?_⟩⟩, ref, r11.wr (by decide), (F1.trans (r14.mono fun _ _ _ => XPM_XM hm)).si (Or.inr (Or.inr (Or.inl ⟨Or.inl rfl, rfl, rfl⟩))), newM ν' l h (fun v c hv hc => r14 v 0 c (by rcases hv with rfl | rfl | rfl <;> simp [XPM, hc])) ((r14 1316 0 _ (by simp [XPM])).trans g16) r12 r13, PgW_up V ht hno r2 r3 (fun z => by omega)⟩
      · exact (r9 702 0 q (by simp [XP])).trans C3
      · by_cases e : k = m
        · subst e
          rw [up_new, up_new, up_new]
          exact ⟨(r9 703 q k (by simp [XP])).trans C5, r7, r8⟩
        · obtain ⟨k1, k2, k3⟩ := C4 k (by omega)
          rw [up_old (by omega), up_old (by omega), up_old (by omega), r9 703 q k (by simp [XP]), r9 704 q k (by simp [XP, e]), r9 705 q k (by simp [XP, e]), k1, k2, k3]
          exact P.2.1 k (by omega)
      · exact (r9 706 0 q (by simp [XP])).trans C8
      · exact (r9 707 0 q (by simp [XP])).trans C9
      · rw [hbit7 u]
        constructor
        · rintro ⟨k, k1, k2, k3⟩
          exact ⟨k, by omega, by rw [up_old k1]; exact k2, by rw [up_old k1]; exact k3⟩
        · rintro ⟨k, k1, k2, k3⟩
          by_cases e : k = m
          · subst e; rw [up_new] at k3; omega
          · rw [up_old (by omega)] at k2 k3; exact ⟨k, by omega, k2, k3⟩
