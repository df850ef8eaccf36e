/-! PURE: the class's menus: what is left, the fewest and the most messes -/
def C_mn (S : St) (d a K : Nat) (tg : Int32) (μ : Mem) : Prop := mI μ 610 0 0 = nI (mm S a) ∧ mI μ 611 0 0 = nI (mG S a) ∧ mI μ 612 0 0 = nI K ∧ mI μ 613 0 0 = tg ∧ ∀ i, i < mm S a → mI μ 603 0 i = nI (mq S a i) ∧ mI μ 604 0 i = nI (mcap S d a i) ∧ ∀ t, t < 12 → mI μ 605 i t = nI (mN S d a i t)
def C_sp (S : St) (d : Nat) (U : Nat → Nat) (μ : Mem) : Prop := ∀ t, t < 12 → mI μ 606 0 t = nI (sN S 105 d t) - nI (U t)
theorem C_mn.fr {S : St} {d a K : Nat} {tg : Int32} {μ μ' : Mem} (h : C_mn S d a K tg μ) (e : ∀ v, v ∈ [603, 604, 605, 610, 611, 612, 613] → mI μ' v = mI μ v) : C_mn S d a K tg μ' := by
  unfold C_mn at *
  simp only [e 603 (by decide), e 604 (by decide), e 605 (by decide), e 610 (by decide), e 611 (by decide), e 612 (by decide), e 613 (by decide)]; exact h
theorem C_mn.W {S : St} {d a K : Nat} {tg : Int32} {W : List Nat} {μ μ' : Mem} (h : C_mn S d a K tg μ) (F : Fr W μ μ') (hW : nIn W [603, 604, 605, 610, 611, 612, 613] = true) : C_mn S d a K tg μ' := h.fr fun v hv => F.i v (nIn_of hW hv)
theorem use_gen {S : St} {d a K k : Nat} {tg w : Int32} {μ : Mem} (hk : k < mm S a) (h5 : mm S a ≤ 5) (L : C_mn S d a K tg μ) : ∃ μ', Menus_use (nI k) w μ = some μ' ∧ Fr [606] μ μ' ∧ ∀ t, t < 12 → mI μ' 606 0 t = mI μ 606 0 t - w * nI (mN S d a k t) := by
  have hl : ∃ μ', Menus_use_l1 (nI k) w FU (nI 0) μ = some μ' ∧ Fr [606] μ μ' ∧ ∀ t, t < 12 → mI μ' 606 0 t = mI μ 606 0 t - w * nI (mN S d a k t) := by
    refine loopE (fun f v s => Menus_use_l1 (nI k) w f v s) 12 (fun c s => Fr [606] μ s ∧ (∀ t, t < c → mI s 606 0 t = mI μ 606 0 t - w * nI (mN S d a k t)) ∧ ∀ t, c ≤ t → mI s 606 0 t = mI μ 606 0 t) _ ?_ ?_ 12 0 μ FU (by omega) (FU_lt (by omega)) ⟨Fr.refl, fun t h => absurd h (Nat.not_lt_zero t), fun _ _ => rfl⟩
    · rintro f t s ht ⟨F, h1, h2⟩
      left
      have e5 : mI s 605 k t = nI (mN S d a k t) := by rw [F.i 605 (by decide)]; exact (L.2.2.2.2 k hk).2.2 t ht
      refine ⟨mSI s 606 0 t (mI μ 606 0 t - w * nI (mN S d a k t)), ?_, fr_si (by simp) F, fun u hu => ?_, fun u hu => (iS_c (by omega)).trans (h2 u (by omega))⟩
      · show Menus_use_l1b (nI k) w (Menus_use_l1 (nI k) w f) (nI t) s = _
        unfold Menus_use_l1b
        rw [if_pos ((lt_n (by omega) (by omega)).mpr ht), rd_n (by omega) (by decide), h2 t (Nat.le_refl t), bS, ix_n (by omega) (by decide), bS, rd_n (by omega) (by decide), e5, bS, wr_n (by omega) (by decide), bS, bS, add_n]
      · by_cases e : u = t
        · subst e; exact iS_eq
        · exact (iS_c e).trans (h1 u (by omega))
    · rintro f s ⟨F, h1, h2⟩
      refine ⟨s, ?_, F, h1⟩
      show Menus_use_l1b (nI k) w (Menus_use_l1 (nI k) w f) (nI 12) s = _
      unfold Menus_use_l1b
      rw [if_neg (by decide)]
  obtain ⟨μ', e1, e2⟩ := hl
  exact ⟨μ', by unfold Menus_use; rw [e1, bS], e2⟩
theorem one_n : nI 1 = 1 := rfl
theorem alg1 (b u n : Int32) : b - u - 1 * n = b - (u + n) := by grind
theorem alg2 (b u r o n : Int32) : b - (u + (r + o) * n) - (-r - o) * n = b - u := by grind
theorem use_one {S : St} {d a K k : Nat} {tg : Int32} {U : Nat → Nat} {μ : Mem} (hk : k < mm S a) (h5 : mm S a ≤ 5) (L : C_mn S d a K tg μ) (P : C_sp S d U μ) : ∃ μ', Menus_use (nI k) (nI 1) μ = some μ' ∧ Fr [606] μ μ' ∧ C_sp S d (fun t => U t + mN S d a k t) μ' := by
  obtain ⟨μ', e1, e2, e3⟩ := use_gen (w := nI 1) hk h5 L
  refine ⟨μ', e1, e2, fun t ht => ?_⟩
  rw [e3 t ht, P t ht, one_n, alg1, add_n]
theorem use_back {S : St} {d a K k r : Nat} {tg : Int32} {U : Nat → Nat} {μ : Mem} (hk : k < mm S a) (h5 : mm S a ≤ 5) (L : C_mn S d a K tg μ) (P : C_sp S d (fun t => U t + (r + 1) * mN S d a k t) μ) : ∃ μ', Menus_use (nI k) (-(nI r) - nI 1) μ = some μ' ∧ Fr [606] μ μ' ∧ C_sp S d U μ' := by
  obtain ⟨μ', e1, e2, e3⟩ := use_gen (w := -(nI r) - nI 1) hk h5 L
  refine ⟨μ', e1, e2, fun t ht => ?_⟩
  rw [e3 t ht, P t ht, ← add_n, ← mul_n, ← add_n, alg2]
theorem ltsub {k b a : Nat} (hk : k < 1000000) (hb : b < 1000000) (ha : a < 1000000) : nI k < nI b - nI a ↔ k + a < b := by
  have e1 := nI_toInt (n := b) (by omega)
  have e2 := nI_toInt (n := a) (by omega)
  have e4 := nI_toInt (n := k) (by omega)
  have e3 : ((b : Int) - a).bmod (2 ^ 32) = b - a := Int.bmod_eq_of_le (by omega) (by omega)
  rw [Int32.lt_iff_toInt_lt, Int32.toInt_sub, e1, e2, e3, e4]
  omega
theorem gtsub {b a : Nat} (hb : b < 1000000) (ha : a < 1000000) : 0 < nI b - nI a ↔ a < b := by
  have h := ltsub (k := 0) (by omega) hb ha
  rw [Nat.zero_add] at h
  exact h
/-- the fewest messes by which no more is over than may be -/
theorem need_C {S : St} {d a K k : Nat} {tg : Int32} {U : Nat → Nat} {μ : Mem} (W : WF S) (hd : d < nDy S) (h5 : mm S a ≤ 5) (hK : K ≤ 99) (hk : k < mm S a) (L : C_mn S d a K tg μ) (P : C_sp S d U μ) (hU : ∀ t, t < 12 → U t ≤ sN S 105 d t) :
    ∃ u, Menus_need (nI k) μ = some (nI u) ∧ u ≤ 1100 ∧ (∀ v, u ≤ v → v ≤ 9 → ∀ t, t < 12 → (mG S a).testBit t = true → sN S 105 d t - U t ≤ K + mN S d a k t * v) ∧ ∀ v, v < u → v ≤ 9 → ∃ t, t < 12 ∧ (mG S a).testBit t = true ∧ K + mN S d a k t * v < sN S 105 d t - U t := by
  have h10 := W.dy.1
  have hG := mG_lt (a := a) W
  obtain ⟨L4, L5⟩ := (L.2.2.2.2 k hk).2
  obtain ⟨x, e1, u, rfl, e2, e3, e4⟩ : ∃ x, Menus_need_l1 (nI k) μ FU (nI 0) (nI 0) = some x ∧ ∃ u, x = nI u ∧ u ≤ 1100 ∧ (∀ v, u ≤ v → v ≤ 9 → ∀ t, t < 12 → (mG S a).testBit t = true → sN S 105 d t - U t ≤ K + mN S d a k t * v) ∧ ∀ v, v < u → v ≤ 9 → ∃ t, t < 12 ∧ (mG S a).testBit t = true ∧ K + mN S d a k t * v < sN S 105 d t - U t := by
    refine loopE (fun f v s => Menus_need_l1 (nI k) μ f s v) 12 (fun c s => ∃ u, s = nI u ∧ u ≤ 1100 ∧ (∀ v, u ≤ v → v ≤ 9 → ∀ t, t < c → (mG S a).testBit t = true → sN S 105 d t - U t ≤ K + mN S d a k t * v) ∧ ∀ v, v < u → v ≤ 9 → ∃ t, t < 12 ∧ (mG S a).testBit t = true ∧ K + mN S d a k t * v < sN S 105 d t - U t) _ ?_ ?_ 12 0 _ FU (by omega) (FU_lt (by omega)) ⟨0, rfl, by omega, fun v _ _ t h => absurd h (Nat.not_lt_zero t), fun v h => absurd h (Nat.not_lt_zero v)⟩
    · rintro f t s ht ⟨u, rfl, u1, u2, u3⟩
      left
      have hB := W.dy.2.2 d t (by omega) ht
      have hu := hU t ht
      have hN := mN_le (d := d) (t := t) W hk
      show ∃ s', Menus_need_l1b (nI k) μ (Menus_need_l1 (nI k) μ f) (nI u) (nI t) = _ ∧ _
      unfold Menus_need_l1b
      rw [if_pos ((lt_n (by omega) (by omega)).mpr ht), rd_n (by omega) (by decide), P t ht, bS, L.2.2.1, bS, L.2.1, hbit (by omega) (by omega), bS, sub_n hu]
      cases hb : (mG S a).testBit t with
      | false =>
        rw [if_pos (show nI false.toNat = 0 from rfl), bS, bS, add_n]
        refine ⟨_, rfl, u, rfl, u1, fun v v1 v2 w hw hb' => ?_, u3⟩
        by_cases e : w = t
        · subst e; rw [hb] at hb'; exact nomatch hb'
        · exact u2 v v1 v2 w (by omega) hb'
      | true =>
        rw [if_neg (show ¬ nI true.toNat = 0 from n10)]
        by_cases h0 : K < sN S 105 d t - U t
        · rw [if_pos ((gtsub (by omega) (by omega)).mpr h0), ix_n (by omega) (by decide), bS, rd_n (by omega) (by decide), L5 t ht, bS]
          by_cases h1 : 0 < mN S d a k t
          · have hq : (sN S 105 d t - U t - K + mN S d a k t - 1) / mN S d a k t ≤ 1098 := Nat.le_trans (Nat.div_le_self _ _) (by omega)
            rw [if_pos ((gt0_n (by omega)).mpr h1), sub_n (Nat.le_of_lt h0), add_n, sub_n (by omega), dv_n (by omega) h1 (by omega), bS, bS, jMax_n (by omega) (by omega), bS, bS, bS, add_n]
            refine ⟨_, rfl, _, rfl, by omega, fun v v1 v2 w hw hb' => ?_, fun v v1 v2 => ?_⟩
            · by_cases e : w = t
              · subst e
                have h3 : (sN S 105 d w - U w - K + mN S d a k w - 1) / mN S d a k w < v + 1 := by omega
                have h2 := (Nat.div_lt_iff_lt_mul h1).mp h3
                rw [Nat.succ_mul, Nat.mul_comm] at h2
                omega
              · exact u2 v (by omega) v2 w (by omega) hb'
            · by_cases e : v < u
              · exact u3 v e v2
              · refine ⟨t, ht, hb, ?_⟩
                have h3 : v + 1 ≤ (sN S 105 d t - U t - K + mN S d a k t - 1) / mN S d a k t := by omega
                have h2 := (Nat.le_div_iff_mul_le h1).mp h3
                rw [Nat.succ_mul, Nat.mul_comm] at h2
                omega
          · have hz : mN S d a k t = 0 := by omega
            rw [if_neg (fun z => h1 ((gt0_n (by omega)).mp z)), bS, jMax_n (by omega) (by omega), bS, bS, bS, add_n]
            refine ⟨_, rfl, _, rfl, by omega, fun v v1 v2 w hw hb' => absurd v1 (by omega), fun v v1 v2 => ?_⟩
            refine ⟨t, ht, hb, ?_⟩
            rw [hz, Nat.zero_mul]
            omega
        · rw [if_neg (fun z => h0 ((gtsub (by omega) (by omega)).mp z)), bS, bS, add_n]
          refine ⟨_, rfl, u, rfl, u1, fun v v1 v2 w hw hb' => ?_, u3⟩
          by_cases e : w = t
          · subst e; omega
          · exact u2 v v1 v2 w (by omega) hb'
    · rintro f s ⟨u, rfl, u1, u2, u3⟩
      refine ⟨nI u, ?_, u, rfl, u1, u2, u3⟩
      show Menus_need_l1b (nI k) μ (Menus_need_l1 (nI k) μ f) (nI u) (nI 12) = _
      unfold Menus_need_l1b
      rw [if_neg (by decide)]
  refine ⟨u, ?_, e2, e3, e4⟩
  unfold Menus_need
  rw [e1, bS]
theorem room_C {S : St} {d a K k : Nat} {tg : Int32} {U : Nat → Nat} {μ : Mem} (W : WF S) (hd : d < nDy S) (h5 : mm S a ≤ 5) (hk : k < mm S a) (L : C_mn S d a K tg μ) (P : C_sp S d U μ) (hU : ∀ t, t < 12 → U t ≤ sN S 105 d t) :
    ∃ r, Menus_room (nI k) μ = some (nI r) ∧ r ≤ mcap S d a k ∧ (∀ t, t < 12 → U t + mN S d a k t * r ≤ sN S 105 d t) ∧ ∀ v, r < v → v ≤ mcap S d a k → ∃ t, t < 12 ∧ sN S 105 d t < U t + mN S d a k t * v := by
  have h10 := W.dy.1
  have hcap := cap_le (S := S) (d := d) (a := a) (i := k)
  obtain ⟨L4, L5⟩ := (L.2.2.2.2 k hk).2
  obtain ⟨x, e1, r, rfl, e2, e3, e4⟩ : ∃ x, Menus_room_l1 (nI k) μ FU (nI (mcap S d a k)) (nI 0) = some x ∧ ∃ r, x = nI r ∧ r ≤ mcap S d a k ∧ (∀ t, t < 12 → U t + mN S d a k t * r ≤ sN S 105 d t) ∧ ∀ v, r < v → v ≤ mcap S d a k → ∃ t, t < 12 ∧ sN S 105 d t < U t + mN S d a k t * v := by
    refine loopE (fun f v s => Menus_room_l1 (nI k) μ f s v) 12 (fun c s => ∃ r, s = nI r ∧ r ≤ mcap S d a k ∧ (∀ t, t < c → U t + mN S d a k t * r ≤ sN S 105 d t) ∧ ∀ v, r < v → v ≤ mcap S d a k → ∃ t, t < 12 ∧ sN S 105 d t < U t + mN S d a k t * v) _ ?_ ?_ 12 0 _ FU (by omega) (FU_lt (by omega)) ⟨_, rfl, Nat.le_refl _, fun t h => absurd h (Nat.not_lt_zero t), fun v h1 h2 => absurd h2 (by omega)⟩
    · rintro f t s ht ⟨r, rfl, r1, r2, r3⟩
      left
      have hB := W.dy.2.2 d t (by omega) ht
      have hu := hU t ht
      have hN := mN_le (d := d) (t := t) W hk
      show ∃ s', Menus_room_l1b (nI k) μ (Menus_room_l1 (nI k) μ f) (nI r) (nI t) = _ ∧ _
      unfold Menus_room_l1b
      rw [if_pos ((lt_n (by omega) (by omega)).mpr ht), ix_n (by omega) (by decide), bS, rd_n (by omega) (by decide), L5 t ht, bS]
      by_cases h0 : 0 < mN S d a k t
      · have hdl : (sN S 105 d t - U t) / mN S d a k t ≤ 999 := Nat.le_trans (Nat.div_le_self _ _) (by omega)
        rw [if_pos ((gt0_n (by omega)).mpr h0), rd_n (by omega) (by decide), P t ht, bS, bS, rd_n (by omega) (by decide), L5 t ht, bS, sub_n hu, dv_n (by omega) h0 (by omega), bS, jMin_n (by omega) (by omega), bS, bS, bS, add_n]
        have hm1 : min r ((sN S 105 d t - U t) / mN S d a k t) ≤ r := Nat.min_le_left _ _
        refine ⟨_, rfl, _, rfl, by omega, fun u hu' => ?_, fun v v1 v2 => ?_⟩
        · by_cases e : u = t
          · subst e
            have : mN S d a k u * min r ((sN S 105 d u - U u) / mN S d a k u) ≤ mN S d a k u * ((sN S 105 d u - U u) / mN S d a k u) := Nat.mul_le_mul_left _ (Nat.min_le_right _ _)
            have := Nat.mul_div_le (sN S 105 d u - U u) (mN S d a k u)
            omega
          · have h1 := r2 u (by omega)
            have : mN S d a k u * min r ((sN S 105 d t - U t) / mN S d a k t) ≤ mN S d a k u * r := Nat.mul_le_mul_left _ hm1
            omega
        · by_cases hr : r < v
          · exact r3 v hr v2
          · refine ⟨t, ht, ?_⟩
            have hlt : (sN S 105 d t - U t) / mN S d a k t < v := by omega
            have := (Nat.div_lt_iff_lt_mul h0).mp hlt
            rw [Nat.mul_comm] at this
            omega
      · have hz : mN S d a k t = 0 := by omega
        rw [if_neg (fun z => h0 ((gt0_n (by omega)).mp z)), bS, bS, add_n]
        refine ⟨_, rfl, r, rfl, r1, fun u hu' => ?_, r3⟩
        by_cases e : u = t
        · subst e; rw [hz, Nat.zero_mul]; omega
        · exact r2 u (by omega)
    · rintro f s ⟨r, rfl, r1, r2, r3⟩
      refine ⟨nI r, ?_, r, rfl, r1, r2, r3⟩
      show Menus_room_l1b (nI k) μ (Menus_room_l1 (nI k) μ f) (nI r) (nI 12) = _
      unfold Menus_room_l1b
      rw [if_neg (by decide)]
  refine ⟨r, ?_, e2, e3, e4⟩
  unfold Menus_room
  rw [rd_n (by omega) (by decide), L4, bS, e1, bS]
