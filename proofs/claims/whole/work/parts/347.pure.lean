/-! PURE: the class chooses -/
def chW : List Nat := [607, 608, 609, 610, 615]
theorem C_sp.congr {S : St} {d : Nat} {U V : Nat → Nat} {μ : Mem} (h : C_sp S d U μ) (e : ∀ t, t < 12 → U t = V t) : C_sp S d V μ := fun t ht => by rw [h t ht, e t ht]
theorem C_ac.fr {S : St} {a : Nat} {tg : Int32} {c : AcT} {W : List Nat} {μ μ' : Mem} (h : C_ac S a tg c μ) (F : Fr W μ μ') (hW : nIn W [609, 610, 615] = true) : C_ac S a tg c μ' := by
  have e : ∀ v, v ∈ [609, 610, 615] → mI μ' v = mI μ v := fun v hv => F.i v (nIn_of hW hv)
  unfold C_ac at *
  simp only [e 609 (by decide), e 610 (by decide), e 615 (by decide)]; exact h
theorem choose_C {S : St} {d a K : Nat} {tg : Int32} (W : WF S) (hd : d < nDy S) (h5 : mm S a ≤ 5) (hK : K ≤ 99) :
    ∀ (m k n : Nat) (x : Nat → Nat) (c : AcT) (μ : Mem), k + m = mm S a → 2 * m < n → (m = 0 → isMn S d a K x = true) → C_mn S d a K tg μ → C_sp S d (fun t => usN S d a x t k) μ → (∀ t, t < 12 → usN S d a x t k ≤ sN S 105 d t) → (∀ i, i < k → mI μ 608 0 i = nI (x i) ∧ x i ≤ 9) → C_ac S a tg c μ → AcOk c → c.1.1 + 10 ^ m ≤ 900000 →
    ∃ μ', (G_Menus_choose n).1 (nI k) μ = some μ' ∧ Fr chW μ μ' ∧ C_sp S d (fun t => usN S d a x t k) μ' ∧ (∀ i, i < k → mI μ' 608 0 i = nI (x i)) ∧ C_ac S a tg (skS (mcap S d a) (leafS S d a K tg) m k x c) μ' ∧ AcOk (skS (mcap S d a) (leafS S d a K tg) m k x c) ∧ (skS (mcap S d a) (leafS S d a K tg) m k x c).1.1 ≤ c.1.1 + 10 ^ m := by
  intro m
  induction m with
  | zero =>
    intro k n x c μ hk hn h0 L P hU hX A o hc
    obtain ⟨n, rfl⟩ : ∃ g, n = g + 1 := ⟨n - 1, by omega⟩
    have hk : k = mm S a := by omega
    subst hk
    have hm := h0 rfl
    obtain ⟨μ1, e1, e2, e3⟩ := noteMenu_C W hd h5 L P hU hX A o
    show ∃ μ', Menus_choose_B (G_Menus_choose n).2 (nI (mm S a)) μ = some μ' ∧ _ ∧ _ ∧ _ ∧ C_ac S a tg (leafS S d a K tg x c) μ' ∧ AcOk (leafS S d a K tg x c) ∧ (leafS S d a K tg x c).1.1 ≤ _
    unfold Menus_choose_B leafS
    rw [L.1, if_neg (fun z => absurd ((lt_n (by omega) (by omega)).mp z) (by omega)), if_pos hm, e1, bS]
    exact ⟨μ1, rfl, e2.mono (by simp [chW]), fun t ht => by rw [e2.i 607 (by decide)]; exact P t ht, fun i hi => by rw [e2.i 608 (by decide)]; exact (hX i hi).1, e3, note_ok W hd h5 (fun i hi => (hX i hi).2) o (by omega), by show c.1.1 + 1 ≤ _; omega⟩
  | succ m ih =>
    intro k n x c μ hk hn h0 L P hU hX A o hc
    obtain ⟨n, rfl⟩ : ∃ g, n = g + 2 := ⟨n - 2, by omega⟩
    have hkm : k < mm S a := by omega
    have hcap := cap_le (S := S) (d := d) (a := a) (i := k)
    have hp : 10 ^ (m + 1) = 10 * 10 ^ m := by rw [Nat.pow_succ, Nat.mul_comm]
    obtain ⟨Q, hQ⟩ : ∃ Q, Q = 10 ^ m := ⟨_, rfl⟩
    rw [hp, ← hQ] at hc ⊢
    rw [← hQ] at ih
    obtain ⟨r, r1, r2, r3, r4⟩ := room_C W hd h5 hkm L P hU
    show ∃ μ', Menus_choose_B (G_Menus_choose (n + 1)).2 (nI k) μ = some μ' ∧ _
    unfold Menus_choose_B
    rw [L.1, if_pos ((lt_n (by omega) (by omega)).mpr hkm), if_pos ((lt_n (by omega) (by omega)).mpr (show k < 5 by omega)), r1, bS]
    obtain ⟨T, hT⟩ : ∃ T, T = skS (mcap S d a) (leafS S d a K tg) (m + 1) k x c := ⟨_, rfl⟩
    rw [← hT]
    have hT' : fo (fun v a' => skS (mcap S d a) (leafS S d a K tg) m (k + 1) (upX x k v) a') 0 (mcap S d a k + 1) c = T := hT.symm
    obtain ⟨μ1, e1, e2, e3, e4, e5, e6, e7⟩ : ∃ s, Menus_choose_l1 (G_Menus_choose (n + 1)).2 (nI k) (nI r) FU (nI 0) μ = some s ∧ Fr chW μ s ∧ C_sp S d (fun t => usN S d a x t k + (r + 1) * mN S d a k t) s ∧ C_ac S a tg T s ∧ AcOk T ∧ T.1.1 ≤ c.1.1 + 10 * Q ∧ ∀ i, i < k → mI s 608 0 i = nI (x i) := by
      refine loopE (fun f v s => Menus_choose_l1 (G_Menus_choose (n + 1)).2 (nI k) (nI r) f v s) (r + 1) (fun j s => Fr chW μ s ∧ C_sp S d (fun t => usN S d a x t k + j * mN S d a k t) s ∧ (∀ i, i < k → mI s 608 0 i = nI (x i)) ∧ ∃ cj, C_ac S a tg cj s ∧ AcOk cj ∧ cj.1.1 ≤ c.1.1 + j * Q ∧ fo (fun v a' => skS (mcap S d a) (leafS S d a K tg) m (k + 1) (upX x k v) a') j (mcap S d a k + 1 - j) cj = T) _ ?_ ?_ (r + 1) 0 μ FU (by omega) (FU_lt (by omega)) ⟨Fr.refl, P.congr fun t ht => by rw [Nat.zero_mul]; rfl, fun i hi => (hX i hi).1, c, A, o, by omega, hT'⟩
      · rintro f j s hj ⟨F, Pj, hx, cj, g1, g2, g3, g4⟩
        left
        have hjQ : (j + 1) * Q ≤ 10 * Q := Nat.mul_le_mul_right Q (by omega)
        rw [Nat.succ_mul] at hjQ
        obtain ⟨s1, hs1⟩ : ∃ s1, s1 = mSI s 608 0 k (nI j) := ⟨_, rfl⟩
        have F01 : Fr [608] s s1 := by rw [hs1]; exact fr_si (by simp) Fr.refl
        have F1 : Fr chW μ s1 := F.trans (F01.mono (by simp [chW]))
        have hup : ∀ i, i < k + 1 → mI s1 608 0 i = nI (upX x k j i) ∧ upX x k j i ≤ 9 := by
          intro i hi
          rw [hs1]
          by_cases e : i = k
          · subst e
            unfold upX
            rw [if_pos rfl]
            exact ⟨iS_eq, by omega⟩
          · unfold upX
            rw [if_neg e]
            exact ⟨(iS_c e).trans (hx i (by omega)), (hX i (by omega)).2⟩
        have L1 : C_mn S d a K tg s1 := L.W F1 (by decide)
        have P1 : C_sp S d (fun t => usN S d a (upX x k j) t (k + 1)) s1 := fun t ht => by
          rw [F01.i 607 (by decide), Pj t ht]
          show _ = _ - nI (usN S d a (upX x k j) t (k + 1))
          rw [up_us]
        have U1 : ∀ t, t < 12 → usN S d a (upX x k j) t (k + 1) ≤ sN S 105 d t := fun t ht => by
          rw [up_us]
          have h1 := r3 t ht
          have h2 : j * mN S d a k t ≤ r * mN S d a k t := Nat.mul_le_mul_right _ (by omega)
          rw [Nat.mul_comm r] at h2
          omega
        have A1 : C_ac S a tg cj s1 := g1.fr F01 (by decide)
        have key : ∃ s2, (G_Menus_choose (n + 1)).2 (nI k) s1 = some s2 ∧ Fr chW s1 s2 ∧ C_sp S d (fun t => usN S d a (upX x k j) t (k + 1)) s2 ∧ (∀ i, i < k → mI s2 608 0 i = nI (x i)) ∧ C_ac S a tg (skS (mcap S d a) (leafS S d a K tg) m (k + 1) (upX x k j) cj) s2 ∧ AcOk (skS (mcap S d a) (leafS S d a K tg) m (k + 1) (upX x k j) cj) ∧ (skS (mcap S d a) (leafS S d a K tg) m (k + 1) (upX x k j) cj).1.1 ≤ cj.1.1 + Q := by
          show ∃ s2, Menus_goOn_B (G_Menus_choose n).1 (nI k) s1 = some s2 ∧ _
          unfold Menus_goOn_B
          rw [add_n]
          rcases canUse_C W hd h5 hK (show k + 1 ≤ mm S a by omega) L1 P1 U1 with ⟨c1, c2⟩ | ⟨c1, t, t1, t2, t3⟩
          · rw [c1, bS, if_neg n10]
            obtain ⟨s2, d1, d2, d3, d4, d5, d6, d7⟩ := ih (k + 1) n (upX x k j) cj s1 (by omega) (by omega) (fun hm => by
              subst hm
              refine isMn_iff.mpr fun t ht hb => ?_
              have ht12 : t < 12 := by have := W.th.1; omega
              have h1 := U1 t ht12
              have h2 := c2 t ht12 hb
              rw [show mm S a - (k + 1) = 0 by omega] at h2
              rw [show mm S a = k + 1 by omega]
              have : aft S d a t 0 = 0 := rfl
              omega) L1 P1 U1 hup A1 g2 (by omega)
            rw [d1, bS]
            exact ⟨s2, rfl, d2, d3, fun i hi => by
              rw [d4 i (by omega)]
              unfold upX
              rw [if_neg (by omega)], d5, d6, d7⟩
          · rw [c1, bS, if_pos z00]
            have e := dead2 (tg := tg) (x := upX x k j) W (show k + 1 + m = mm S a by omega) t2 t3 cj
            rw [e]
            exact ⟨s1, rfl, Fr.refl, P1, fun i hi => by rw [hs1]; exact (iS_c (by omega)).trans (hx i hi), A1, g2, by omega⟩
        obtain ⟨s2, d1, d2, d3, d4, d5, d6, d7⟩ := key
        obtain ⟨s3, u1, u2, u3⟩ := use_one hkm h5 (L1.W d2 (by decide)) d3
        refine ⟨s3, ?_, F1.trans (d2.trans (u2.mono (by simp [chW]))), u3.congr fun t ht => ?_, fun i hi => by rw [u2.i 608 (by decide)]; exact d4 i hi, _, d5.fr u2 (by decide), d6, ?_, ?_⟩
        · show Menus_choose_l1b (G_Menus_choose (n + 1)).2 (nI k) (nI r) (Menus_choose_l1 (G_Menus_choose (n + 1)).2 (nI k) (nI r) f) (nI j) s = _
          unfold Menus_choose_l1b
          rw [if_neg (fun z => absurd ((lt_n (by omega) (by omega)).mp z) (by omega)), wr_n (by omega) (by decide), bS, ← hs1, d1, bS, u1, bS, bS, add_n]
        · show usN S d a (upX x k j) t (k + 1) + mN S d a k t = _
          rw [up_us, Nat.succ_mul]; omega
        · rw [Nat.succ_mul]; omega
        · rw [fo_s (by omega)] at g4
          rw [show mcap S d a k + 1 - (j + 1) = mcap S d a k + 1 - j - 1 by omega]
          exact g4
      · rintro f s ⟨F, Pj, hx, cj, g1, g2, g3, g4⟩
        have hT2 : cj = T := by
          rw [← g4]
          refine (fo_id fun v v1 v2 => ?_).symm
          obtain ⟨t, t1, t2⟩ := r4 v (by omega) (by omega)
          exact dead1 W hk t1 (hU t t1) t2 cj
        subst hT2
        have hjQ : (r + 1) * Q ≤ 10 * Q := Nat.mul_le_mul_right Q (by omega)
        refine ⟨s, ?_, F, Pj, g1, g2, by omega, hx⟩
        show Menus_choose_l1b (G_Menus_choose (n + 1)).2 (nI k) (nI r) (Menus_choose_l1 (G_Menus_choose (n + 1)).2 (nI k) (nI r) f) (nI (r + 1)) s = _
        unfold Menus_choose_l1b
        rw [if_pos ((lt_n (by omega) (by omega)).mpr (by omega))]
    obtain ⟨s4, b1, b2, b3⟩ := use_back hkm h5 (L.W e2 (by decide)) e3
    rw [e1, bS, b1, bS]
    exact ⟨s4, rfl, e2.trans (b2.mono (by simp [chW])), b3, fun i hi => by rw [b2.i 608 (by decide)]; exact e7 i hi, e4.fr b2 (by decide), e5, e6⟩
