/-! PURE: the class chooses -/
def chW : List Nat := [606, 607, 608, 609, 614]
theorem C_sp.congr {S : St} {d : Nat} {U V : Nat → Nat} {μ : Mem} (h : C_sp S d U μ) (e : ∀ t, t < 12 → U t = V t) : C_sp S d V μ := fun t ht => by rw [h t ht, e t ht]
theorem C_ac.fr {S : St} {a : Nat} {tg : Int32} {c : AcT} {W : List Nat} {μ μ' : Mem} (h : C_ac S a tg c μ) (F : Fr W μ μ') (hW : nIn W [608, 609, 614] = true) : C_ac S a tg c μ' := by
  have e : ∀ v, v ∈ [608, 609, 614] → mI μ' v = mI μ v := fun v hv => F.i v (nIn_of hW hv)
  unfold C_ac at *
  simp only [e 608 (by decide), e 609 (by decide), e 614 (by decide)]; exact h
/-- the last place: from u to r messes -/
theorem last_is {S : St} {d a K k u r v : Nat} {x : Nat → Nat} (W : WF S) (hk : k + 1 = mm S a) (hU : ∀ t, t < 12 → usN S d a x t k ≤ sN S 105 d t) (hv : v ≤ mcap S d a k) (r3 : ∀ t, t < 12 → usN S d a x t k + mN S d a k t * r ≤ sN S 105 d t) (r4 : ∀ v, r < v → v ≤ mcap S d a k → ∃ t, t < 12 ∧ sN S 105 d t < usN S d a x t k + mN S d a k t * v) (u3 : ∀ v, u ≤ v → v ≤ 9 → ∀ t, t < 12 → (mG S a).testBit t = true → sN S 105 d t - usN S d a x t k ≤ K + mN S d a k t * v) (u4 : ∀ v, v < u → v ≤ 9 → ∃ t, t < 12 ∧ (mG S a).testBit t = true ∧ K + mN S d a k t * v < sN S 105 d t - usN S d a x t k) :
    isMn S d a K (upX x k v) = true ↔ u ≤ v ∧ v ≤ r := by
  have h12 := W.th.1
  have hcap := cap_le (S := S) (d := d) (a := a) (i := k)
  constructor
  · intro h
    have h' := isMn_iff.mp h
    rw [← hk] at h'
    constructor
    · refine Classical.byContradiction fun z => ?_
      obtain ⟨t, t1, t2, t3⟩ := u4 v (by omega) (by omega)
      have h2 := (h' t (mG_th W t2) t2).2
      rw [up_us, Nat.mul_comm] at h2
      omega
    · refine Classical.byContradiction fun z => ?_
      obtain ⟨t, t1, t2⟩ := r4 v (by omega) hv
      have h3 := hU t t1
      have hn : 0 < mN S d a k t := by
        rcases Nat.eq_zero_or_pos (mN S d a k t) with e | e
        · rw [e, Nat.zero_mul] at t2; omega
        · exact e
      have hb := mN_bit W (show k < mm S a by omega) hn
      have h2 := (h' t (mG_th W hb) hb).1
      rw [up_us, Nat.mul_comm] at h2
      omega
  · rintro ⟨h1, h2⟩
    refine isMn_iff.mpr fun t ht hb => ?_
    rw [← hk, up_us, Nat.mul_comm]
    have h3 := r3 t (by omega)
    have h4 := u3 v h1 (by omega) t (by omega) hb
    have h5 : mN S d a k t * v ≤ mN S d a k t * r := Nat.mul_le_mul_left _ h2
    omega
theorem last_sk {S : St} {d a K k u r : Nat} {tg : Int32} {x : Nat → Nat} (W : WF S) (hk : k + 1 = mm S a) (hU : ∀ t, t < 12 → usN S d a x t k ≤ sN S 105 d t) (hr : r ≤ mcap S d a k) (r3 : ∀ t, t < 12 → usN S d a x t k + mN S d a k t * r ≤ sN S 105 d t) (r4 : ∀ v, r < v → v ≤ mcap S d a k → ∃ t, t < 12 ∧ sN S 105 d t < usN S d a x t k + mN S d a k t * v) (u3 : ∀ v, u ≤ v → v ≤ 9 → ∀ t, t < 12 → (mG S a).testBit t = true → sN S 105 d t - usN S d a x t k ≤ K + mN S d a k t * v) (u4 : ∀ v, v < u → v ≤ 9 → ∃ t, t < 12 ∧ (mG S a).testBit t = true ∧ K + mN S d a k t * v < sN S 105 d t - usN S d a x t k) (c : AcT) :
    (u ≤ r → skS (mcap S d a) (leafS S d a K tg) 1 k x c = fo (fun v e => noteS S d a tg (upX x k v) e) u (r - u + 1) c) ∧ (r < u → skS (mcap S d a) (leafS S d a K tg) 1 k x c = c) := by
  have out : ∀ v, v ≤ mcap S d a k → ¬ (u ≤ v ∧ v ≤ r) → ∀ e, leafS S d a K tg (upX x k v) e = e := by
    intro v hv h e
    unfold leafS
    rw [if_neg fun z => h ((last_is W hk hU hv r3 r4 u3 u4).mp z)]
  constructor
  · intro hur
    show fo (fun v e => leafS S d a K tg (upX x k v) e) 0 (mcap S d a k + 1) c = _
    rw [show mcap S d a k + 1 = u + ((r - u + 1) + (mcap S d a k - r)) by omega, fo_app, fo_app, Nat.zero_add]
    have h1 : fo (fun v e => leafS S d a K tg (upX x k v) e) 0 u c = c := fo_id fun i _ hi => out i (by omega) (by omega) c
    rw [h1]
    have h2 : fo (fun v e => leafS S d a K tg (upX x k v) e) u (r - u + 1) c = fo (fun v e => noteS S d a tg (upX x k v) e) u (r - u + 1) c := by
      refine fo_congr (fun _ _ => True) trivial fun i e h1 h2 _ => ⟨?_, trivial⟩
      show leafS S d a K tg (upX x k i) e = noteS S d a tg (upX x k i) e
      unfold leafS
      rw [if_pos ((last_is W hk hU (by omega) r3 r4 u3 u4).mpr ⟨h1, by omega⟩)]
    rw [h2]
    exact fo_id fun i h1 hi => out i (by omega) (by omega) _
  · intro hur
    show fo (fun v e => leafS S d a K tg (upX x k v) e) 0 (mcap S d a k + 1) c = c
    exact fo_id fun i _ hi => out i (by omega) (by omega) c
theorem choose_C {S : St} {d a K : Nat} {tg : Int32} (W : WF S) (hd : d < nDy S) (h5 : mm S a ≤ 5) (hK : K ≤ 99) :
    ∀ (m k n : Nat) (x : Nat → Nat) (c : AcT) (μ : Mem), k + (m + 1) = mm S a → m < n → C_mn S d a K tg μ → C_sp S d (fun t => usN S d a x t k) μ → (∀ t, t < 12 → usN S d a x t k ≤ sN S 105 d t) → (∀ i, i < k → mI μ 607 0 i = nI (x i) ∧ x i ≤ 9) → C_ac S a tg c μ → AcOk c → c.1.1 + 10 ^ (m + 1) ≤ 900000 →
    ∃ μ', G_Menus_choose n (nI k) μ = some μ' ∧ Fr chW μ μ' ∧ C_sp S d (fun t => usN S d a x t k) μ' ∧ (∀ i, i < k → mI μ' 607 0 i = nI (x i)) ∧ C_ac S a tg (skS (mcap S d a) (leafS S d a K tg) (m + 1) k x c) μ' ∧ AcOk (skS (mcap S d a) (leafS S d a K tg) (m + 1) k x c) ∧ (skS (mcap S d a) (leafS S d a K tg) (m + 1) k x c).1.1 ≤ c.1.1 + 10 ^ (m + 1) := by
  intro m
  induction m with
  | zero =>
    intro k n x c μ hk hn L P hU hX A o hc
    obtain ⟨n, rfl⟩ : ∃ g, n = g + 1 := ⟨n - 1, by omega⟩
    have hkm : k < mm S a := by omega
    have hcap := cap_le (S := S) (d := d) (a := a) (i := k)
    obtain ⟨r, r1, r2, r3, r4⟩ := room_C W hd h5 hkm L P hU
    obtain ⟨u, u1, u2, u3, u4⟩ := need_C W hd h5 hK hkm L P hU
    have hs := last_sk (tg := tg) W (show k + 1 = mm S a by omega) hU r2 r3 r4 u3 u4 c
    rw [show (10 : Nat) ^ (0 + 1) = 10 from rfl] at hc ⊢
    rw [show 0 + 1 = 1 from rfl]
    show ∃ μ', Menus_choose_B (G_Menus_choose n) (nI k) μ = some μ' ∧ _
    unfold Menus_choose_B
    rw [L.1, if_pos ((lt_n (by omega) (by omega)).mpr hkm), if_pos ((lt_n (by omega) (by omega)).mpr (show k < 5 by omega)), r1, bS, sub_n (show 1 ≤ mm S a by omega), if_pos ((eq_n (by omega) (by omega)).mpr (show k = mm S a - 1 by omega)), u1, bS]
    by_cases hur : u ≤ r
    · obtain ⟨s1, b1, b2, b3, b4, b5⟩ := noteMenus_C W hd h5 (show k + 1 = mm S a by omega) hur (by omega) r3 (fun h => ea_pos W hkm (by omega)) L P hU hX A o (by omega)
      rw [b1, bS, hs.1 hur]
      exact ⟨s1, rfl, b2.mono (by simp [chW]), fun t ht => by rw [b2.i 606 (by decide)]; exact P t ht, fun i hi => by rw [b2.i 607 (by decide)]; exact (hX i hi).1, b3, b4, by omega⟩
    · have b1 : Menus_noteMenus (nI k) (nI u) (nI r) μ = some μ := by
        unfold Menus_noteMenus
        rw [if_pos ((lt_n (by omega) (by omega)).mpr (by omega))]
      rw [b1, bS, hs.2 (by omega)]
      exact ⟨μ, rfl, Fr.refl, P, fun i hi => (hX i hi).1, A, o, by omega⟩
  | succ m ih =>
    intro k n x c μ hk hn L P hU hX A o hc
    obtain ⟨n, rfl⟩ : ∃ g, n = g + 1 := ⟨n - 1, by omega⟩
    have hkm : k < mm S a := by omega
    have hcap := cap_le (S := S) (d := d) (a := a) (i := k)
    have hp : 10 ^ (m + 1 + 1) = 10 * 10 ^ (m + 1) := by rw [Nat.pow_succ 10 (m + 1), Nat.mul_comm]
    obtain ⟨Q, hQ⟩ : ∃ Q, Q = 10 ^ (m + 1) := ⟨_, rfl⟩
    rw [hp, ← hQ] at hc ⊢
    rw [← hQ] at ih
    obtain ⟨r, r1, r2, r3, r4⟩ := room_C W hd h5 hkm L P hU
    show ∃ μ', Menus_choose_B (G_Menus_choose n) (nI k) μ = some μ' ∧ _
    unfold Menus_choose_B
    rw [L.1, if_pos ((lt_n (by omega) (by omega)).mpr hkm), if_pos ((lt_n (by omega) (by omega)).mpr (show k < 5 by omega)), r1, bS, sub_n (show 1 ≤ mm S a by omega), if_neg (fun z => absurd ((eq_n (by omega) (by omega)).mp z) (show ¬ k = mm S a - 1 by omega))]
    obtain ⟨T, hT⟩ : ∃ T, T = skS (mcap S d a) (leafS S d a K tg) (m + 1 + 1) k x c := ⟨_, rfl⟩
    rw [← hT]
    have hT' : fo (fun v a' => skS (mcap S d a) (leafS S d a K tg) (m + 1) (k + 1) (upX x k v) a') 0 (mcap S d a k + 1) c = T := hT.symm
    obtain ⟨μ1, e1, e2, e3, e4, e5, e6, e7⟩ : ∃ s, Menus_choose_l1 (G_Menus_choose n) (nI k) (nI r) FU (nI 0) μ = some s ∧ Fr chW μ s ∧ C_sp S d (fun t => usN S d a x t k + (r + 1) * mN S d a k t) s ∧ C_ac S a tg T s ∧ AcOk T ∧ T.1.1 ≤ c.1.1 + 10 * Q ∧ ∀ i, i < k → mI s 607 0 i = nI (x i) := by
      refine loopE (fun f v s => Menus_choose_l1 (G_Menus_choose n) (nI k) (nI r) f v s) (r + 1) (fun j s => Fr chW μ s ∧ C_sp S d (fun t => usN S d a x t k + j * mN S d a k t) s ∧ (∀ i, i < k → mI s 607 0 i = nI (x i)) ∧ ∃ cj, C_ac S a tg cj s ∧ AcOk cj ∧ cj.1.1 ≤ c.1.1 + j * Q ∧ fo (fun v a' => skS (mcap S d a) (leafS S d a K tg) (m + 1) (k + 1) (upX x k v) a') j (mcap S d a k + 1 - j) cj = T) _ ?_ ?_ (r + 1) 0 μ FU (by omega) (FU_lt (by omega)) ⟨Fr.refl, P.congr fun t ht => by rw [Nat.zero_mul]; rfl, fun i hi => (hX i hi).1, c, A, o, by omega, hT'⟩
      · rintro f j s hj ⟨F, Pj, hx, cj, g1, g2, g3, g4⟩
        left
        have hjQ : (j + 1) * Q ≤ 10 * Q := Nat.mul_le_mul_right Q (by omega)
        rw [Nat.succ_mul] at hjQ
        obtain ⟨s1, hs1⟩ : ∃ s1, s1 = mSI s 607 0 k (nI j) := ⟨_, rfl⟩
        have F01 : Fr [607] s s1 := by rw [hs1]; exact fr_si (by simp) Fr.refl
        have F1 : Fr chW μ s1 := F.trans (F01.mono (by simp [chW]))
        have hup : ∀ i, i < k + 1 → mI s1 607 0 i = nI (upX x k j i) ∧ upX x k j i ≤ 9 := by
          intro i hi
          rw [hs1]
          by_cases e : i = k
          · subst e
            unfold upX
            rw [if_pos rfl]
            exact ⟨iS_eq, by omega⟩
          · unfold upX
            rw [if_neg e]
            exact ⟨(iS_c e).trans (hx i (by omega)), (hX i (by omega)).2⟩
        have L1 : C_mn S d a K tg s1 := L.W F1 (by decide)
        have P1 : C_sp S d (fun t => usN S d a (upX x k j) t (k + 1)) s1 := fun t ht => by
          rw [F01.i 606 (by decide), Pj t ht]
          show _ = _ - nI (usN S d a (upX x k j) t (k + 1))
          rw [up_us]
        have U1 : ∀ t, t < 12 → usN S d a (upX x k j) t (k + 1) ≤ sN S 105 d t := fun t ht => by
          rw [up_us]
          have h1 := r3 t ht
          have h2 : j * mN S d a k t ≤ r * mN S d a k t := Nat.mul_le_mul_right _ (by omega)
          rw [Nat.mul_comm r] at h2
          omega
        have A1 : C_ac S a tg cj s1 := g1.fr F01 (by decide)
        obtain ⟨s2, d1, d2, d3, d4, d5, d6, d7⟩ := ih (k + 1) n (upX x k j) cj s1 (by omega) (by omega) L1 P1 U1 hup A1 g2 (by omega)
        have d4' : ∀ i, i < k → mI s2 607 0 i = nI (x i) := fun i hi => by
          rw [d4 i (by omega), upX_lt hi]
        obtain ⟨s3, w1, w2, w3⟩ := use_one hkm h5 (L1.W d2 (by decide)) d3
        refine ⟨s3, ?_, F1.trans (d2.trans (w2.mono (by simp [chW]))), w3.congr fun t ht => ?_, fun i hi => by rw [w2.i 607 (by decide)]; exact d4' i hi, _, d5.fr w2 (by decide), d6, ?_, ?_⟩
        · show Menus_choose_l1b (G_Menus_choose n) (nI k) (nI r) (Menus_choose_l1 (G_Menus_choose n) (nI k) (nI r) f) (nI j) s = _
          unfold Menus_choose_l1b
          rw [if_neg (fun z => absurd ((lt_n (by omega) (by omega)).mp z) (by omega)), wr_n (by omega) (by decide), bS, ← hs1, add_n, d1, bS, w1, bS, bS, add_n]
        · show usN S d a (upX x k j) t (k + 1) + mN S d a k t = _
          rw [up_us, Nat.succ_mul]; omega
        · rw [Nat.succ_mul]; omega
        · rw [fo_s (by omega)] at g4
          rw [show mcap S d a k + 1 - (j + 1) = mcap S d a k + 1 - j - 1 by omega]
          exact g4
      · rintro f s ⟨F, Pj, hx, cj, g1, g2, g3, g4⟩
        have hT2 : cj = T := by
          rw [← g4]
          refine (fo_id fun v v1 v2 => ?_).symm
          obtain ⟨t, t1, t2⟩ := r4 v (by omega) (by omega)
          exact dead1 W hk t1 (hU t t1) t2 cj
        subst hT2
        have hjQ : (r + 1) * Q ≤ 10 * Q := Nat.mul_le_mul_right Q (by omega)
        refine ⟨s, ?_, F, Pj, g1, g2, by omega, hx⟩
        show Menus_choose_l1b (G_Menus_choose n) (nI k) (nI r) (Menus_choose_l1 (G_Menus_choose n) (nI k) (nI r) f) (nI (r + 1)) s = _
        unfold Menus_choose_l1b
        rw [if_pos ((lt_n (by omega) (by omega)).mpr (by omega))]
    obtain ⟨s4, b1, b2, b3⟩ := use_back hkm h5 (L.W e2 (by decide)) e3
    rw [e1, bS, b1, bS]
    exact ⟨s4, rfl, e2.trans (b2.mono (by simp [chW])), b3, fun i hi => by rw [b2.i 607 (by decide)]; exact e7 i hi, e4.fr b2 (by decide), e5, e6⟩
