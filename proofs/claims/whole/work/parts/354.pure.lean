/-! PURE: a thing on a page that is read -/
def XC (q v r c : Nat) : Prop := v = 1002 ∨ v = 1003 ∨ ((v = 702 ∨ v = 706 ∨ v = 707 ∨ v = 707) ∧ r = 0 ∧ c = q) ∨ ((v = 703 ∨ v = 704 ∨ v = 705 ∨ v = 705) ∧ r = q)
def XM (p v r c : Nat) : Prop := v = 1303 ∨ v = 1304 ∨ ((v = 1315 ∨ v = 1315) ∧ r = 0 ∧ c = p) ∨ ((v = 1316 ∨ v = 1317 ∨ v = 1318) ∧ r = 0 ∧ 8 * p ≤ c ∧ c < 8 * p + 8) ∨ v = 1303
theorem XP_XC {q m v r c : Nat} (h : XP q m v r c) : XC q v r c := by
  rcases h with h | h | ⟨h, h1, -⟩
  · exact Or.inl h
  · exact Or.inr (Or.inl h)
  · exact Or.inr (Or.inr (Or.inr ⟨h.elim (fun z => Or.inr (Or.inl z)) (fun z => Or.inr (Or.inr (Or.inl z))), h1⟩))
theorem XPM_XM {p m v r c : Nat} (hm : m < 8) (h : XPM (8 * p + m) v r c) : XM p v r c := by
  rcases h with h | h | ⟨h, h0, h1⟩
  · exact Or.inl h
  · exact Or.inr (Or.inl h)
  · exact Or.inr (Or.inr (Or.inr (Or.inl ⟨Or.inr h, h0, by omega, by omega⟩)))
def PgC (q m : Nat) (L lo hi : Nat → Nat) (μ : Mem) : Prop := mI μ 702 0 q = nI m ∧ (∀ k, k < m → mI μ 703 q k = nI (L k) ∧ mI μ 704 q k = nI (lo k) ∧ mI μ 705 q k = nI (hi k)) ∧ (∃ b, mI μ 706 0 q = nI b ∧ b < 4096 ∧ ∀ t, b.testBit t = true ↔ ∃ k, k < m ∧ L k = t) ∧ ∃ b, mI μ 707 0 q = nI b ∧ b < 4096 ∧ ∀ t, b.testBit t = true ↔ ∃ k, k < m ∧ L k = t ∧ lo k = 0
def PgM (p m : Nat) (L lo hi : Nat → Nat) (ν : Mem) : Prop := mI ν 1315 0 p = nI m ∧ ∀ k, k < m → mI ν 1316 0 (8 * p + k) = nI (L k) ∧ mI ν 1317 0 (8 * p + k) = nI (lo k) ∧ mI ν 1318 0 (8 * p + k) = nI (hi k)
def PgW (S : St) (m : Nat) (L lo hi : Nat → Nat) : Prop := (∀ k, k < m → L k < nTh S ∧ lo k ≤ 99 ∧ hi k ≤ 99 ∧ lo k ≤ hi k ∧ (lo k = 0 → hi k = 0)) ∧ ∀ k j, k < m → j < m → L k = L j → k = j
theorem onPage_M {p m : Nat} {x : Int32} {L lo hi : Nat → Nat} {ν : Mem} (hp : p ≤ 16) (hm : m ≤ 8) (P : PgM p m L lo hi ν) : (∃ k, k < m ∧ x = nI (L k) ∧ M_onPage (nI p) x ν = some (nI k)) ∨ ((∀ k, k < m → ¬ x = nI (L k)) ∧ M_onPage (nI p) x ν = some (-1)) := by
  obtain ⟨r, e1, e2⟩ : ∃ r, M_onPage_l1 (nI p) x ν FU (nI 0) = some r ∧ ((∃ k, k < m ∧ x = nI (L k) ∧ r = nI k) ∨ ((∀ k, k < m → ¬ x = nI (L k)) ∧ r = -1)) := by
    refine loopE (fun f v (_ : Unit) => M_onPage_l1 (nI p) x ν f v) m (fun c _ => ∀ k, k < c → ¬ x = nI (L k)) _ ?_ ?_ m 0 () FU (by omega) (FU_lt (by omega)) (fun k h => absurd h (Nat.not_lt_zero k))
    · rintro f k - hk hI
      show (∃ s', M_onPage_l1b (nI p) x ν (M_onPage_l1 (nI p) x ν f) (nI k) = _ ∧ _) ∨ (∃ r, M_onPage_l1b (nI p) x ν (M_onPage_l1 (nI p) x ν f) (nI k) = _ ∧ _)
      unfold M_onPage_l1b
      rw [rd_n (by omega) (by decide), P.1, bS, if_pos ((lt_n (by omega) (by omega)).mpr hk), mul_n, add_n, rd_n (by omega) (by decide), (P.2 k hk).1, bS]
      by_cases e : x = nI (L k)
      · right
        rw [if_pos e.symm]
        exact ⟨_, rfl, Or.inl ⟨k, hk, e, rfl⟩⟩
      · left
        rw [if_neg (fun z => e z.symm), bS, add_n]
        refine ⟨(), rfl, fun j hj => ?_⟩
        by_cases e2 : j = k
        · subst e2; exact e
        · exact hI j (by omega)
    · rintro f - hI
      refine ⟨-1, ?_, Or.inr ⟨hI, rfl⟩⟩
      show M_onPage_l1b (nI p) x ν (M_onPage_l1 (nI p) x ν f) (nI m) = _
      unfold M_onPage_l1b
      rw [rd_n (by omega) (by decide), P.1, bS, if_neg (fun z => absurd ((lt_n (by omega) (by omega)).mp z) (by omega))]
  unfold M_onPage
  rw [e1]
  rcases e2 with ⟨k, k1, k2, rfl⟩ | ⟨k1, rfl⟩
  · exact Or.inl ⟨k, k1, k2, rfl⟩
  · exact Or.inr ⟨k1, rfl⟩
theorem sub_eq {a b c : Int32} (h : a - b = c) : a = c + b := by grind
theorem bit_add {b t u : Nat} : (b ||| 2 ^ t).testBit u = true ↔ b.testBit u = true ∨ u = t := by
  rw [Nat.testBit_or, Nat.testBit_two_pow, Bool.or_eq_true]
  constructor
  · rintro (h | h)
    · exact Or.inl h
    · exact Or.inr (of_decide_eq_true h).symm
  · rintro (h | h)
    · exact Or.inl h
    · exact Or.inr (decide_eq_true h.symm)
theorem up_old {L : Nat → Nat} {m k t : Nat} (h : k < m) : upX L m t k = L k := by
  unfold upX
  rw [if_neg (by omega)]
theorem up_new {L : Nat → Nat} {m t : Nat} : upX L m t m = t := by
  unfold upX
  rw [if_pos rfl]
/-- the class's words for a thing that is new -/
theorem thingC {S : St} {i q m t b : Nat} {L lo hi : Nat → Nat} {μ : Mem} (W : W_tp S) (KC : K_C S i μ) (hiS : i ≤ nTp S) (hq : q ≤ 16) (hm : m < 8) (h12 : nTh S ≤ 12) (e12 : mI μ 712 0 0 = nI q) (e808 : mI μ 808 0 0 = nI (nTh S)) (P : PgC q m L lo hi μ) (ht : t < nTh S) (hlk : lkI S i - nI 97 = nI t) (eb : mI μ 706 0 q = nI b) (hb : b.testBit t = false) (hb4 : b < 4096) :
    ∃ s1 b7 μ1, s1 = skp S (skp S i + 1) ∧ skp S i < nTp S ∧ mI μ 707 0 q = nI b7 ∧ b7 < 4096 ∧ K_C S s1 μ1 ∧ Ft (XC q) μ μ1 ∧ mI μ1 702 0 q = nI (m + 1) ∧ (∀ k, k < m → mI μ1 703 q k = mI μ 703 q k ∧ mI μ1 704 q k = mI μ 704 q k ∧ mI μ1 705 q k = mI μ 705 q k) ∧ mI μ1 703 q m = nI t ∧ mI μ1 704 q m = nI 0 ∧ mI μ1 705 q m = nI 0 ∧ mI μ1 706 0 q = nI (b ||| 2 ^ t) ∧ mI μ1 707 0 q = nI b7 ∧
      Pages_readsThing μ = (B_isDigit (hrI S s1)).bind fun x22 => if x22 = 0 then ((mRd μ1 707 0 17 (mI μ1 712 0 0)).bind fun x23 => (mWr μ1 707 0 17 (mI μ1 712 0 0) (x23 ||| nI (2 ^ t))).bind fun μ24 => (mRz (nI 1)).bind fun z => some (z, μ24)) else (Pages_readsParts (nI m) μ1).bind fun (x25, μ26) => (mRz x25).bind fun z => some (z, μ26) := by
  have hn := W.1
  obtain ⟨b7, eb7, hb7, -⟩ := P.2.2.2
  have hx1 : lkI S i = nI (97 + t) := by rw [sub_eq hlk, add_n, Nat.add_comm]
  have hsk := lk_in (by omega) hx1
  obtain ⟨μa, a1, a2, a3⟩ := look_C W KC hiS
  obtain ⟨μb, b1, b2, b3⟩ := step_C W a2 hsk
  have Fb : Fr [1002] μ μb := a3.trans b3
  have eb12 : mI μb 712 0 0 = nI q := by rw [Fb.i 712 (by decide)]; exact e12
  have e2t : (1 : Nat) * 2 ^ t = 2 ^ t := Nat.one_mul _
  have h2t : 2 ^ t < 4096 := Nat.pow_lt_pow_right (a := 2) (m := t) (n := 12) (by decide) (by omega)
  obtain ⟨μc, hc⟩ : ∃ z, z = mSI (mSI (mSI (mSI (mSI μb 703 q m (nI t)) 704 q m (nI 0)) 705 q m (nI 0)) 702 0 q (nI (m + 1))) 706 0 q (nI (b ||| 2 ^ t)) := ⟨_, rfl⟩
  have Fc : Ft (fun v r c => ((v = 703 ∨ v = 704 ∨ v = 705) ∧ r = q ∧ c = m) ∨ ((v = 702 ∨ v = 706) ∧ r = 0 ∧ c = q)) μb μc := by
    rw [hc]
    exact ((((Ft.refl.si (Or.inl ⟨Or.inl rfl, rfl, rfl⟩)).si (Or.inl ⟨Or.inr (Or.inl rfl), rfl, rfl⟩)).si (Or.inl ⟨Or.inr (Or.inr rfl), rfl, rfl⟩)).si (Or.inr ⟨Or.inl rfl, rfl, rfl⟩)).si (Or.inr ⟨Or.inr rfl, rfl, rfl⟩)
  have Kc : K_C S (skp S i + 1) μc := b2.ft Fc (fun r c => by simp)
  obtain ⟨μd, d1, d2, d3⟩ := look_C W Kc (show skp S i + 1 ≤ nTp S by omega)
  have h8 : ∀ v r c, v ≠ 1002 → ¬ (((v = 703 ∨ v = 704 ∨ v = 705) ∧ r = q ∧ c = m) ∨ ((v = 702 ∨ v = 706) ∧ r = 0 ∧ c = q)) → mI μd v r c = mI μ v r c := fun v r c h1 h2 => by
    rw [d3.i v (by simp; exact h1), Fc v r c h2, Fb.i v (by simp; exact h1)]
  refine ⟨_, b7, μd, rfl, hsk, eb7, hb7, d2, ?_, ?_, fun k hk => ⟨?_, ?_, ?_⟩, ?_, ?_, ?_, ?_, ?_, ?_⟩
  · refine (Ft.of Fb fun v hv r c => ?_).trans ((Fc.mono fun v r c z => ?_).trans (Ft.of d3 fun v hv r c => ?_))
    · simp at hv; exact Or.inl hv
    · rcases z with ⟨z, z1, z2⟩ | ⟨z, z1, z2⟩
      · exact Or.inr (Or.inr (Or.inr ⟨by rcases z with z | z | z <;> simp [z], z1⟩))
      · exact Or.inr (Or.inr (Or.inl ⟨by rcases z with z | z <;> simp [z], z1, z2⟩))
    · simp at hv; exact Or.inl hv
  · rw [d3.i 702 (by decide), hc, iS_v (show (702 : Nat) ≠ 706 by decide)]; exact iS_eq
  · exact h8 703 q k (by decide) (fun z => by rcases z with ⟨-, -, z⟩ | ⟨z, -⟩ <;> omega)
  · exact h8 704 q k (by decide) (fun z => by rcases z with ⟨-, -, z⟩ | ⟨z, -⟩ <;> omega)
  · exact h8 705 q k (by decide) (fun z => by rcases z with ⟨-, -, z⟩ | ⟨z, -⟩ <;> omega)
  · rw [d3.i 703 (by decide), hc, iS_v (show (703 : Nat) ≠ 706 by decide), iS_v (show (703 : Nat) ≠ 702 by decide), iS_v (show (703 : Nat) ≠ 705 by decide), iS_v (show (703 : Nat) ≠ 704 by decide)]; exact iS_eq
  · rw [d3.i 704 (by decide), hc, iS_v (show (704 : Nat) ≠ 706 by decide), iS_v (show (704 : Nat) ≠ 702 by decide), iS_v (show (704 : Nat) ≠ 705 by decide)]; exact iS_eq
  · rw [d3.i 705 (by decide), hc, iS_v (show (705 : Nat) ≠ 706 by decide), iS_v (show (705 : Nat) ≠ 702 by decide)]; exact iS_eq
  · rw [d3.i 706 (by decide), hc]; exact iS_eq
  · rw [h8 707 0 q (by decide) (fun z => by rcases z with ⟨z, -⟩ | ⟨z, -⟩ <;> omega)]; exact eb7
  · unfold Pages_readsThing
    rw [a1, bS]
    simp only []
    rw [bS, hlk, show Pantry_has (nI t) μa = some (nI 1) from thh_in (by rw [a3.i 808 (by decide)]; exact e808) (by omega) ht, bS, if_neg n10, a3.i 712 (by decide), e12, rd_n (by omega) (by decide), a3.i 706 (by decide), eb, bS, hbit (by omega) (by omega), hb, bS, if_pos (show nI false.toNat = 0 from rfl), b1, bS, eb12, rd_n (by omega) (by decide), Fb.i 702 (by decide), P.1, bS, ix_n (by omega) (by decide), bS, wr_n (by omega) (by decide), bS, iS_v (show (712 : Nat) ≠ 703 by decide), eb12, ix_n (by omega) (by decide), bS, wr_n (by omega) (by decide), bS, iS_v (show (712 : Nat) ≠ 704 by decide), iS_v (show (712 : Nat) ≠ 703 by decide), eb12, ix_n (by omega) (by decide), bS, wr_n (by omega) (by decide), bS, iS_v (show (712 : Nat) ≠ 705 by decide), iS_v (show (712 : Nat) ≠ 704 by decide), iS_v (show (712 : Nat) ≠ 703 by decide), eb12, add_n, wr_n (by omega) (by decide), bS, iS_v (show (712 : Nat) ≠ 702 by decide), iS_v (show (712 : Nat) ≠ 705 by decide), iS_v (show (712 : Nat) ≠ 704 by decide), iS_v (show (712 : Nat) ≠ 703 by decide), eb12, rd_n (by omega) (by decide), iS_v (show (706 : Nat) ≠ 702 by decide), iS_v (show (706 : Nat) ≠ 705 by decide), iS_v (show (706 : Nat) ≠ 704 by decide), iS_v (show (706 : Nat) ≠ 703 by decide), Fb.i 706 (by decide), eb, bS, shl_n (by omega) (by omega), e2t, or_n, wr_n (by omega) (by decide), bS, ← hc, d1, bS]
    rfl
