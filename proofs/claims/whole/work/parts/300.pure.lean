/-! PURE: numbers, memory, loops -/
def nv (x : Int32) : Nat := x.toNatClampNeg
theorem nv_nI {n : Nat} (h : n < 2147483648) : nv (nI n) = n := nI_clamp h
theorem rd_n {μ : Mem} {v r n i : Nat} (h : i < n) (hn : n ≤ 1000000) : mRd μ v r n (nI i) = some (mI μ v r i) := by
  unfold mRd
  rw [if_pos (mIn_iff.mpr (vp_in_nI h (by omega))), nI_clamp (by omega)]
theorem rl_n {μ : Mem} {v r n i : Nat} (h : i < n) (hn : n ≤ 1000000) : mRl μ v r n (nI i) = some (mL μ v r i) := by
  unfold mRl
  rw [if_pos (mIn_iff.mpr (vp_in_nI h (by omega))), nI_clamp (by omega)]
theorem ix_n {n i : Nat} (h : i < n) (hn : n ≤ 1000000) : mIx (nI i) n = some i := by
  unfold mIx
  rw [if_pos (mIn_iff.mpr (vp_in_nI h (by omega))), nI_clamp (by omega)]
theorem wr_n {μ : Mem} {v r n i : Nat} {x : Int32} (h : i < n) (hn : n ≤ 1000000) : mWr μ v r n (nI i) x = some (mSI μ v r i x) := by
  unfold mWr
  rw [if_pos (mIn_iff.mpr (vp_in_nI h (by omega))), nI_clamp (by omega)]
theorem wl_n {μ : Mem} {v r n i : Nat} {x : Int64} (h : i < n) (hn : n ≤ 1000000) : mWl μ v r n (nI i) x = some (mSL μ v r i x) := by
  unfold mWl
  rw [if_pos (mIn_iff.mpr (vp_in_nI h (by omega))), nI_clamp (by omega)]
theorem wz_n {μ : Mem} {v r n i : Nat} {x : Int32} (h : i < n) (hn : n ≤ 1000000) (hx : x = 0 ∨ x = 1) : mWz μ v r n (nI i) x = some (mSI μ v r i x) := by
  unfold mWz
  rw [if_pos ⟨mIn_iff.mpr (vp_in_nI h (by omega)), hx⟩, nI_clamp (by omega)]
theorem rz_0 : mRz (nI 0) = some (nI 0) := rfl
theorem rz_1 : mRz (nI 1) = some (nI 1) := rfl
theorem dv_n {a b : Nat} (ha : a < 2147483648) (h0 : 0 < b) (hb : b < 2147483648) : mDv (nI a) (nI b) = some (nI (a / b)) := by
  unfold mDv
  rw [if_neg (nI_ne0 h0 hb), pk_div ha h0 hb]
theorem rm_n {a b : Nat} (ha : a < 2147483648) (h0 : 0 < b) (hb : b < 2147483648) : mRm (nI a) (nI b) = some (nI (a % b)) := by
  unfold mRm
  rw [if_neg (nI_ne0 h0 hb), pk_rem ha h0 hb]
/-- reading behind writing -/
theorem I_SI {μ : Mem} {v r c a b d : Nat} {x : Int32} : mI (mSI μ v r c x) a b d = if a = v ∧ b = r ∧ d = c then x else mI μ a b d := rfl
theorem I_SL {μ : Mem} {v r c : Nat} {x : Int64} : mI (mSL μ v r c x) = mI μ := rfl
theorem L_SI {μ : Mem} {v r c : Nat} {x : Int32} : mL (mSI μ v r c x) = mL μ := rfl
theorem L_SL {μ : Mem} {v r c a b d : Nat} {x : Int64} : mL (mSL μ v r c x) a b d = if a = v ∧ b = r ∧ d = c then x else mL μ a b d := rfl
theorem I_CP {μ : Mem} {v r v' r' n a b d : Nat} : mI (mCP μ v r v' r' n) a b d = if a = v' ∧ b = r' ∧ d < n then mI μ v r d else mI μ a b d := rfl
/-- comparing -/
theorem lt_n {a b : Nat} (ha : a < 2147483648) (hb : b < 2147483648) : nI a < nI b ↔ a < b := nI_ltI ha hb
theorem eq_n {a b : Nat} (ha : a < 2147483648) (hb : b < 2147483648) : nI a = nI b ↔ a = b := nI_eq ha hb
theorem eq0_n {a : Nat} (ha : a < 2147483648) : nI a = 0 ↔ a = 0 := nI_eq ha (by decide)
theorem lt0_n {a : Nat} (ha : a < 2147483648) : nI a < 0 ↔ False := ⟨fun h => absurd h (nI_pos ha), False.elim⟩
theorem gt0_n {a : Nat} (ha : a < 2147483648) : 0 < nI a ↔ 0 < a := nI_ltI (a := 0) (by decide) ha
theorem m1_n {a : Nat} (ha : a < 2147483648) : nI a = -1 ↔ False := by
  refine ⟨fun h => ?_, False.elim⟩
  have h1 := nI_toInt ha
  rw [h] at h1
  have : (-1 : Int32).toInt = -1 := by decide
  omega
theorem m1_n' {a : Nat} (ha : a < 2147483648) : -1 = nI a ↔ False := by
  rw [eq_comm]; exact m1_n ha
theorem m1_lt {a : Nat} (ha : a < 2147483648) : -1 < nI a ↔ True := by
  refine ⟨fun _ => trivial, fun _ => ?_⟩
  rw [Int32.lt_iff_toInt_lt, nI_toInt ha]
  have : (-1 : Int32).toInt = -1 := by decide
  omega
theorem lt_m1 {a : Nat} (ha : a < 2147483648) : nI a < -1 ↔ False := by
  refine ⟨fun h => ?_, False.elim⟩
  rw [Int32.lt_iff_toInt_lt, nI_toInt ha] at h
  have : (-1 : Int32).toInt = -1 := by decide
  omega
theorem sub_n {a b : Nat} (h : b ≤ a) : nI a - nI b = nI (a - b) := pk_sub h
theorem add_n (a b : Nat) : nI a + nI b = nI (a + b) := nI_add a b
theorem mul_n (a b : Nat) : nI a * nI b = nI (a * b) := pk_mul a b
theorem sub0_n : nI 0 - nI 1 = -1 := rfl
/-- any argument: out of bounds, or a number below n -/
theorem arg_n (x : Int32) (n : Nat) (hn : n ≤ 1000000) : (x < 0 ∨ nI n ≤ x) ∨ ∃ k, k < n ∧ x = nI k := by
  rcases pk_ix x (n := n) (by omega) with h | h | h
  · exact Or.inl (Or.inl h)
  · exact Or.inl (Or.inr h)
  · exact Or.inr h
/-- bits -/
theorem tn_n {n : Nat} (h : n < 4294967296) : (nI n).toBitVec.toNat = n := pk_tn h
theorem nI_bv (n : Nat) : nI n = ⟨⟨BitVec.ofNat 32 n⟩⟩ := rfl
theorem or_n (a b : Nat) : nI a ||| nI b = nI (a ||| b) := by
  apply Int32.toBitVec_inj.mp
  show BitVec.ofNat 32 a ||| BitVec.ofNat 32 b = BitVec.ofNat 32 (a ||| b)
  apply BitVec.eq_of_toNat_eq
  simp [Nat.or_mod_two_pow]
theorem and_n (a b : Nat) : nI a &&& nI b = nI (a &&& b) := by
  apply Int32.toBitVec_inj.mp
  show BitVec.ofNat 32 a &&& BitVec.ofNat 32 b = BitVec.ofNat 32 (a &&& b)
  apply BitVec.eq_of_toNat_eq
  simp [Nat.and_mod_two_pow]
theorem xor_n (a b : Nat) : nI a ^^^ nI b = nI (a ^^^ b) := by
  apply Int32.toBitVec_inj.mp
  show BitVec.ofNat 32 a ^^^ BitVec.ofNat 32 b = BitVec.ofNat 32 (a ^^^ b)
  apply BitVec.eq_of_toNat_eq
  simp [Nat.xor_mod_two_pow]
theorem sm_n {k : Nat} (h : k < 32) : ((nI k &&& 31).toBitVec.smod 32).toNat = k := by
  have h1 : nI k &&& 31 = nI k := by
    rw [show (31 : Int32) = nI 31 from rfl, and_n]
    congr 1
    rw [Nat.and_two_pow_sub_one_eq_mod k 5]
    omega
  rw [h1]
  have : ∀ k : Fin 32, ((nI k.1).toBitVec.smod 32).toNat = k.1 := by decide
  exact this ⟨k, h⟩
theorem shl_n {n k : Nat} (hk : k < 32) (h : n * 2 ^ k < 4294967296) : nI n <<< (nI k &&& 31) = nI (n * 2 ^ k) := pk_shlN _ k (sm_n hk) h
theorem shr_n {n k : Nat} (hn : n < 2147483648) (hk : k < 32) : nI n >>> (nI k &&& 31) = nI (n / 2 ^ k) := pk_shrN hn _ k (sm_n hk)
theorem bit_n {n k : Nat} (hn : n < 2147483648) (hk : k < 32) : (nI n >>> (nI k &&& 31)) &&& nI 1 = nI (n.testBit k).toNat := by
  rw [shr_n hn hk, and_n, Nat.and_one_is_mod, Nat.testBit_eq_decide_div_mod_eq]
  congr 1
  rcases Nat.mod_two_eq_zero_or_one (n / 2 ^ k) with h | h <;> simp [h]
theorem tb0 {b : Bool} : nI b.toNat = 0 ↔ b = false := by cases b <;> decide
theorem tb1 {b : Bool} : nI b.toNat = nI 1 ↔ b = true := by cases b <;> decide
/-- a counting loop, from k up to n -/
theorem up_loop {S R : Type} (L : Nat → Int32 → S → Option R) (n : Nat) (st : Nat → S → S) (I : Nat → S → Prop) (fin : S → Option R)
    (hs : ∀ f k s, k < n → I k s → L (f + 1) (nI k) s = L f (nI (k + 1)) (st k s) ∧ I (k + 1) (st k s)) (he : ∀ f s, I n s → L (f + 1) (nI n) s = fin s) :
    ∀ m k s f, k + m = n → m < f → I k s → ∃ s', I n s' ∧ L f (nI k) s = fin s' ∧ s' = (List.range' k m).foldl (fun a i => st i a) s := by
  intro m
  induction m with
  | zero =>
    intro k s f hk hf hI
    obtain ⟨f, rfl⟩ : ∃ g, f = g + 1 := ⟨f - 1, by omega⟩
    have : k = n := by omega
    subst this
    exact ⟨s, hI, he f s hI, rfl⟩
  | succ m ih =>
    intro k s f hk hf hI
    obtain ⟨f, rfl⟩ : ∃ g, f = g + 1 := ⟨f - 1, by omega⟩
    obtain ⟨h1, h2⟩ := hs f k s (by omega) hI
    obtain ⟨s', a, b, c⟩ := ih (k + 1) (st k s) f (by omega) (by omega) h2
    exact ⟨s', a, h1.trans b, by rw [c, List.range'_succ]; rfl⟩
