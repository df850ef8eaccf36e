/-! PURE: bits that are set, counted -/
theorem ushr_n {n k : Nat} (hn : n < 4294967296) (hk : k < 32) : (((nI n : Int32).toUInt32 >>> ((nI k : Int32).toUInt32 &&& Int32.toUInt32 31)).toInt32) = nI (n / 2 ^ k) := by
  apply Int32.toBitVec_inj.mp
  show (BitVec.ofNat 32 n) >>> (((BitVec.ofNat 32 k) &&& 31#32) % 32#32) = BitVec.ofNat 32 (n / 2 ^ k)
  have hm : (((BitVec.ofNat 32 k) &&& 31#32) % 32#32).toNat = k := by
    rw [BitVec.toNat_umod, BitVec.toNat_and, BitVec.toNat_ofNat, BitVec.toNat_ofNat, BitVec.toNat_ofNat]
    rw [Nat.mod_eq_of_lt (show k < 2 ^ 32 by omega), show 31 % 2 ^ 32 = 2 ^ 5 - 1 from rfl, Nat.and_two_pow_sub_one_eq_mod, show 32 % 2 ^ 32 = 32 from rfl, show 2 ^ 5 = 32 from rfl, Nat.mod_mod, Nat.mod_eq_of_lt hk]
  apply BitVec.eq_of_toNat_eq
  show ((BitVec.ofNat 32 n) >>> (((BitVec.ofNat 32 k) &&& 31#32) % 32#32).toNat).toNat = _
  rw [hm, BitVec.toNat_ushiftRight, BitVec.toNat_ofNat, BitVec.toNat_ofNat, Nat.shiftRight_eq_div_pow, Nat.mod_eq_of_lt (show n < 2 ^ 32 by omega)]
  have : n / 2 ^ k ≤ n := Nat.div_le_self _ _
  rw [Nat.mod_eq_of_lt (by omega)]
def g1 (n : Nat) : Nat := n - (n / 2 &&& 1431655765)
def g2 (x : Nat) : Nat := (x &&& 858993459) + (x / 4 &&& 858993459)
def g3 (x : Nat) : Nat := (x + x / 16) &&& 252645135
def g4 (x : Nat) : Nat := x + x / 256
def g5 (x : Nat) : Nat := x + x / 65536
def gN (n : Nat) : Nat := g5 (g4 (g3 (g2 (g1 n)))) &&& 63
theorem pc_gN {n : Nat} (h : n < 65536) : pcN n = gN n := by
  have a1 : g1 n ≤ n := Nat.sub_le _ _
  have a2 : g2 (g1 n) < 4294967296 := by
    unfold g2
    have := Nat.and_le_left (n := g1 n) (m := 858993459)
    have := Nat.and_le_left (n := g1 n / 4) (m := 858993459)
    omega
  have a3 : g3 (g2 (g1 n)) ≤ 252645135 := Nat.and_le_right
  have a4 : g4 (g3 (g2 (g1 n))) < 4294967296 := by unfold g4; omega
  have hb : n / 2 &&& 1431655765 ≤ n := Nat.le_trans Nat.and_le_left (by omega)
  have e : J_bitCount (nI n) = some (nI (gN n)) := by
    unfold J_bitCount gN
    have hb' : n / 2 ^ 1 &&& 1431655765 ≤ n := hb
    rw [ushr_n (n := n) (k := 1) (by omega) (by decide), and_n, sub_n hb', bS, show n - (n / 2 ^ 1 &&& 1431655765) = g1 n from rfl]
    rw [ushr_n (n := g1 n) (k := 2) (by omega) (by decide), and_n, and_n, add_n, bS, show (g1 n &&& 858993459) + (g1 n / 2 ^ 2 &&& 858993459) = g2 (g1 n) from rfl]
    generalize g2 (g1 n) = x2 at a2 a3 a4
    rw [ushr_n (n := x2) (k := 4) a2 (by decide), add_n, and_n, bS, show (x2 + x2 / 2 ^ 4) &&& 252645135 = g3 x2 from rfl]
    generalize g3 x2 = x3 at a3 a4
    rw [ushr_n (n := x3) (k := 8) (by omega) (by decide), add_n, bS, show x3 + x3 / 2 ^ 8 = g4 x3 from rfl]
    generalize g4 x3 = x4 at a4
    rw [ushr_n (n := x4) (k := 16) a4 (by decide), add_n, bS, and_n]
    rfl
  unfold pcN
  rw [e]
  show nv (nI (gN n)) = _
  have : gN n ≤ 63 := Nat.and_le_right
  rw [nv_nI (by omega)]
def bcN (n : Nat) : Nat → Nat
  | 0 => 0
  | k + 1 => bcN n k + (n.testBit k).toNat
theorem bcN_congr {i j : Nat} : ∀ {k : Nat}, (∀ t, t < k → i.testBit t = j.testBit t) → bcN i k = bcN j k := by
  intro k
  induction k with
  | zero => intro _; rfl
  | succ k ih => intro h; show bcN i k + (i.testBit k).toNat = bcN j k + (j.testBit k).toNat; rw [ih (fun t ht => h t (by omega)), h k (by omega)]
/-- the leaves below a, whose bits are c, are counted as they should -/
def allC : Nat → Nat → Nat → Bool
  | 0, a, c => Nat.beq (gN a) c
  | k + 1, a, c => allC k (2 * a) c && allC k (2 * a + 1) (c + 1)
theorem allC_at : ∀ {k a c i : Nat}, allC k a c = true → i < 2 ^ k → gN (2 ^ k * a + i) = c + bcN i k := by
  intro k
  induction k with
  | zero =>
    intro a c i h hi
    rw [show 2 ^ 0 * a + i = a by omega]
    exact Nat.eq_of_beq_eq_true h
  | succ k ih =>
    intro a c i h hi
    unfold allC at h
    rw [Bool.and_eq_true] at h
    have e : 2 ^ (k + 1) = 2 * 2 ^ k := by omega
    rw [e] at hi
    show _ = c + (bcN i k + (i.testBit k).toNat)
    by_cases hl : i < 2 ^ k
    · have := ih h.1 hl
      rw [show 2 ^ (k + 1) * a + i = 2 ^ k * (2 * a) + i by rw [e]; rw [Nat.mul_comm 2, Nat.mul_assoc], this, Nat.testBit_lt_two_pow hl]
      rfl
    · obtain ⟨j, rfl⟩ : ∃ j, i = 2 ^ k + j := ⟨i - 2 ^ k, by omega⟩
      have hj : j < 2 ^ k := by omega
      have := ih h.2 hj
      rw [show 2 ^ (k + 1) * a + (2 ^ k + j) = 2 ^ k * (2 * a + 1) + j by rw [e, Nat.mul_comm 2, Nat.mul_assoc, Nat.mul_add]; omega, this, Nat.testBit_two_pow_add_eq, Nat.testBit_lt_two_pow hj, bcN_congr (j := j) (fun t ht => Nat.testBit_two_pow_add_gt ht j)]
      show c + 1 + bcN j k = c + (bcN j k + 1)
      omega
theorem pc_all : allC 16 0 0 = true := by decide +kernel
theorem pc_bc {n : Nat} (h : n < 65536) : pcN n = bcN n 16 := by
  have := allC_at pc_all h
  rw [Nat.mul_zero, Nat.zero_add, Nat.zero_add] at this
  rw [pc_gN h, this]
