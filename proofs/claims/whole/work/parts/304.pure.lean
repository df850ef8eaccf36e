/-! PURE: what both objects hold, as numbers and laws; what the class's memory and the reference's have of it -/
theorem iS {μ : Mem} {v r c a b d : Nat} {x : Int32} : mI (mSI μ v r c x) a b d = if a = v ∧ b = r ∧ d = c then x else mI μ a b d := (I_SI).trans (Eq.refl _)
theorem iS_eq {μ : Mem} {v r c : Nat} {x : Int32} : mI (mSI μ v r c x) v r c = x := by rw [I_SI, if_pos ⟨rfl, rfl, rfl⟩]
theorem iS_v {μ : Mem} {v r c a b d : Nat} {x : Int32} (h : a ≠ v) : mI (mSI μ v r c x) a b d = mI μ a b d := by rw [I_SI, if_neg (fun q => h q.1)]
theorem iS_r {μ : Mem} {v r c a b d : Nat} {x : Int32} (h : b ≠ r) : mI (mSI μ v r c x) a b d = mI μ a b d := by rw [I_SI, if_neg (fun q => h q.2.1)]
theorem iS_c {μ : Mem} {v r c a b d : Nat} {x : Int32} (h : d ≠ c) : mI (mSI μ v r c x) a b d = mI μ a b d := by rw [I_SI, if_neg (fun q => h q.2.2)]
/-- a loop that counts up from k0 to n, or ends before -/
theorem loopE {σ R : Type} (L : Nat → Int32 → σ → Option R) (n : Nat) (I : Nat → σ → Prop) (Q : R → Prop)
    (hs : ∀ f k s, k < n → I k s → (∃ s', L (f + 1) (nI k) s = L f (nI (k + 1)) s' ∧ I (k + 1) s') ∨ (∃ r, L (f + 1) (nI k) s = some r ∧ Q r))
    (he : ∀ f s, I n s → ∃ r, L (f + 1) (nI n) s = some r ∧ Q r) :
    ∀ m k s f, k + m = n → m < f → I k s → ∃ r, L f (nI k) s = some r ∧ Q r := by
  intro m
  induction m with
  | zero =>
    intro k s f hk hf hI
    obtain ⟨f, rfl⟩ : ∃ g, f = g + 1 := ⟨f - 1, by omega⟩
    have : k = n := by omega
    subst this
    exact he f s hI
  | succ m ih =>
    intro k s f hk hf hI
    obtain ⟨f, rfl⟩ : ∃ g, f = g + 1 := ⟨f - 1, by omega⟩
    rcases hs f k s (by omega) hI with ⟨s', h1, h2⟩ | h
    · obtain ⟨r, a, b⟩ := ih (k + 1) s' f (by omega) (by omega) h2
      exact ⟨r, h1.trans a, b⟩
    · exact h
theorem FU_lt {n : Nat} (h : n < 1000000) : n < FU := h
/-- down from k places: the counter is the number of those left, less one -/
def dI (n : Nat) : Int32 := nI n + -1
theorem dI_s (n : Nat) : dI (n + 1) = nI n := pk_m1 n
theorem dI_0 : dI 0 = -1 := rfl
theorem sub1 (n : Nat) : nI n - nI 1 = dI n := by
  unfold dI
  cases n with
  | zero => rfl
  | succ n => rw [pk_m1, sub_n (by omega), Nat.add_sub_cancel]
theorem dI_neg {n : Nat} (h : n < 2147483648) : dI n < 0 ↔ n = 0 := by
  cases n with
  | zero => exact ⟨fun _ => rfl, fun _ => by decide⟩
  | succ n => rw [dI_s]; exact ⟨fun q => absurd q (nI_pos (by omega)), fun q => nomatch q⟩
theorem loopD {σ R : Type} (L : Nat → Int32 → σ → Option R) (I : Nat → σ → Prop) (Q : R → Prop)
    (hs : ∀ f k s, I (k + 1) s → (∃ s', L (f + 1) (nI k) s = L f (dI k) s' ∧ I k s') ∨ (∃ r, L (f + 1) (nI k) s = some r ∧ Q r))
    (he : ∀ f s, I 0 s → ∃ r, L (f + 1) (-1) s = some r ∧ Q r) :
    ∀ k s f, k < f → I k s → ∃ r, L f (dI k) s = some r ∧ Q r := by
  intro k
  induction k with
  | zero =>
    intro s f hf hI
    obtain ⟨f, rfl⟩ : ∃ g, f = g + 1 := ⟨f - 1, by omega⟩
    exact he f s hI
  | succ k ih =>
    intro s f hf hI
    obtain ⟨f, rfl⟩ : ∃ g, f = g + 1 := ⟨f - 1, by omega⟩
    rw [dI_s]
    rcases hs f k s hI with ⟨s', h1, h2⟩ | h
    · obtain ⟨r, a, b⟩ := ih s' f (by omega) h2
      exact ⟨r, h1.trans a, b⟩
    · exact h
abbrev St : Type := (Nat → Nat → Nat → Nat) × (Nat → Nat → Nat → Int32) × (Nat → LawT)
def sN (S : St) (v r c : Nat) : Nat := S.1 v r c
def sI (S : St) (v r c : Nat) : Int32 := S.2.1 v r c
def sL (S : St) (l : Nat) : LawT := S.2.2 l
def nTp (S : St) : Nat := sN S 1001 0 0
def nTh (S : St) : Nat := sN S 808 0 0
def nPg (S : St) : Nat := sN S 712 0 0
def nLw (S : St) : Nat := sN S 504 0 0
def nHo (S : St) : Nat := sN S 904 0 0
def nTr (S : St) : Nat := sN S 507 0 0
def nBk (S : St) : Nat := sN S 206 0 0
def nDy (S : St) : Nat := sN S 106 0 0
def mT (S : St) (p : Nat) : Nat := sN S 702 0 p
/-! the tape -/
def C_tp (S : St) (μ : Mem) : Prop := mI μ 1001 0 0 = nI (nTp S) ∧ ∀ i, i < nTp S → mI μ 1000 0 i = nI (sN S 1000 0 i)
def M_tp (S : St) (ν : Mem) : Prop := mI ν 1302 0 0 = nI (nTp S) ∧ ∀ i, i < nTp S → mI ν 1301 0 i = nI (sN S 1000 0 i)
def W_tp (S : St) : Prop := nTp S ≤ 120 ∧ ∀ i, i < nTp S → sN S 1000 0 i < 256
/-! things -/
def C_th (S : St) (μ : Mem) : Prop := mI μ 808 0 0 = nI (nTh S) ∧ mI μ 807 0 0 = nI (sN S 807 0 0) ∧ (∀ t, t < nTh S → mI μ 800 0 t = nI (sN S 800 0 t) ∧ mI μ 801 0 t = nI (sN S 801 0 t) ∧ mI μ 802 0 t = nI (sN S 802 0 t) ∧ mI μ 803 0 t = nI (sN S 803 0 t)) ∧ ∀ t, t < 12 → mI μ 804 0 t = nI (sN S 804 0 t) ∧ ∀ k, k < sN S 804 0 t → mI μ 805 t k = nI (sN S 805 t k) ∧ mI μ 806 t k = nI (sN S 806 t k)
def M_th (S : St) (ν : Mem) : Prop := mI ν 1314 0 0 = nI (nTh S) ∧ (∀ t, t < nTh S → mI ν 1306 0 t = nI (sN S 800 0 t) ∧ mI ν 1307 0 t = nI (sN S 801 0 t) ∧ mI ν 1308 0 t = nI (sN S 802 0 t) ∧ mI ν 1310 0 t = nI (sN S 803 0 t) ∧ mI ν 1309 0 t = nI (sN S 809 0 t)) ∧ ∀ t, t < 12 → mI ν 1311 0 t = nI (sN S 804 0 t) ∧ ∀ k, k < sN S 804 0 t → mI ν 1312 0 (6 * t + k) = nI (sN S 805 t k) ∧ mI ν 1313 0 (6 * t + k) = nI (sN S 806 t k)
def W_th (S : St) : Prop := nTh S ≤ 12 ∧ sN S 807 0 0 < 2 ^ nTh S ∧ (∀ t, t < nTh S → sN S 800 0 t ≤ 99 ∧ sN S 801 0 t ≤ 99 ∧ sN S 802 0 t ≤ 99 ∧ sN S 803 0 t < 4096 ∧ (sN S 807 0 0).testBit t = decide (sN S 809 0 t = 1) ∧ sN S 809 0 t ≤ 1) ∧ (∀ t, t < 12 → sN S 804 0 t ≤ 6 ∧ (∀ k, k < sN S 804 0 t → 1200 ≤ sN S 805 t k ∧ sN S 805 t k ≤ 1999 ∧ 1 ≤ sN S 806 t k ∧ sN S 806 t k ≤ 999) ∧ ∀ k, k + 1 < sN S 804 0 t → sN S 805 t k < sN S 805 t (k + 1)) ∧ ∀ t, nTh S ≤ t → sN S 804 0 t = 0
/-! pages -/
def acd (a : Nat) : Nat := if a = 0 then 66 else if a = 1 then 82 else if a = 2 then 84 else 83
def cntA (S : St) (p a : Nat) : Nat → Nat
  | 0 => 0
  | i + 1 => cntA S p a i + (if sN S 708 p i = a then 1 else 0)
def C_pg (S : St) (μ : Mem) : Prop := mI μ 712 0 0 = nI (nPg S) ∧ (∀ p, p < nPg S → mI μ 702 0 p = nI (mT S p) ∧ (∀ k, k < mT S p → mI μ 703 p k = nI (sN S 703 p k) ∧ mI μ 704 p k = nI (sN S 704 p k) ∧ mI μ 705 p k = nI (sN S 705 p k)) ∧ mI μ 706 0 p = nI (sN S 706 0 p) ∧ mI μ 707 0 p = nI (sN S 707 0 p) ∧ mI μ 709 0 p = nI (sN S 709 0 p) ∧ (∀ i, i < sN S 709 0 p → mI μ 708 p i = nI (sN S 708 p i)) ∧ ∀ a, a < 4 → mI μ 710 p a = nI (sN S 710 p a)) ∧ ∀ p, p < 17 → mI μ 711 0 p = nI (sN S 711 0 p)
def M_pg (S : St) (ν : Mem) : Prop := mI ν 1322 0 0 = nI (nPg S) ∧ ∀ p, p < nPg S → mI ν 1315 0 p = nI (mT S p) ∧ (∀ k, k < mT S p → mI ν 1316 0 (8 * p + k) = nI (sN S 703 p k) ∧ mI ν 1317 0 (8 * p + k) = nI (sN S 704 p k) ∧ mI ν 1318 0 (8 * p + k) = nI (sN S 705 p k)) ∧ mI ν 1319 0 p = nI (sN S 709 0 p) ∧ (∀ i, i < sN S 709 0 p → mI ν 1320 0 (72 * p + i) = nI (acd (sN S 708 p i))) ∧ mI ν 1321 0 p = nI (sN S 711 0 p)
def W_p1 (S : St) (p : Nat) : Prop := (1 ≤ mT S p ∧ mT S p ≤ 8) ∧ (∀ k, k < mT S p → sN S 703 p k < nTh S ∧ sN S 704 p k ≤ 99 ∧ sN S 705 p k ≤ 99 ∧ sN S 704 p k ≤ sN S 705 p k ∧ (sN S 704 p k = 0 → sN S 705 p k = 0)) ∧ (∀ k j, k < mT S p → j < mT S p → sN S 703 p k = sN S 703 p j → k = j) ∧ (sN S 706 0 p < 4096 ∧ ∀ t, (sN S 706 0 p).testBit t = true ↔ ∃ k, k < mT S p ∧ sN S 703 p k = t) ∧ (sN S 707 0 p < 4096 ∧ ∀ t, (sN S 707 0 p).testBit t = true ↔ ∃ k, k < mT S p ∧ sN S 703 p k = t ∧ sN S 704 p k = 0) ∧ sN S 709 0 p ≤ 72 ∧ (∀ i, i < sN S 709 0 p → sN S 708 p i < 4) ∧ (∀ a, a < 4 → sN S 710 p a = cntA S p a (sN S 709 0 p)) ∧ sN S 711 0 p ≤ 5
def W_pg (S : St) : Prop := nPg S ≤ 16 ∧ (∀ p, p < nPg S → W_p1 S p) ∧ ∀ p, nPg S ≤ p → sN S 711 0 p = 0
/-! laws and trials -/
def C_lw (S : St) (μ : Mem) : Prop := mI μ 504 0 0 = nI (nLw S) ∧ ∀ l, l < nLw S → EncC μ l (sL S l)
def M_lw (S : St) (ν : Mem) : Prop := mI ν 1330 0 0 = nI (nLw S) ∧ ∀ l, l < nLw S → EncM ν l (sL S l)
def W_lw (S : St) : Prop := nLw S ≤ 6 ∧ ∀ l, l < nLw S → GoodLaw (sL S l)
def C_tr (S : St) (μ : Mem) : Prop := mI μ 507 0 0 = nI (nTr S) ∧ ∀ l, l < 6 → mI μ 505 0 l = sI S 505 0 l ∧ mI μ 506 0 l = sI S 506 0 l
def M_tr (S : St) (ν : Mem) : Prop := mI ν 1348 0 0 = nI (nTr S) ∧ ∀ k, k < nTr S → mI ν 1345 0 k = nI (sN S 1345 0 k) ∧ mI ν 1346 0 k = sI S 1346 0 k ∧ mI ν 1347 0 k = nI (sN S 1347 0 k)
def W_tr (S : St) : Prop := nTr S ≤ 20 ∧ (∀ k, k < nTr S → sN S 1347 0 k ≤ 1 ∧ sN S 1345 0 k < 6) ∧ ∀ l v, l < 6 → bd6 v → (sI S 505 0 l ≤ v ↔ ∃ k, k < nTr S ∧ sN S 1345 0 k = l ∧ sN S 1347 0 k = 1 ∧ sI S 1346 0 k ≤ v) ∧ (v ≤ sI S 506 0 l ↔ ∃ k, k < nTr S ∧ sN S 1345 0 k = l ∧ sN S 1347 0 k = 0 ∧ v ≤ sI S 1346 0 k)
/-! MOST and holds -/
def C_ho (S : St) (μ : Mem) : Prop := mI μ 903 0 0 = nI (sN S 903 0 0) ∧ mI μ 904 0 0 = nI (nHo S) ∧ ∀ p, p < 16 → mI μ 905 0 p = nI (sN S 905 0 p) ∧ ∀ l, l < 6 → mI μ 906 p l = sI S 906 p l ∧ mI μ 907 p l = sI S 907 p l
def M_ho (S : St) (ν : Mem) : Prop := mI ν 1339 0 0 = nI (sN S 903 0 0) ∧ mI ν 1338 0 0 = nI (nHo S) ∧ ∀ k, k < nHo S → mI ν 1334 0 k = nI (sN S 1334 0 k) ∧ mI ν 1335 0 k = nI (sN S 1335 0 k) ∧ mI ν 1336 0 k = sI S 1336 0 k ∧ mI ν 1337 0 k = sI S 1337 0 k
def W_ho (S : St) : Prop := (1 ≤ sN S 903 0 0 ∧ sN S 903 0 0 ≤ 20) ∧ nHo S ≤ 20 ∧ (∀ p, p < 16 → sN S 905 0 p < 2 ^ nLw S) ∧ (∀ k, k < nHo S → sN S 1334 0 k < nPg S ∧ sN S 1335 0 k < nLw S) ∧ ∀ p l v, p < 16 → l < 6 → (((sN S 905 0 p).testBit l = true → sI S 906 p l ≤ v ∧ v ≤ sI S 907 p l) ↔ ∀ k, k < nHo S → sN S 1334 0 k = p → sN S 1335 0 k = l → sI S 1336 0 k ≤ v ∧ v ≤ sI S 1337 0 k)
/-! books and days -/
def C_bk (S : St) (μ : Mem) : Prop := mI μ 206 0 0 = nI (nBk S) ∧ (∀ b, b < nBk S → mI μ 200 0 b = sI S 200 0 b ∧ mI μ 201 0 b = sI S 201 0 b) ∧ ∀ u v, u < 8 → v < 8 → mI μ 202 u v = nI (sN S 202 u v)
def M_bk (S : St) (ν : Mem) : Prop := mI ν 1354 0 0 = nI (nBk S) ∧ (∀ b, b < nBk S → mI ν 1350 0 b = sI S 200 0 b ∧ mI ν 1351 0 b = sI S 201 0 b) ∧ ∀ u v, u < 8 → v < 8 → mI ν 1349 0 (8 * u + v) = nI (sN S 202 u v)
def W_bk (S : St) : Prop := nBk S ≤ 12 ∧ (∀ b, b < nBk S → (sI S 200 0 b = -1 ∨ ∃ a, a < b ∧ sI S 200 0 b = nI a) ∧ (sI S 201 0 b = -1 ∨ ∃ w, w < 8 ∧ sI S 201 0 b = nI w)) ∧ ∀ u v, u < 8 → v < 8 → sN S 202 u v ≤ 99
def C_dy (S : St) (μ : Mem) : Prop := mI μ 106 0 0 = nI (nDy S) ∧ (∀ d, d < nDy S → mI μ 103 0 d = nI (sN S 103 0 d) ∧ mI μ 104 0 d = nI (sN S 104 0 d)) ∧ ∀ d t, d < 10 → t < 12 → mI μ 105 d t = nI (sN S 105 d t)
def M_dy (S : St) (ν : Mem) : Prop := mI ν 1358 0 0 = nI (nDy S) ∧ (∀ d, d < nDy S → mI ν 1355 0 d = nI (sN S 103 0 d) ∧ mI ν 1356 0 d = nI (sN S 104 0 d)) ∧ ∀ d t, d < 10 → t < 12 → mI ν 1357 0 (12 * d + t) = nI (sN S 105 d t)
def W_dy (S : St) : Prop := nDy S ≤ 10 ∧ (∀ d, d < nDy S → (1 ≤ sN S 103 0 d ∧ sN S 103 0 d ≤ 12) ∧ sN S 104 0 d ≤ 1) ∧ ∀ d t, d < 10 → t < 12 → sN S 105 d t ≤ 999
/-! dishes -/
def loP (S : St) (p k : Nat) : Nat := if sN S 704 p k = 0 then 1 else sN S 704 p k
def wdP (S : St) (p k : Nat) : Nat := if sN S 704 p k = 0 then sN S 903 0 0 else sN S 705 p k - sN S 704 p k + 1
def pr (f : Nat → Nat) : Nat → Nat → Nat
  | _, 0 => 1
  | k, c + 1 => f k * pr f (k + 1) c
def strP (S : St) (p k : Nat) : Nat := pr (wdP S p) (k + 1) (mT S p - (k + 1))
def totP (S : St) (p : Nat) : Nat := pr (wdP S p) 0 (mT S p)
def told (S : St) (p : Nat) : Prop := totP S p ≤ 5000
def prtP (S : St) (p d k : Nat) : Nat := loP S p k + d / strP S p k % wdP S p k
def sumK (f : Nat → Nat) : Nat → Nat
  | 0 => 0
  | k + 1 => sumK f k + f k
/-- the letters by the parts at the places -/
def ltF (S : St) (p : Nat) (f : Nat → Nat) (i : Nat) : Int32 :=
  if i = 0 then nI (sumK (fun k => f k * sN S 800 0 (sN S 703 p k)) (mT S p))
  else if i = 1 then nI (sumK (fun k => f k * sN S 801 0 (sN S 703 p k)) (mT S p))
  else if i = 2 then nI (sumK (fun k => f k * sN S 802 0 (sN S 703 p k)) (mT S p))
  else if i = 3 then nI (sumK f (mT S p))
  else if i < 8 then nI (sN S 710 p (i - 4))
  else if sN S 706 0 p &&& sN S 807 0 0 = 0 then nI 0 else nI 1
def ltP (S : St) (p d : Nat) : Nat → Int32 := ltF S p (prtP S p d)
def wthF (S : St) (p : Nat) (f : Nat → Nat) (l : Nat) : Int32 := lawV (ltF S p f) (sL S l)
def keptF (S : St) (p : Nat) (f : Nat → Nat) : Prop := ∀ l, l < 6 → (sN S 905 0 p).testBit l = true → sI S 906 p l ≤ wthF S p f l ∧ wthF S p f l ≤ sI S 907 p l
def keptB (S : St) (p : Nat) (f : Nat → Nat) : Bool := (List.range 6).all fun l => !(sN S 905 0 p).testBit l || (decide (sI S 906 p l ≤ wthF S p f l) && decide (wthF S p f l ≤ sI S 907 p l))
theorem keptB_iff {S : St} {p : Nat} {f : Nat → Nat} : keptB S p f = true ↔ keptF S p f := by
  unfold keptB keptF
  rw [List.all_eq_true]
  constructor
  · intro h l hl hb
    have := h l (List.mem_range.mpr hl)
    simp [hb] at this
    exact this
  · intro h l hl
    have := h l (List.mem_range.mp hl)
    cases hb : (sN S 905 0 p).testBit l with
    | false => rfl
    | true => simp [this hb]
def dl (S : St) (p : Nat) : List Nat := (List.range (totP S p)).filter fun d => keptB S p (prtP S p d)
def cntI (S : St) (p : Nat) : Int32 := if totP S p ≤ 5000 then nI (dl S p).length else -1
/-! what stands ready in the class -/
def Rows (S : St) (p : Nat) (μ : Mem) : Prop := (told S p → (∀ i d, (dl S p)[i]? = some d → mI μ 913 0 i = nI d) ∧ ∀ k, k < mT S p → mI μ 914 0 k = nI (loP S p k) ∧ mI μ 915 0 k = nI (wdP S p k) ∧ mI μ 916 0 k = nI (strP S p k)) ∧ ∀ i, 4 ≤ i → i < 9 → mI μ 918 0 i = ltP S p 0 i
def Cnt (S : St) (p : Nat) (μ : Mem) : Prop := mI μ 910 0 p = cntI S p ∧ (told S p → ∀ d, (dl S p)[0]? = some d → ∀ k, k < mT S p → mI μ 911 p k = nI (prtP S p d k))
def C_ca (S : St) (μ : Mem) : Prop := mI μ 908 0 0 = nI (sN S 908 0 0) ∧ (∀ p, p < 16 → mI μ 909 0 p = -1 ∨ ∃ b, b ≤ sN S 908 0 0 ∧ mI μ 909 0 p = nI b) ∧ (∀ p, p < 16 → nPg S ≤ p → mI μ 909 0 p = -1) ∧ (mI μ 912 0 0 = -1 ∨ ∃ s, s < nPg S ∧ mI μ 912 0 0 = nI s) ∧ (∀ p, p < nPg S → mI μ 909 0 p = nI (sN S 908 0 0) → Cnt S p μ) ∧ ∀ p, p < nPg S → mI μ 912 0 0 = nI p → mI μ 909 0 p = nI (sN S 908 0 0) → Rows S p μ
/-! kin -/
def acE (S : St) (p q i j : Nat) : Bool := decide (sN S 708 p i = sN S 708 q j)
def edD (e : Nat → Nat → Bool) : Nat → Nat → Nat
  | 0, j => j
  | i + 1, 0 => i + 1
  | i + 1, j + 1 => min (edD e i j + (if e i j then 0 else 1)) (min (edD e i (j + 1)) (edD e (i + 1) j) + 1)
def edP (S : St) (p q : Nat) : Nat := edD (acE S p q) (sN S 709 0 p) (sN S 709 0 q)
def pcN (n : Nat) : Nat := nv ((J_bitCount (nI n)).getD 0)
def farP (S : St) (p q : Nat) : Nat := pcN (sN S 706 0 p ^^^ sN S 706 0 q) + edP S p q
/-- the page of those below q that is least far, of several the lowest -/
def camP (S : St) (p : Nat) : Nat → Nat
  | 0 => 0
  | q + 1 => if q = 0 then 0 else if farP S p q < farP S p (camP S p q) then q else camP S p q
def camI (S : St) (p : Nat) : Int32 := if p = 0 then -1 else nI (camP S p p)
def C_kn (S : St) (μ : Mem) : Prop := (∀ p q, p < nPg S → q < nPg S → mI μ 301 p q = nI (farP S p q)) ∧ (∀ p q, q < p → p < nPg S → mI μ 302 p q = nI (edP S p q)) ∧ ∀ p, p < nPg S → mI μ 303 0 p = camI S p
def WF (S : St) : Prop := W_tp S ∧ W_th S ∧ W_pg S ∧ W_lw S ∧ W_tr S ∧ W_ho S ∧ W_bk S ∧ W_dy S
def CR (S : St) (μ : Mem) : Prop := C_tp S μ ∧ C_th S μ ∧ C_pg S μ ∧ C_lw S μ ∧ C_tr S μ ∧ C_ho S μ ∧ C_bk S μ ∧ C_dy S μ ∧ C_ca S μ ∧ C_kn S μ
def MR (S : St) (ν : Mem) : Prop := M_tp S ν ∧ M_th S ν ∧ M_pg S ν ∧ M_lw S ν ∧ M_tr S ν ∧ M_ho S ν ∧ M_bk S ν ∧ M_dy S ν
theorem WF.tp {S : St} (h : WF S) : W_tp S := h.1
theorem WF.th {S : St} (h : WF S) : W_th S := h.2.1
theorem WF.pg {S : St} (h : WF S) : W_pg S := h.2.2.1
theorem WF.lw {S : St} (h : WF S) : W_lw S := h.2.2.2.1
theorem WF.tr {S : St} (h : WF S) : W_tr S := h.2.2.2.2.1
theorem WF.ho {S : St} (h : WF S) : W_ho S := h.2.2.2.2.2.1
theorem WF.bk {S : St} (h : WF S) : W_bk S := h.2.2.2.2.2.2.1
theorem WF.dy {S : St} (h : WF S) : W_dy S := h.2.2.2.2.2.2.2
theorem CR.tp {S : St} {μ : Mem} (h : CR S μ) : C_tp S μ := h.1
theorem CR.th {S : St} {μ : Mem} (h : CR S μ) : C_th S μ := h.2.1
theorem CR.pg {S : St} {μ : Mem} (h : CR S μ) : C_pg S μ := h.2.2.1
theorem CR.lw {S : St} {μ : Mem} (h : CR S μ) : C_lw S μ := h.2.2.2.1
theorem CR.tr {S : St} {μ : Mem} (h : CR S μ) : C_tr S μ := h.2.2.2.2.1
theorem CR.ho {S : St} {μ : Mem} (h : CR S μ) : C_ho S μ := h.2.2.2.2.2.1
theorem CR.bk {S : St} {μ : Mem} (h : CR S μ) : C_bk S μ := h.2.2.2.2.2.2.1
theorem CR.dy {S : St} {μ : Mem} (h : CR S μ) : C_dy S μ := h.2.2.2.2.2.2.2.1
theorem CR.ca {S : St} {μ : Mem} (h : CR S μ) : C_ca S μ := h.2.2.2.2.2.2.2.2.1
theorem CR.kn {S : St} {μ : Mem} (h : CR S μ) : C_kn S μ := h.2.2.2.2.2.2.2.2.2
theorem MR.tp {S : St} {ν : Mem} (h : MR S ν) : M_tp S ν := h.1
theorem MR.th {S : St} {ν : Mem} (h : MR S ν) : M_th S ν := h.2.1
theorem MR.pg {S : St} {ν : Mem} (h : MR S ν) : M_pg S ν := h.2.2.1
theorem MR.lw {S : St} {ν : Mem} (h : MR S ν) : M_lw S ν := h.2.2.2.1
theorem MR.tr {S : St} {ν : Mem} (h : MR S ν) : M_tr S ν := h.2.2.2.2.1
theorem MR.ho {S : St} {ν : Mem} (h : MR S ν) : M_ho S ν := h.2.2.2.2.2.1
theorem MR.bk {S : St} {ν : Mem} (h : MR S ν) : M_bk S ν := h.2.2.2.2.2.2.1
theorem MR.dy {S : St} {ν : Mem} (h : MR S ν) : M_dy S ν := h.2.2.2.2.2.2.2
/-! what lies in other variables is left as it was -/
theorem C_tp.fr {S : St} {μ μ' : Mem} (h : C_tp S μ) (e : ∀ v, v ∈ [1000, 1001] → mI μ' v = mI μ v) : C_tp S μ' := by
  unfold C_tp at *
  simp only [e 1000 (by decide), e 1001 (by decide)]; exact h
theorem C_th.fr {S : St} {μ μ' : Mem} (h : C_th S μ) (e : ∀ v, v ∈ [800, 801, 802, 803, 804, 805, 806, 807, 808] → mI μ' v = mI μ v) : C_th S μ' := by
  unfold C_th at *
  simp only [e 800 (by decide), e 801 (by decide), e 802 (by decide), e 803 (by decide), e 804 (by decide), e 805 (by decide), e 806 (by decide), e 807 (by decide), e 808 (by decide)]; exact h
theorem C_pg.fr {S : St} {μ μ' : Mem} (h : C_pg S μ) (e : ∀ v, v ∈ [702, 703, 704, 705, 706, 707, 708, 709, 710, 711, 712] → mI μ' v = mI μ v) : C_pg S μ' := by
  unfold C_pg at *
  simp only [e 702 (by decide), e 703 (by decide), e 704 (by decide), e 705 (by decide), e 706 (by decide), e 707 (by decide), e 708 (by decide), e 709 (by decide), e 710 (by decide), e 711 (by decide), e 712 (by decide)]; exact h
theorem EncC.fr {μ μ' : Mem} {l : Nat} {L : LawT} (h : EncC μ l L) (e : ∀ v, v ∈ [500, 501] → mI μ' v = mI μ v) : EncC μ' l L :=
  ⟨by rw [e 501 (by decide)]; exact h.1, h.2.1, RowC_keep h.2.2 fun i _ _ => by rw [e 500 (by decide)]⟩
theorem C_lw.fr {S : St} {μ μ' : Mem} (h : C_lw S μ) (e : ∀ v, v ∈ [500, 501, 504] → mI μ' v = mI μ v) : C_lw S μ' :=
  ⟨by rw [e 504 (by decide)]; exact h.1, fun l hl => (h.2 l hl).fr fun v hv => e v (by revert hv; simp; omega)⟩
theorem C_tr.fr {S : St} {μ μ' : Mem} (h : C_tr S μ) (e : ∀ v, v ∈ [505, 506, 507] → mI μ' v = mI μ v) : C_tr S μ' := by
  unfold C_tr at *
  simp only [e 505 (by decide), e 506 (by decide), e 507 (by decide)]; exact h
theorem C_ho.fr {S : St} {μ μ' : Mem} (h : C_ho S μ) (e : ∀ v, v ∈ [903, 904, 905, 906, 907] → mI μ' v = mI μ v) : C_ho S μ' := by
  unfold C_ho at *
  simp only [e 903 (by decide), e 904 (by decide), e 905 (by decide), e 906 (by decide), e 907 (by decide)]; exact h
theorem C_bk.fr {S : St} {μ μ' : Mem} (h : C_bk S μ) (e : ∀ v, v ∈ [200, 201, 202, 206] → mI μ' v = mI μ v) : C_bk S μ' := by
  unfold C_bk at *
  simp only [e 200 (by decide), e 201 (by decide), e 202 (by decide), e 206 (by decide)]; exact h
theorem C_dy.fr {S : St} {μ μ' : Mem} (h : C_dy S μ) (e : ∀ v, v ∈ [103, 104, 105, 106] → mI μ' v = mI μ v) : C_dy S μ' := by
  unfold C_dy at *
  simp only [e 103 (by decide), e 104 (by decide), e 105 (by decide), e 106 (by decide)]; exact h
theorem Rows.fr {S : St} {p : Nat} {μ μ' : Mem} (h : Rows S p μ) (e : ∀ v, v ∈ [913, 914, 915, 916, 918] → mI μ' v = mI μ v) : Rows S p μ' := by
  unfold Rows at *
  simp only [e 913 (by decide), e 914 (by decide), e 915 (by decide), e 916 (by decide), e 918 (by decide)]; exact h
theorem Cnt.fr {S : St} {p : Nat} {μ μ' : Mem} (h : Cnt S p μ) (e : ∀ v, v ∈ [910, 911] → mI μ' v = mI μ v) : Cnt S p μ' := by
  unfold Cnt at *
  simp only [e 910 (by decide), e 911 (by decide)]; exact h
theorem C_ca.fr {S : St} {μ μ' : Mem} (h : C_ca S μ) (e : ∀ v, v ∈ [908, 909, 910, 911, 912, 913, 914, 915, 916, 918] → mI μ' v = mI μ v) : C_ca S μ' := by
  refine ⟨by rw [e 908 (by decide)]; exact h.1, by rw [e 909 (by decide)]; exact h.2.1, by rw [e 909 (by decide)]; exact h.2.2.1, by rw [e 912 (by decide)]; exact h.2.2.2.1, ?_, ?_⟩
  · rw [e 909 (by decide)]
    exact fun p hp hq => (h.2.2.2.2.1 p hp hq).fr fun v hv => e v (by revert hv; simp; omega)
  · rw [e 909 (by decide), e 912 (by decide)]
    exact fun p hp h1 h2 => (h.2.2.2.2.2 p hp h1 h2).fr fun v hv => e v (by revert hv; simp; omega)
theorem C_kn.fr {S : St} {μ μ' : Mem} (h : C_kn S μ) (e : ∀ v, v ∈ [301, 302, 303] → mI μ' v = mI μ v) : C_kn S μ' := by
  unfold C_kn at *
  simp only [e 301 (by decide), e 302 (by decide), e 303 (by decide)]; exact h
def CRv : List Nat := [1000, 1001, 800, 801, 802, 803, 804, 805, 806, 807, 808, 702, 703, 704, 705, 706, 707, 708, 709, 710, 711, 712, 500, 501, 504, 505, 506, 507, 903, 904, 905, 906, 907, 200, 201, 202, 206, 103, 104, 105, 106, 908, 909, 910, 911, 912, 913, 914, 915, 916, 918, 301, 302, 303]
theorem CR.keep {S : St} {μ μ' : Mem} (h : CR S μ) (e : ∀ v, v ∈ CRv → mI μ' v = mI μ v) : CR S μ' := by
  have g : ∀ (L : List Nat), (L.all fun v => CRv.contains v) = true → ∀ v, v ∈ L → mI μ' v = mI μ v := fun L hL v hv => e v (by
    have := List.all_eq_true.mp hL v hv
    exact List.contains_iff_mem.mp this)
  exact ⟨h.tp.fr (g _ (by decide)), h.th.fr (g _ (by decide)), h.pg.fr (g _ (by decide)), h.lw.fr (g _ (by decide)), h.tr.fr (g _ (by decide)), h.ho.fr (g _ (by decide)), h.bk.fr (g _ (by decide)), h.dy.fr (g _ (by decide)), h.ca.fr (g _ (by decide)), h.kn.fr (g _ (by decide))⟩
def nIn (W : List Nat) (L : List Nat) : Bool := L.all fun v => !W.contains v
theorem nIn_of {W L : List Nat} (h : nIn W L = true) {v : Nat} (hv : v ∈ L) : v ∉ W := fun q => by
  have := List.all_eq_true.mp h v hv
  rw [List.contains_iff_mem.mpr q] at this
  exact nomatch this
theorem CR.fr {S : St} {W : List Nat} {μ μ' : Mem} (h : CR S μ) (F : Fr W μ μ') (hW : nIn W CRv = true) : CR S μ' := h.keep fun v hv => F.i v (nIn_of hW hv)
theorem M_tp.fr {S : St} {μ μ' : Mem} (h : M_tp S μ) (e : ∀ v, v ∈ [1301, 1302] → mI μ' v = mI μ v) : M_tp S μ' := by
  unfold M_tp at *
  simp only [e 1301 (by decide), e 1302 (by decide)]; exact h
theorem M_th.fr {S : St} {μ μ' : Mem} (h : M_th S μ) (e : ∀ v, v ∈ [1306, 1307, 1308, 1309, 1310, 1311, 1312, 1313, 1314] → mI μ' v = mI μ v) : M_th S μ' := by
  unfold M_th at *
  simp only [e 1306 (by decide), e 1307 (by decide), e 1308 (by decide), e 1309 (by decide), e 1310 (by decide), e 1311 (by decide), e 1312 (by decide), e 1313 (by decide), e 1314 (by decide)]; exact h
theorem M_pg.fr {S : St} {μ μ' : Mem} (h : M_pg S μ) (e : ∀ v, v ∈ [1315, 1316, 1317, 1318, 1319, 1320, 1321, 1322] → mI μ' v = mI μ v) : M_pg S μ' := by
  unfold M_pg at *
  simp only [e 1315 (by decide), e 1316 (by decide), e 1317 (by decide), e 1318 (by decide), e 1319 (by decide), e 1320 (by decide), e 1321 (by decide), e 1322 (by decide)]; exact h
theorem M_lw.fr {S : St} {μ μ' : Mem} (h : M_lw S μ) (e : ∀ v, v ∈ [1323, 1324, 1326, 1327, 1328, 1329, 1330] → mI μ' v = mI μ v) : M_lw S μ' :=
  ⟨by rw [e 1330 (by decide)]; exact h.1, fun l hl => EncM_keep (h.2 l hl) fun v hv => e v (by revert hv; simp; omega)⟩
theorem M_tr.fr {S : St} {μ μ' : Mem} (h : M_tr S μ) (e : ∀ v, v ∈ [1345, 1346, 1347, 1348] → mI μ' v = mI μ v) : M_tr S μ' := by
  unfold M_tr at *
  simp only [e 1345 (by decide), e 1346 (by decide), e 1347 (by decide), e 1348 (by decide)]; exact h
theorem M_ho.fr {S : St} {μ μ' : Mem} (h : M_ho S μ) (e : ∀ v, v ∈ [1334, 1335, 1336, 1337, 1338, 1339] → mI μ' v = mI μ v) : M_ho S μ' := by
  unfold M_ho at *
  simp only [e 1334 (by decide), e 1335 (by decide), e 1336 (by decide), e 1337 (by decide), e 1338 (by decide), e 1339 (by decide)]; exact h
theorem M_bk.fr {S : St} {μ μ' : Mem} (h : M_bk S μ) (e : ∀ v, v ∈ [1349, 1350, 1351, 1354] → mI μ' v = mI μ v) : M_bk S μ' := by
  unfold M_bk at *
  simp only [e 1349 (by decide), e 1350 (by decide), e 1351 (by decide), e 1354 (by decide)]; exact h
theorem M_dy.fr {S : St} {μ μ' : Mem} (h : M_dy S μ) (e : ∀ v, v ∈ [1355, 1356, 1357, 1358] → mI μ' v = mI μ v) : M_dy S μ' := by
  unfold M_dy at *
  simp only [e 1355 (by decide), e 1356 (by decide), e 1357 (by decide), e 1358 (by decide)]; exact h
def MRv : List Nat := [1301, 1302, 1306, 1307, 1308, 1309, 1310, 1311, 1312, 1313, 1314, 1315, 1316, 1317, 1318, 1319, 1320, 1321, 1322, 1323, 1324, 1326, 1327, 1328, 1329, 1330, 1345, 1346, 1347, 1348, 1334, 1335, 1336, 1337, 1338, 1339, 1349, 1350, 1351, 1354, 1355, 1356, 1357, 1358]
theorem MR.keep {S : St} {μ μ' : Mem} (h : MR S μ) (e : ∀ v, v ∈ MRv → mI μ' v = mI μ v) : MR S μ' := by
  have g : ∀ (L : List Nat), (L.all fun v => MRv.contains v) = true → ∀ v, v ∈ L → mI μ' v = mI μ v := fun L hL v hv => e v (by
    have := List.all_eq_true.mp hL v hv
    exact List.contains_iff_mem.mp this)
  exact ⟨h.tp.fr (g _ (by decide)), h.th.fr (g _ (by decide)), h.pg.fr (g _ (by decide)), h.lw.fr (g _ (by decide)), h.tr.fr (g _ (by decide)), h.ho.fr (g _ (by decide)), h.bk.fr (g _ (by decide)), h.dy.fr (g _ (by decide))⟩
theorem MR.fr {S : St} {W : List Nat} {μ μ' : Mem} (h : MR S μ) (F : Fr W μ μ') (hW : nIn W MRv = true) : MR S μ' := h.keep fun v hv => F.i v (nIn_of hW hv)
