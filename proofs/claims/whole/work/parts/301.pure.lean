/-! THE TAPE -/
theorem FU_succ {n : Nat} (h : n < 1000000) : ∃ f, FU = f + 1 + n := ⟨FU - 1 - n, by unfold FU; omega⟩
def byt (a : Int32) (k : Nat) : Int32 := (a >>> (nI k &&& 31)) &&& nI 255
def by4 (a : Int32) : List Int32 := [byt a 24, byt a 16, byt a 8, byt a 0].filter (fun x => decide (x ≠ 0))
/-- one value more behind a row whose length is kept -/
def ap1 (v b : Nat) (μ : Mem) (x : Int32) : Mem := mSI (mSI μ b 0 (nv (mI μ v 0 0)) x) v 0 0 (nI (nv (mI μ v 0 0) + 1))
def apL (v b : Nat) (μ : Mem) (xs : List Int32) : Mem := xs.foldl (ap1 v b) μ
theorem ap1_len {v b : Nat} {μ : Mem} {x : Int32} {n : Nat} (hn : mI μ v 0 0 = nI n) (hn2 : n < 1000000) : mI (ap1 v b μ x) v 0 0 = nI (n + 1) := by
  unfold ap1
  rw [I_SI, if_pos ⟨rfl, rfl, rfl⟩, hn, nv_nI (by omega)]
theorem apL_len {v b : Nat} {xs : List Int32} : ∀ {μ : Mem} {n : Nat}, mI μ v 0 0 = nI n → n + xs.length < 1000000 → mI (apL v b μ xs) v 0 0 = nI (n + xs.length) := by
  induction xs with
  | nil => intro μ n h _; exact h
  | cons x t ih =>
    intro μ n h hl
    rw [List.length_cons] at hl ⊢
    rw [show n + (t.length + 1) = (n + 1) + t.length by omega]
    exact ih (μ := ap1 v b μ x) (ap1_len h (by omega)) (by omega)
theorem apL_old {v b : Nat} (hvb : v ≠ b) {xs : List Int32} : ∀ {μ : Mem} {n j : Nat}, mI μ v 0 0 = nI n → n + xs.length < 1000000 → j < n → mI (apL v b μ xs) b 0 j = mI μ b 0 j := by
  induction xs with
  | nil => intro μ n j _ _ _; rfl
  | cons x t ih =>
    intro μ n j h hl hj
    rw [List.length_cons] at hl
    have := ih (μ := ap1 v b μ x) (ap1_len h (by omega)) (by omega) (show j < n + 1 by omega)
    refine Eq.trans this ?_
    unfold ap1
    rw [h, nv_nI (by omega), I_SI, if_neg (fun q => hvb q.1.symm), I_SI, if_neg (fun q => by omega)]
theorem apL_new {v b : Nat} (hvb : v ≠ b) {xs : List Int32} : ∀ {μ : Mem} {n j : Nat} {x : Int32}, mI μ v 0 0 = nI n → n + xs.length < 1000000 → xs[j]? = some x → mI (apL v b μ xs) b 0 (n + j) = x := by
  induction xs with
  | nil => intro μ n j x _ _ h; simp at h
  | cons y t ih =>
    intro μ n j x h hl hj
    rw [List.length_cons] at hl
    cases j with
    | zero =>
      simp at hj
      subst hj
      refine Eq.trans (apL_old hvb (μ := ap1 v b μ y) (ap1_len h (by omega)) (by omega) (show n + 0 < n + 1 by omega)) ?_
      unfold ap1
      rw [h, nv_nI (by omega), I_SI, if_neg (fun q => hvb q.1.symm), I_SI, if_pos ⟨rfl, rfl, rfl⟩]
    | succ j =>
      rw [show n + (j + 1) = (n + 1) + j by omega]
      exact ih (μ := ap1 v b μ y) (ap1_len h (by omega)) (by omega) (by simpa using hj)
theorem apL_fr {v b : Nat} {xs : List Int32} : ∀ {μ : Mem}, Fr [v, b] μ (apL v b μ xs) := by
  induction xs with
  | nil => intro μ; exact Fr.refl
  | cons x t ih =>
    intro μ
    exact (fr_si (by simp) (fr_si (by simp) Fr.refl)).trans (ih (μ := ap1 v b μ x))
theorem apL_app {v b : Nat} {μ : Mem} {xs ys : List Int32} : apL v b (apL v b μ xs) ys = apL v b μ (xs ++ ys) := by
  unfold apL
  rw [List.foldl_append]
theorem m8 : nI 24 + -8 = nI 16 ∧ nI 16 + -8 = nI 8 ∧ nI 8 + -8 = nI 0 ∧ nI 0 + -8 = -8 := by decide
def c1 (x : Int32) : Nat := if x = 0 then 0 else 1
theorem c1_len {xs : List Int32} : (xs.filter (fun x => decide (x ≠ 0))).length = (xs.map c1).sum := by
  induction xs with
  | nil => rfl
  | cons x t ih =>
    rw [List.filter_cons, List.map_cons, List.sum_cons, ← ih]
    unfold c1
    by_cases h : x = 0
    · rw [if_neg (by simp [h]), if_pos h, Nat.zero_add]
    · rw [if_pos (by simp [h]), if_neg h, List.length_cons, Nat.add_comm]
theorem signs_step (a : Int32) {s f q : Nat} (hs : s < 32) : B_signsIn_l1 a (f + 1) (nI q) (nI s) = B_signsIn_l1 a f (nI (q + c1 (byt a s))) (nI s + -8) := by
  show B_signsIn_l1b a (B_signsIn_l1 a f) (nI q) (nI s) = _
  unfold B_signsIn_l1b
  rw [if_neg (nI_pos (by omega))]
  unfold c1 byt
  split <;> simp only [Option.bind_some, add_n] <;> rfl
theorem signs_eq (a : Int32) : B_signsIn a = some (nI (by4 a).length) := by
  unfold by4
  rw [c1_len]
  unfold B_signsIn
  rw [show FU = 999995 + 1 + 1 + 1 + 1 + 1 from rfl]
  rw [signs_step a (by decide), m8.1, signs_step a (by decide), m8.2.1, signs_step a (by decide), m8.2.2.1, signs_step a (by decide), m8.2.2.2]
  simp only [List.map_cons, List.map_nil, List.sum_cons, List.sum_nil]
  refine Eq.trans (b := some (nI (0 + c1 (byt a 24) + c1 (byt a 16) + c1 (byt a 8) + c1 (byt a 0)))) rfl ?_
  congr 2
  omega
theorem byt_lt (a : Int32) (k : Nat) : ∃ j : Nat, j < 256 ∧ byt a k = nI j := pk_andE _ 8 (by decide)
def sp1 (v b : Nat) (μ : Mem) (x : Int32) : Mem := if x = 0 then μ else ap1 v b μ x
theorem sp1_all {v b : Nat} {μ : Mem} {xs : List Int32} : xs.foldl (sp1 v b) μ = apL v b μ (xs.filter (fun x => decide (x ≠ 0))) := by
  unfold apL
  induction xs generalizing μ with
  | nil => rfl
  | cons x t ih =>
    by_cases h : x = 0
    · simp [sp1, h, ih]
    · simp [sp1, h, ih]
theorem sp1_len {v b : Nat} {μ : Mem} {x : Int32} {n : Nat} (hn : mI μ v 0 0 = nI n) (hn2 : n < 1000000) : mI (sp1 v b μ x) v 0 0 = nI (n + c1 x) := by
  unfold sp1 c1
  split
  · exact hn
  · exact ap1_len hn hn2
theorem putc_step (x : Int32) (μ : Mem) (q : Nat) (hq : mI μ 1001 0 0 = nI q) (hl : q + c1 x ≤ 120) : (if x = 0 then some μ else if mI μ 1001 0 0 < nI 120 then (mWr μ 1000 0 120 (mI μ 1001 0 0) x).bind fun μ2 => (some (mSI μ2 1001 0 0 (mI μ2 1001 0 0 + nI 1))).bind fun μ3 => some μ3 else some μ) = some (sp1 1001 1000 μ x) := by
  unfold sp1 c1 at *
  split
  · rfl
  · rename_i hx
    rw [if_neg hx] at hl
    rw [hq, if_pos ((lt_n (by omega) (by decide)).mpr (by omega)), wr_n (by omega) (by decide), Option.bind_some, Option.bind_some]
    unfold ap1
    rw [I_SI, if_neg (fun z => absurd z.1 (by decide)), hq, nv_nI (by omega), add_n]
theorem put_step (a : Int32) {μ : Mem} {q s f : Nat} (hs : s < 32) (hq : mI μ 1001 0 0 = nI q) (hl : q + c1 (byt a s) ≤ 120) : Tape_put_l1 a (f + 1) (nI s) μ = Tape_put_l1 a f (nI s + -8) (sp1 1001 1000 μ (byt a s)) := by
  show Tape_put_l1b a (Tape_put_l1 a f) (nI s) μ = _
  unfold Tape_put_l1b
  rw [if_neg (nI_pos (by omega)), Option.bind_some]
  have hp := putc_step (byt a s) μ q hq hl
  unfold byt at hp
  rw [hp, Option.bind_some, Option.bind_some]
  rfl
theorem put_eq (a : Int32) {μ : Mem} {n : Nat} (hn : mI μ 1001 0 0 = nI n) (h : n + (by4 a).length ≤ 120) : Tape_put a μ = some (apL 1001 1000 μ (by4 a)) := by
  unfold by4 at h ⊢
  rw [c1_len] at h
  rw [← sp1_all]
  simp only [List.map_cons, List.map_nil, List.sum_cons, List.sum_nil] at h
  have e1 := sp1_len (b := 1000) (x := byt a 24) hn (by omega)
  have e2 := sp1_len (b := 1000) (x := byt a 16) e1 (by omega)
  have e3 := sp1_len (b := 1000) (x := byt a 8) e2 (by omega)
  unfold Tape_put
  rw [show FU = 999995 + 1 + 1 + 1 + 1 + 1 from rfl]
  rw [put_step a (by decide) hn (by omega), m8.1, put_step a (by decide) e1 (by omega), m8.2.1, put_step a (by decide) e2 (by omega), m8.2.2.1, put_step a (by decide) e3 (by omega), m8.2.2.2]
  rfl
theorem apL_by {a : Int32} {μ : Mem} {n : Nat} (hn : mI μ 1001 0 0 = nI n) (h : n + (by4 a).length ≤ 120) : ∃ μ', Tape_put a μ = some μ' ∧ μ' = apL 1001 1000 μ (by4 a) ∧ mI μ' 1001 0 0 = nI (n + (by4 a).length) :=
  ⟨_, put_eq a hn h, rfl, apL_len hn (by omega)⟩
/-- all that is fed at once -/
def by20 (a b c d e : Int32) : List Int32 := by4 a ++ by4 b ++ by4 c ++ by4 d ++ by4 e
theorem feedB {a b c d e : Int32} {μ : Mem} {n : Nat} (hn : mI μ 1001 0 0 = nI n) (h120 : n ≤ 120) :
    B_feed a b c d e μ = if n + (by20 a b c d e).length ≤ 120 then some (nI (n + (by20 a b c d e).length), apL 1001 1000 μ (by20 a b c d e)) else some (-1, μ) := by
  have l4 : ∀ x, (by4 x).length ≤ 4 := fun x => List.length_filter_le _ _
  have la := l4 a; have lb := l4 b; have lc := l4 c; have ld := l4 d; have le := l4 e
  have hlen : (by20 a b c d e).length = (by4 a).length + (by4 b).length + (by4 c).length + (by4 d).length + (by4 e).length := by simp only [by20, List.length_append]
  unfold B_feed
  simp only [signs_eq, Option.bind_some, add_n, hn]
  by_cases hc : n + (by20 a b c d e).length ≤ 120
  · rw [if_pos hc, if_neg (fun q => by rw [lt_n (by decide) (by omega)] at q; omega)]
    have h1 := apL_len (b := 1000) (xs := by4 a) hn (by omega)
    have h2 := apL_len (b := 1000) (xs := by4 b) h1 (by omega)
    have h3 := apL_len (b := 1000) (xs := by4 c) h2 (by omega)
    have h4 := apL_len (b := 1000) (xs := by4 d) h3 (by omega)
    have h5 := apL_len (b := 1000) (xs := by4 e) h4 (by omega)
    simp only [put_eq a hn (by omega), put_eq b h1 (by omega), put_eq c h2 (by omega), put_eq d h3 (by omega), put_eq e h4 (by omega), Option.bind_some, h5]
    simp only [apL_app, by20, List.append_assoc]
    congr 3
    simp only [List.length_append]
    omega
  · rw [if_neg hc, if_pos (by rw [lt_n (by decide) (by omega)]; omega)]
def w20 (a b c d e : Int32) (k : Nat) : Int32 := if k < 4 then a else if k < 8 then b else if k < 12 then c else if k < 16 then d else e
def bo (a b c d e : Int32) (k : Nat) : Int32 := byt (w20 a b c d e k) (24 - 8 * (k % 4))
theorem byteOf_eq (a b c d e : Int32) {k : Nat} (hk : k < 20) : M_byteOf a b c d e (nI k) = some (bo a b c d e k) := by
  unfold M_byteOf bo w20
  have h1 : mRm (nI k) (nI 4) = some (nI (k % 4)) := rm_n (by omega) (by decide) (by decide)
  simp only [h1, Option.bind_some, lt_n (show k < 2147483648 by omega) (show (4 : Nat) < 2147483648 by decide), lt_n (show k < 2147483648 by omega) (show (8 : Nat) < 2147483648 by decide), lt_n (show k < 2147483648 by omega) (show (12 : Nat) < 2147483648 by decide), lt_n (show k < 2147483648 by omega) (show (16 : Nat) < 2147483648 by decide), mul_n, sub_n (show 8 * (k % 4) ≤ 24 by omega)]
  unfold byt
  split
  · rfl
  · split
    · rfl
    · split
      · rfl
      · split <;> rfl
theorem by20_eq (a b c d e : Int32) : by20 a b c d e = ((List.range 20).map (bo a b c d e)).filter (fun x => decide (x ≠ 0)) := by
  have : (List.range 20).map (bo a b c d e) = [byt a 24, byt a 16, byt a 8, byt a 0] ++ [byt b 24, byt b 16, byt b 8, byt b 0] ++ [byt c 24, byt c 16, byt c 8, byt c 0] ++ [byt d 24, byt d 16, byt d 8, byt d 0] ++ [byt e 24, byt e 16, byt e 8, byt e 0] := rfl
  rw [this]
  simp only [by20, by4, List.filter_append]
theorem fold_range {S T : Type} (g : Nat → T) (f : S → T → S) : ∀ (n : Nat) (s : S), (List.range' 0 n).foldl (fun a i => f a (g i)) s = ((List.range n).map g).foldl f s := by
  intro n s
  rw [List.foldl_map, List.range_eq_range']
theorem feedM1 (a b c d e : Int32) (μ : Mem) : M_feed_l1 a b c d e μ FU (nI 0) (nI 0) = some (nI (by20 a b c d e).length) := by
  obtain ⟨s', h1, h2, h3⟩ := up_loop (fun f k s => M_feed_l1 a b c d e μ f s k) 20 (fun k s => s + nI (c1 (bo a b c d e k))) (fun _ _ => True) some
    (fun f k s hk _ => ⟨by
      show M_feed_l1b a b c d e μ (M_feed_l1 a b c d e μ f) s (nI k) = _
      unfold M_feed_l1b
      rw [if_pos ((lt_n (by omega) (by decide)).mpr hk), byteOf_eq a b c d e hk, Option.bind_some]
      unfold c1
      split <;> simp only [Option.bind_some, add_n] <;> rfl, trivial⟩)
    (fun f s _ => by
      show M_feed_l1b a b c d e μ (M_feed_l1 a b c d e μ f) s (nI 20) = _
      unfold M_feed_l1b
      rw [if_neg (by decide)]) 20 0 (nI 0) FU rfl (by unfold FU; decide) trivial
  refine Eq.trans h2 ?_
  rw [h3, by20_eq, c1_len]
  refine congrArg some ?_
  rw [fold_range (bo a b c d e) (fun s x => s + nI (c1 x)) 20 (nI 0)]
  have : ∀ (xs : List Int32) (q : Nat), xs.foldl (fun s x => s + nI (c1 x)) (nI q) = nI (q + (xs.map c1).sum) := by
    intro xs
    induction xs with
    | nil => intro q; rfl
    | cons x t ih => intro q; simp only [List.foldl_cons, add_n, ih, List.map_cons, List.sum_cons, Nat.add_assoc]
  rw [this, Nat.zero_add]
theorem sum_le (g : Nat → Nat) {k : Nat} : ∀ {n : Nat}, k ≤ n → ((List.range k).map g).sum ≤ ((List.range n).map g).sum := by
  intro n
  induction n with
  | zero => intro h; rw [Nat.le_zero.mp h]; exact Nat.le_refl _
  | succ n ih =>
    intro h
    rcases Nat.lt_or_ge n k with h2 | h2
    · rw [show k = n + 1 by omega]; exact Nat.le_refl _
    · refine Nat.le_trans (ih h2) ?_
      rw [List.range_succ, List.map_append, List.sum_append]
      exact Nat.le_add_right _ _
theorem feedM2 (a b c d e : Int32) {μ : Mem} {n : Nat} (hn : mI μ 1302 0 0 = nI n) (h : n + (by20 a b c d e).length ≤ 120) : M_feed_l2 a b c d e FU (nI 0) μ = some (apL 1302 1301 μ (by20 a b c d e)) := by
  rw [by20_eq, c1_len] at h
  obtain ⟨s', h1, h2, h3⟩ := up_loop (fun f k s => M_feed_l2 a b c d e f k s) 20 (fun k s => sp1 1302 1301 s (bo a b c d e k)) (fun k s => mI s 1302 0 0 = nI (n + (((List.range k).map (bo a b c d e)).map c1).sum)) some
    (fun f k s hk hI => by
      have hs : (((List.range (k + 1)).map (bo a b c d e)).map c1).sum = (((List.range k).map (bo a b c d e)).map c1).sum + c1 (bo a b c d e k) := by
        rw [List.range_succ]
        simp
      have hle : (((List.range (k + 1)).map (bo a b c d e)).map c1).sum ≤ (((List.range 20).map (bo a b c d e)).map c1).sum := by
        rw [List.map_map, List.map_map]
        exact sum_le _ (by omega)
      refine ⟨?_, ?_⟩
      · show M_feed_l2b a b c d e (M_feed_l2 a b c d e f) (nI k) s = _
        unfold M_feed_l2b
        rw [if_pos ((lt_n (by omega) (by decide)).mpr hk), byteOf_eq a b c d e hk, Option.bind_some]
        have hstep : (if bo a b c d e k = 0 then some s else (mWr s 1301 0 120 (mI s 1302 0 0) (bo a b c d e k)).bind fun μ2 => (some (mSI μ2 1302 0 0 (mI μ2 1302 0 0 + nI 1))).bind fun μ3 => some μ3) = some (sp1 1302 1301 s (bo a b c d e k)) := by
          unfold sp1
          split
          · rfl
          · rename_i hx
            have : c1 (bo a b c d e k) = 1 := if_neg hx
            rw [hI, wr_n (by omega) (by decide), Option.bind_some, Option.bind_some]
            unfold ap1
            rw [I_SI, if_neg (fun z => absurd z.1 (by decide)), hI, nv_nI (by omega), add_n]
        rw [hstep, Option.bind_some, Option.bind_some, add_n]
      · rw [hs, ← Nat.add_assoc]
        exact sp1_len hI (by omega))
    (fun f s _ => by
      show M_feed_l2b a b c d e (M_feed_l2 a b c d e f) (nI 20) s = _
      unfold M_feed_l2b
      rw [if_neg (by decide)]) 20 0 μ FU rfl (by unfold FU; decide) (by simpa using hn)
  refine Eq.trans h2 ?_
  rw [h3, by20_eq, fold_range (bo a b c d e) (fun s x => sp1 1302 1301 s x) 20 μ, sp1_all]
theorem feedM {a b c d e : Int32} {μ : Mem} {n : Nat} (hn : mI μ 1302 0 0 = nI n) (h120 : n ≤ 120) :
    M_feed a b c d e μ = if n + (by20 a b c d e).length ≤ 120 then some (nI (n + (by20 a b c d e).length), apL 1302 1301 μ (by20 a b c d e)) else some (-1, μ) := by
  have l4 : ∀ x, (by4 x).length ≤ 4 := fun x => List.length_filter_le _ _
  have la := l4 a; have lb := l4 b; have lc := l4 c; have ld := l4 d; have le := l4 e
  have hlen : (by20 a b c d e).length = (by4 a).length + (by4 b).length + (by4 c).length + (by4 d).length + (by4 e).length := by simp only [by20, List.length_append]
  unfold M_feed
  rw [feedM1, Option.bind_some, hn, add_n]
  by_cases hc : n + (by20 a b c d e).length ≤ 120
  · rw [if_pos hc, if_neg (fun q => by rw [lt_n (by decide) (by omega)] at q; omega), feedM2 a b c d e hn hc, Option.bind_some, apL_len hn (by omega)]
  · rw [if_neg hc, if_pos (by rw [lt_n (by decide) (by omega)]; omega)]
