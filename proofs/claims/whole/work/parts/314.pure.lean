/-! PURE: swapped: numbers of mixed digits, and halving -/
def enc (w g : Nat → Nat) : Nat → Nat → Nat
  | _, 0 => 0
  | k, c + 1 => g k * pr w (k + 1) c + enc w g (k + 1) c
theorem enc_lt {w g : Nat → Nat} : ∀ {c k : Nat}, (∀ j, k ≤ j → j < k + c → g j < w j) → enc w g k c < pr w k c := by
  intro c
  induction c with
  | zero => intro k _; exact Nat.one_pos
  | succ c ih =>
    intro k h
    have h1 := ih (k := k + 1) fun j h1 h2 => h j (by omega) (by omega)
    have h2 := h k (Nat.le_refl _) (by omega)
    show g k * pr w (k + 1) c + enc w g (k + 1) c < w k * pr w (k + 1) c
    have h3 : (g k + 1) * pr w (k + 1) c ≤ w k * pr w (k + 1) c := Nat.mul_le_mul_right _ h2
    rw [Nat.succ_mul] at h3
    omega
theorem enc_congr {w g h : Nat → Nat} : ∀ {c k : Nat}, (∀ j, k ≤ j → j < k + c → g j = h j) → enc w g k c = enc w h k c := by
  intro c
  induction c with
  | zero => intro k _; rfl
  | succ c ih =>
    intro k hh
    show g k * _ + _ = h k * _ + _
    rw [hh k (Nat.le_refl _) (by omega), ih (k := k + 1) fun j h1 h2 => hh j (by omega) (by omega)]
theorem pr_split {w : Nat → Nat} {k c j : Nat} (h1 : k ≤ j) (h2 : j < k + c) : pr w k c = pr w k (j - k) * (w j * pr w (j + 1) (k + c - (j + 1))) := by
  have := pr_app w (j - k) (k + c - (j + 1) + 1) k
  rw [show j - k + (k + c - (j + 1) + 1) = c by omega, show k + (j - k) = j by omega] at this
  rw [this]; rfl
theorem enc_dig {w g : Nat → Nat} : ∀ {c k j : Nat}, (∀ j, k ≤ j → j < k + c → g j < w j) → k ≤ j → j < k + c → enc w g k c / pr w (j + 1) (k + c - (j + 1)) % w j = g j := by
  intro c
  induction c with
  | zero => intro k j _ h1 h2; omega
  | succ c ih =>
    intro k j h h1 h2
    have hpos : ∀ i, k ≤ i → i < k + (c + 1) → 0 < w i := fun i a b => Nat.lt_of_le_of_lt (Nat.zero_le _) (h i a b)
    have hE := enc_lt (w := w) (g := g) (c := c) (k := k + 1) fun j a b => h j (by omega) (by omega)
    show (g k * pr w (k + 1) c + enc w g (k + 1) c) / _ % _ = _
    by_cases e : j = k
    · subst e
      rw [show j + (c + 1) - (j + 1) = c by omega, Nat.mul_comm, Nat.mul_add_div (Nat.lt_of_le_of_lt (Nat.zero_le _) hE), Nat.div_eq_of_lt hE, Nat.add_zero, Nat.mod_eq_of_lt (h j (Nat.le_refl _) (by omega))]
    · have hP := pr_split (w := w) (k := k + 1) (c := c) (j := j) (by omega) (by omega)
      have ih' := ih (k := k + 1) (j := j) (fun j a b => h j (by omega) (by omega)) (by omega) (by omega)
      rw [show k + 1 + c - (j + 1) = k + (c + 1) - (j + 1) by omega] at hP ih'
      have hp0 : 0 < pr w (j + 1) (k + (c + 1) - (j + 1)) := pr_pos fun i a b => hpos i (by omega) (by omega)
      have hr : g k * pr w (k + 1) c = pr w (j + 1) (k + (c + 1) - (j + 1)) * (w j * (g k * pr w (k + 1) (j - (k + 1)))) := by
        rw [hP]
        generalize pr w (k + 1) (j - (k + 1)) = A
        generalize pr w (j + 1) (k + (c + 1) - (j + 1)) = B
        rw [Nat.mul_left_comm B, ← Nat.mul_assoc (g k), Nat.mul_left_comm (g k * A), Nat.mul_comm (g k * A)]
      rw [hr, Nat.mul_add_div hp0, Nat.mul_add_mod]
      exact ih'
theorem dig_enc {w : Nat → Nat} : ∀ {c k d : Nat}, (∀ j, k ≤ j → j < k + c → 0 < w j) → d < pr w k c → enc w (fun j => d / pr w (j + 1) (k + c - (j + 1)) % w j) k c = d := by
  intro c
  induction c with
  | zero => intro k d _ h; have : d < 1 := h; show 0 = d; omega
  | succ c ih =>
    intro k d hpos hd
    have hp0 : 0 < pr w (k + 1) c := pr_pos fun i a b => hpos i (by omega) (by omega)
    have hd' : d < w k * pr w (k + 1) c := hd
    have h1 : d / pr w (k + 1) c < w k := Nat.div_lt_of_lt_mul (by rw [Nat.mul_comm]; exact hd')
    have h2 : d % pr w (k + 1) c < pr w (k + 1) c := Nat.mod_lt _ hp0
    have ih' := ih (k := k + 1) (d := d % pr w (k + 1) c) (fun j a b => hpos j (by omega) (by omega)) h2
    show d / pr w (k + 1) (k + (c + 1) - (k + 1)) % w k * pr w (k + 1) c + enc w (fun j => d / pr w (j + 1) (k + (c + 1) - (j + 1)) % w j) (k + 1) c = d
    have he : enc w (fun j => d / pr w (j + 1) (k + (c + 1) - (j + 1)) % w j) (k + 1) c = d % pr w (k + 1) c := by
      refine Eq.trans (enc_congr fun j a b => ?_) ih'
      have hP := pr_split (w := w) (k := k + 1) (c := c) (j := j) (by omega) (by omega)
      rw [show k + (c + 1) - (j + 1) = k + 1 + c - (j + 1) by omega]
      have hq0 : 0 < pr w (j + 1) (k + 1 + c - (j + 1)) := pr_pos fun i a' b' => hpos i (by omega) (by omega)
      have hdm := Nat.div_add_mod d (pr w (k + 1) c)
      have hr : pr w (k + 1) c * (d / pr w (k + 1) c) = pr w (j + 1) (k + 1 + c - (j + 1)) * (w j * (pr w (k + 1) (j - (k + 1)) * (d / pr w (k + 1) c))) := by
        generalize d / pr w (k + 1) c = D
        rw [hP]
        generalize pr w (k + 1) (j - (k + 1)) = A
        generalize pr w (j + 1) (k + 1 + c - (j + 1)) = B
        rw [Nat.mul_comm (w j) B, Nat.mul_left_comm A B, Nat.mul_assoc B, Nat.mul_assoc, Nat.mul_left_comm A (w j) D]
      have : d / pr w (j + 1) (k + 1 + c - (j + 1)) % w j = (d % pr w (k + 1) c) / pr w (j + 1) (k + 1 + c - (j + 1)) % w j := by
        conv => lhs; rw [← hdm, hr, Nat.mul_add_div hq0, Nat.mul_add_mod]
      exact this
    rw [he, show k + (c + 1) - (k + 1) = c by omega, Nat.mod_eq_of_lt h1, Nat.mul_comm]
    exact Nat.div_add_mod d _
def updN (g : Nat → Nat) (h x : Nat) : Nat → Nat := fun j => if j = h then x else g j
theorem enc_set {w g : Nat → Nat} {h x : Nat} : ∀ {c k : Nat}, k ≤ h → h < k + c → enc w (updN g h x) k c + g h * pr w (h + 1) (k + c - (h + 1)) = enc w g k c + x * pr w (h + 1) (k + c - (h + 1)) := by
  intro c
  induction c with
  | zero => intro k h1 h2; omega
  | succ c ih =>
    intro k h1 h2
    show updN g h x k * pr w (k + 1) c + enc w (updN g h x) (k + 1) c + _ = g k * pr w (k + 1) c + enc w g (k + 1) c + _
    by_cases e : h = k
    · subst e
      have he : enc w (updN g h x) (h + 1) c = enc w g (h + 1) c := enc_congr fun j a b => if_neg (by omega)
      rw [he, show h + (c + 1) - (h + 1) = c by omega, show updN g h x h = x from if_pos rfl]
      omega
    · have := ih (k := k + 1) (by omega) (by omega)
      rw [show k + 1 + c - (h + 1) = k + (c + 1) - (h + 1) by omega] at this
      rw [show updN g h x k = g k from if_neg (fun q => e q.symm)]
      omega
/-- parts at two places changed about -/
def swF (S : St) (p d h t k : Nat) : Nat := if k = h then prtP S p d t else if k = t then prtP S p d h else prtP S p d k
def fitP (S : St) (p d h t : Nat) : Prop := (loP S p h ≤ prtP S p d t ∧ prtP S p d t < loP S p h + wdP S p h) ∧ loP S p t ≤ prtP S p d h ∧ prtP S p d h < loP S p t + wdP S p t
theorem swap_num {S : St} {p d h t : Nat} (W : WF S) (hp : p < nPg S) (hd : d < totP S p) (hh : h < mT S p) (ht : t < mT S p) (hn : h ≠ t) (hf : fitP S p d h t) :
    ∃ d', d' < totP S p ∧ (∀ k, k < mT S p → prtP S p d' k = swF S p d h t k) ∧ d' + prtP S p d t * strP S p t + prtP S p d h * strP S p h = d + prtP S p d t * strP S p h + prtP S p d h * strP S p t := by
  obtain ⟨⟨f1, f2⟩, f3, f4⟩ := hf
  have hw : ∀ j, 0 ≤ j → j < 0 + mT S p → 0 < wdP S p j := fun j _ h2 => (wd_pos W hp (by omega)).1
  let g : Nat → Nat := fun j => d / strP S p j % wdP S p j
  have hgl : ∀ j, j < mT S p → g j < wdP S p j := fun j hj => Nat.mod_lt _ (wd_pos W hp hj).1
  have hg : enc (wdP S p) g 0 (mT S p) = d := by
    refine Eq.trans (enc_congr fun j a b => ?_) (dig_enc (w := wdP S p) (c := mT S p) (k := 0) (d := d) hw hd)
    rw [Nat.zero_add]; rfl
  have hpr : ∀ k, prtP S p d k = loP S p k + g k := fun k => rfl
  let g' := updN (updN g h (prtP S p d t - loP S p h)) t (prtP S p d h - loP S p t)
  have hg'l : ∀ j, 0 ≤ j → j < 0 + mT S p → g' j < wdP S p j := by
    intro j _ hj
    show (if j = t then _ else if j = h then _ else g j) < _
    split
    · rename_i e; subst e; omega
    · split
      · rename_i e; subst e; omega
      · exact hgl j (by omega)
  have hs : ∀ j, strP S p j = pr (wdP S p) (j + 1) (0 + mT S p - (j + 1)) := fun j => by rw [Nat.zero_add]; rfl
  refine ⟨enc (wdP S p) g' 0 (mT S p), enc_lt hg'l, fun k hk => ?_, ?_⟩
  · have h1 := enc_dig (w := wdP S p) (g := g') (c := mT S p) (k := 0) (j := k) hg'l (Nat.zero_le _) (by omega)
    unfold prtP
    rw [hs k, h1]
    show loP S p k + (if k = t then _ else if k = h then _ else g k) = (if k = h then _ else if k = t then _ else _)
    by_cases e : k = h
    · rw [if_neg (by omega), if_pos e, if_pos e, e]; omega
    · rw [if_neg e]
      by_cases e2 : k = t
      · rw [if_pos e2, if_pos e2, if_neg e, e2]; omega
      · rw [if_neg e2, if_neg e2, if_neg e, hpr]
  · have h1 := enc_set (w := wdP S p) (g := g) (h := h) (x := prtP S p d t - loP S p h) (c := mT S p) (k := 0) (Nat.zero_le _) (by omega)
    have h2 := enc_set (w := wdP S p) (g := updN g h (prtP S p d t - loP S p h)) (h := t) (x := prtP S p d h - loP S p t) (c := mT S p) (k := 0) (Nat.zero_le _) (by omega)
    rw [← hs, hg] at h1
    rw [← hs, show updN g h (prtP S p d t - loP S p h) t = g t from if_neg (fun q => hn q.symm)] at h2
    have e1 := hpr h
    have e2 := hpr t
    obtain ⟨x, hx⟩ : ∃ x, x = prtP S p d t - loP S p h := ⟨_, rfl⟩
    obtain ⟨y, hy⟩ : ∃ y, y = prtP S p d h - loP S p t := ⟨_, rfl⟩
    have e3 : prtP S p d t = x + loP S p h := by omega
    have e4 : prtP S p d h = y + loP S p t := by omega
    have m1 : prtP S p d t * strP S p t = loP S p t * strP S p t + g t * strP S p t := by rw [e2, Nat.add_mul]
    have m2 : prtP S p d h * strP S p h = loP S p h * strP S p h + g h * strP S p h := by rw [e1, Nat.add_mul]
    have m3 : prtP S p d t * strP S p h = x * strP S p h + loP S p h * strP S p h := by rw [e3, Nat.add_mul]
    have m4 : prtP S p d h * strP S p t = y * strP S p t + loP S p t * strP S p t := by rw [e4, Nat.add_mul]
    rw [← hx] at h1 h2
    rw [← hy] at h2
    rw [m1, m2, m3, m4]
    show enc (wdP S p) (updN (updN g h (prtP S p d t - loP S p h)) t (prtP S p d h - loP S p t)) 0 (mT S p) + _ + _ = _
    rw [← hx, ← hy]
    omega
theorem ltF_congr {S : St} {p : Nat} {f g : Nat → Nat} (h : ∀ k, k < mT S p → f k = g k) : ltF S p f = ltF S p g := by
  have hs : ∀ (u v : Nat → Nat) (m : Nat), (∀ k, k < m → u k = v k) → sumK u m = sumK v m := by
    intro u v m
    induction m with
    | zero => intro _; rfl
    | succ m ih => intro hh; show sumK u m + u m = sumK v m + v m; rw [ih fun k hk => hh k (by omega), hh m (by omega)]
  funext i
  unfold ltF
  rw [hs (fun k => f k * sN S 800 0 (sN S 703 p k)) (fun k => g k * sN S 800 0 (sN S 703 p k)) (mT S p) (fun k hk => by rw [h k hk]), hs (fun k => f k * sN S 801 0 (sN S 703 p k)) (fun k => g k * sN S 801 0 (sN S 703 p k)) (mT S p) (fun k hk => by rw [h k hk]), hs (fun k => f k * sN S 802 0 (sN S 703 p k)) (fun k => g k * sN S 802 0 (sN S 703 p k)) (mT S p) (fun k hk => by rw [h k hk]), hs f g (mT S p) h]
theorem keptB_congr {S : St} {p : Nat} {f g : Nat → Nat} (h : ∀ k, k < mT S p → f k = g k) : keptB S p f = keptB S p g := by
  have e : wthF S p f = wthF S p g := by
    funext l
    unfold wthF
    rw [ltF_congr h]
  unfold keptB
  rw [e]
theorem dl_mem {S : St} {p d : Nat} : d ∈ dl S p ↔ d < totP S p ∧ keptB S p (prtP S p d) = true := by
  unfold dl
  rw [List.mem_filter, List.mem_range]
theorem dl_up {S : St} {p i j : Nat} (h : i < j) (hj : j < (dl S p).length) : dx S p i < dx S p j := by
  have h1 : (dl S p).Pairwise (· < ·) := List.Pairwise.filter _ List.pairwise_lt_range
  have h2 := List.pairwise_iff_getElem.mp h1 i j (by omega) hj h
  have e1 := dx_at (S := S) (p := p) (i := i) (by omega)
  have e2 := dx_at (S := S) (p := p) (i := j) hj
  rw [List.getElem?_eq_getElem (by omega)] at e1
  rw [List.getElem?_eq_getElem hj] at e2
  rw [Option.some.inj e1, Option.some.inj e2] at h2
  exact h2
theorem halve {S : St} {p x : Nat} {μ : Mem} (W : WF S) (hO : On S p μ) (ht : told S p) (hx : x < 1000000) : Pot_isKept (nI x) μ = some (if x ∈ dl S p then nI 1 else nI 0) := by
  have h16 := W.pg.1
  have hp := hO.2.1
  have h5 := dl_le ht
  have h913 := ((hO.rows).1 ht).1
  obtain ⟨r, e, a, ha, hra, k1, k2⟩ : ∃ r, Pot_isKept_l1 (nI x) μ FU (nI 0) (nI (dl S p).length) (nI 0) = some r ∧ ∃ a, a ≤ (dl S p).length ∧ r = nI a ∧ (∀ j, j < a → dx S p j < x) ∧ ∀ j, a ≤ j → j < (dl S p).length → x ≤ dx S p j := by
    refine loopE (fun f v (s : Int32 × Int32) => Pot_isKept_l1 (nI x) μ f s.1 s.2 v) 16 (fun c s => ∃ a b, a ≤ b ∧ b ≤ (dl S p).length ∧ s = (nI a, nI b) ∧ b - a < 2 ^ (16 - c) ∧ (∀ j, j < a → dx S p j < x) ∧ ∀ j, b ≤ j → j < (dl S p).length → x ≤ dx S p j) (fun r => ∃ a, a ≤ (dl S p).length ∧ r = nI a ∧ (∀ j, j < a → dx S p j < x) ∧ ∀ j, a ≤ j → j < (dl S p).length → x ≤ dx S p j) ?_ ?_ 16 0 (nI 0, nI (dl S p).length) FU rfl (FU_lt (by decide)) ⟨0, _, Nat.zero_le _, Nat.le_refl _, rfl, by omega, fun j h => absurd h (by omega), fun j h1 h2 => absurd h1 (by omega)⟩
    · rintro f c s hc ⟨a, b, hab, hb, rfl, hsz, i1, i2⟩
      show (∃ s', Pot_isKept_l1b (nI x) μ (Pot_isKept_l1 (nI x) μ f) (nI a) (nI b) (nI c) = _ ∧ _) ∨ (∃ r, Pot_isKept_l1b (nI x) μ (Pot_isKept_l1 (nI x) μ f) (nI a) (nI b) (nI c) = _ ∧ _)
      unfold Pot_isKept_l1b
      rw [if_pos ((lt_n (by omega) (by decide)).mpr hc)]
      by_cases q : a < b
      · left
        have hpw : 2 ^ (16 - c) = 2 * 2 ^ (16 - (c + 1)) := by rw [show 16 - c = (16 - (c + 1)) + 1 by omega, Nat.pow_succ, Nat.mul_comm]
        have hmid : (a + b) / 2 < (dl S p).length := by omega
        have hdx := (dl_lt (dx_at hmid)).1
        have ht' := ht
        unfold told at ht'
        rw [if_pos ((lt_n (by omega) (by omega)).mpr q), add_n, dv_n (by omega) (by decide) (by decide), bS, rd_n (by omega) (by decide), h913 _ _ (dx_at hmid), bS]
        by_cases q2 : dx S p ((a + b) / 2) < x
        · rw [if_pos ((lt_n (by omega) (by omega)).mpr q2), add_n, bS, bS]
          simp only []
          rw [bS, add_n]
          refine ⟨(nI ((a + b) / 2 + 1), nI b), rfl, _, _, by omega, hb, rfl, by omega, fun j hj => ?_, i2⟩
          by_cases e : j = (a + b) / 2
          · rw [e]; exact q2
          · exact Nat.lt_trans (dl_up (by omega) hmid) q2
        · rw [if_neg (fun z => q2 ((lt_n (by omega) (by omega)).mp z)), bS]
          simp only []
          rw [bS, add_n]
          refine ⟨(nI a, nI ((a + b) / 2)), rfl, _, _, by omega, by omega, rfl, by omega, i1, fun j h1 h2 => ?_⟩
          by_cases e : j = (a + b) / 2
          · rw [e]; omega
          · have := dl_up (S := S) (p := p) (i := (a + b) / 2) (j := j) (by omega) h2
            omega
      · right
        rw [if_neg (fun z => q ((lt_n (by omega) (by omega)).mp z))]
        have : a = b := by omega
        subst this
        exact ⟨_, rfl, a, hb, rfl, i1, i2⟩
    · rintro f s ⟨a, b, hab, hb, rfl, hsz, i1, i2⟩
      have : a = b := by
        have : 2 ^ (16 - 16) = 1 := rfl
        omega
      subst this
      refine ⟨nI a, ?_, a, hb, rfl, i1, i2⟩
      show Pot_isKept_l1b (nI x) μ (Pot_isKept_l1 (nI x) μ f) (nI a) (nI a) (nI 16) = _
      unfold Pot_isKept_l1b
      rw [if_neg (by decide)]
  subst hra
  have e910 : mRd μ 910 0 16 (nI p) = some (nI (dl S p).length) := by rw [rd_n (by omega) (by decide), hO.cnt.1, cnt_told ht]
  unfold Pot_isKept
  rw [hO.2.2.1, e910, bS, e, bS, bS]
  by_cases q : a < (dl S p).length
  · have hdx := (dl_lt (dx_at q)).1
    have ht' := ht
    unfold told at ht'
    rw [if_pos ((lt_n (by omega) (by omega)).mpr q), rd_n (by omega) (by decide), h913 _ _ (dx_at q), bS]
    by_cases q2 : dx S p a = x
    · rw [if_pos ((eq_n (by omega) (by omega)).mpr q2), if_pos (by rw [← q2]; exact List.mem_of_getElem? (dx_at q))]; rfl
    · rw [if_neg (fun z => q2 ((eq_n (by omega) (by omega)).mp z)), if_neg]
      · rfl
      · intro hm
        obtain ⟨j, hj⟩ := List.getElem?_of_mem hm
        have hj2 := (dl_lt hj).2
        have hj3 := dx_of hj
        rcases Nat.lt_trichotomy j a with h | h | h
        · have := k1 j h; omega
        · subst h; exact q2 hj3
        · have := dl_up (S := S) (p := p) h hj2
          have := k2 a (Nat.le_refl _) q
          omega
  · rw [if_neg (fun z => q ((lt_n (by omega) (by omega)).mp z)), if_neg]
    · rfl
    · intro hm
      obtain ⟨j, hj⟩ := List.getElem?_of_mem hm
      have hj2 := (dl_lt hj).2
      have hj3 := dx_of hj
      have := k1 j (by omega)
      omega
def tnN (S : St) (p d h t : Nat) : Nat := if (loP S p h ≤ prtP S p d t ∧ prtP S p d t < loP S p h + wdP S p h) ∧ (loP S p t ≤ prtP S p d h ∧ prtP S p d h < loP S p t + wdP S p t) ∧ keptB S p (swF S p d h t) = true then 1 else 0
theorem swap_int {d d' A B H T : Nat} (h : d' + B * T + A * H = d + B * H + A * T) : nI d + (nI B - nI A) * nI H - (nI B - nI A) * nI T = nI d' := by
  have h1 : nI d' + nI B * nI T + nI A * nI H = nI d + nI B * nI H + nI A * nI T := by
    rw [mul_n, mul_n, mul_n, mul_n, add_n, add_n, add_n, add_n, h]
  grind
theorem within_n {v l w : Nat} (hv : v < 1000000) (hl : l < 1000000) (hw : 0 < w) (hw2 : w < 1000000) : M_in (nI v) (nI l) (nI l + nI w - nI 1) = some (if l ≤ v ∧ v < l + w then nI 1 else nI 0) := by
  rw [add_n, sub_n (by omega)]
  by_cases h : l ≤ v ∧ v < l + w
  · rw [if_pos h, in_pos (fun q => absurd ((lt_n (by omega) (by omega)).mp q) (by omega)) (fun q => absurd ((lt_n (by omega) (by omega)).mp q) (by omega))]
  · rw [if_neg h, in_neg]
    by_cases h1 : v < l
    · exact Or.inl ((lt_n (by omega) (by omega)).mpr h1)
    · exact Or.inr ((lt_n (by omega) (by omega)).mpr (by omega))
theorem turns_C {S : St} {p i h t : Nat} {μ : Mem} (W : WF S) (hO : On S p μ) (htd : told S p) (hi : i < (dl S p).length) (hh : h < mT S p) (ht : t < mT S p) (hn : h ≠ t) :
    Pot_turns (nI i) (nI h) (nI t) μ = some (nI (tnN S p (dx S p i) h t)) := by
  have hp := hO.2.1
  have hm8 := (W.pg.2.1 p hp).1.2
  have h5 := dl_le htd
  have hr := ((hO.rows).1 htd)
  have bA := prt_bd W (dx S p i) hp hh
  have bB := prt_bd W (dx S p i) hp ht
  have wh := wd_pos W hp hh
  have wt := wd_pos W hp ht
  have hd := (dl_lt (dx_at hi)).1
  unfold Pot_turns
  rw [partsAt_eq W hO htd (dx_at hi) hh, bS, partsAt_eq W hO htd (dx_at hi) ht, bS, bS, rd_n (by omega) (by decide), (hr.2 h hh).1, bS, bS, rd_n (by omega) (by decide), (hr.2 h hh).2.1, bS, within_in, within_n (by omega) (by omega) wh.1 (by omega), bS]
  unfold tnN
  by_cases q1 : loP S p h ≤ prtP S p (dx S p i) t ∧ prtP S p (dx S p i) t < loP S p h + wdP S p h
  · rw [if_pos q1, if_neg (show ¬ nI 1 = 0 by decide), rd_n (by omega) (by decide), (hr.2 t ht).1, bS, bS, rd_n (by omega) (by decide), (hr.2 t ht).2.1, bS, within_n (by omega) (by omega) wt.1 (by omega), bS]
    by_cases q2 : loP S p t ≤ prtP S p (dx S p i) h ∧ prtP S p (dx S p i) h < loP S p t + wdP S p t
    · obtain ⟨d', d1, d2, d3⟩ := swap_num W hp hd hh ht hn ⟨q1, q2⟩
      have htd' := htd
      unfold told at htd'
      rw [if_pos q2, if_neg (show ¬ nI 1 = 0 by decide), bS, if_neg (show ¬ nI 1 = 0 by decide), rd_n (by omega) (by decide), hr.1 _ _ (dx_at hi), bS, rd_n (by omega) (by decide), (hr.2 h hh).2.2, bS, rd_n (by omega) (by decide), (hr.2 t ht).2.2, bS, swap_int d3, halve W hO htd (by omega), bS]
      have hm : d' ∈ dl S p ↔ keptB S p (swF S p (dx S p i) h t) = true := by
        rw [dl_mem, keptB_congr d2]
        exact ⟨fun z => z.2, fun z => ⟨d1, z⟩⟩
      by_cases q3 : keptB S p (swF S p (dx S p i) h t) = true
      · rw [if_pos (hm.mpr q3), if_neg (show ¬ nI 1 = 0 by decide), rz_1, if_pos ⟨q1, q2, q3⟩]
      · rw [if_neg (fun z => q3 (hm.mp z)), if_pos (show nI 0 = 0 from rfl), rz_0, if_neg (fun z => q3 z.2.2)]
    · rw [if_neg q2, if_pos (show nI 0 = 0 from rfl), bS, if_pos (show nI 0 = 0 from rfl), rz_0, if_neg (fun z => q2 z.2.1)]
  · rw [if_neg q1, if_pos (show nI 0 = 0 from rfl), bS, if_pos (show nI 0 = 0 from rfl), rz_0, if_neg (fun z => q1 z.1)]
theorem iswith_M {S : St} {p k v : Nat} {ν : Mem} (W : WF S) (R : M_pg S ν ∧ M_ho S ν) (hp : p < nPg S) (hk : k < mT S p) (hv : v ≤ 99) (h : mI ν 1340 0 k = nI v) : M_isWithin (nI p) (nI k) ν = some (if loP S p k ≤ v ∧ v < loP S p k + wdP S p k then nI 1 else nI 0) := by
  have hm8 := (W.pg.2.1 p hp).1.2
  have wh := wd_pos W hp hk
  unfold M_isWithin
  rw [rd_n (by omega) (by decide), h, bS, mul_n, add_n, low_M W R hp hk, bS, bS, rng_M W R hp hk, bS, within_n (by omega) (by omega) wh.1 (by omega), bS]
  split <;> rfl
theorem q_swapped (x y z : Int32) : Cmd (B_swapped x y z) (M_swapped x y z) := by
  intro S μ ν W C R
  unfold B_swapped M_swapped
  by_cases hyz : y = z
  · rw [if_pos hyz, if_pos hyz]; exact ⟨_, _, _, rfl, rfl, C, R⟩
  · rw [if_neg hyz, if_neg hyz]
    have hM : (outN x (nPg S) ∨ (∃ p, p < nPg S ∧ x = nI p ∧ ((∀ k, k < mT S p → ¬ y = nI (sN S 703 p k)) ∨ ∀ k, k < mT S p → ¬ z = nI (sN S 703 p k)))) → ∃ ν', ((M_isThing y ν).bind fun x1 => if x1 = 0 then some (-1, ν) else (M_isThing z ν).bind fun x2 => if x2 = 0 then some (-1, ν) else (M_isTold x ν).bind fun (x3, μ4) => if x3 = 0 then some (-1, μ4) else (M_onPage x y μ4).bind fun x5 => if x5 = -1 then some (-1, μ4) else (M_onPage x z μ4).bind fun x6 => if x6 = -1 then some (-1, μ4) else (M_onPage x y μ4).bind fun x7 => (M_onPage x z μ4).bind fun x8 => (M_swapped_l1 x x7 x8 FU (nI 0) (nI 0) μ4).bind fun (x9, μ10) => some (x9, μ10)) = some ((-1 : Int32), ν') ∧ MR S ν' := by
      intro hx
      rcases th_arg W y with hy | ⟨t1, hy, rfl⟩
      · rw [isT0 W R hy, bS, if_pos (by decide)]; exact ⟨ν, rfl, R⟩
      · rw [isT1 W R hy, bS, if_neg (by decide)]
        rcases th_arg W z with hz | ⟨t2, hz, rfl⟩
        · rw [isT0 W R hz, bS, if_pos (by decide)]; exact ⟨ν, rfl, R⟩
        · rw [isT1 W R hz, bS, if_neg (by decide)]
          rcases hx with hx | ⟨p, hp, rfl, hx⟩
          · rw [told_out W R hx, bS]; simp only []; rw [if_pos (by decide)]; exact ⟨ν, rfl, R⟩
          · by_cases ht : told S p
            · obtain ⟨ν1, b1, b2, b3, -⟩ := told_yes W R hp ht
              rw [b1, bS]; simp only []; rw [if_neg (by decide)]
              obtain ⟨o, o1, o2⟩ := place_M W b2.pg hp (nI t1)
              obtain ⟨o', o3, o4⟩ := place_M W b2.pg hp (nI t2)
              rw [o1, bS]
              rcases hx with hx | hx
              · rw [plc_one W hp o2 (Or.inl ⟨rfl, hx⟩), if_pos rfl]; exact ⟨ν1, rfl, b2⟩
              · by_cases q : o = -1
                · rw [if_pos q]; exact ⟨ν1, rfl, b2⟩
                · rw [if_neg q, o3, bS, plc_one W hp o4 (Or.inl ⟨rfl, hx⟩), if_pos rfl]; exact ⟨ν1, rfl, b2⟩
            · obtain ⟨ν1, b1, b2⟩ := told_not W R hp ht
              rw [b1, bS]; simp only []; rw [if_pos (by decide)]; exact ⟨ν1, rfl, b2⟩
    rcases pg_arg W x with hx | ⟨p, hp, rfl⟩
    · obtain ⟨ν', h1, h2⟩ := hM (Or.inl hx)
      rw [hasP0 C hx, bS, if_pos (by decide)]
      exact ⟨_, _, ν', rfl, h1, C, h2⟩
    · rw [hasP1 W C hp, bS, if_neg (by decide)]
      obtain ⟨o, o1, o3⟩ := place_C W C.pg hp y
      obtain ⟨o', o2, o4⟩ := place_C W C.pg hp z
      rw [o1, bS, o2, bS]
      have hm8 := (W.pg.2.1 p hp).1.2
      rcases o3 with ⟨rfl, ho⟩ | ⟨h, hh, rfl, rfl⟩
      · obtain ⟨ν', h1, h2⟩ := hM (Or.inr ⟨p, hp, rfl, Or.inl ho⟩)
        rw [if_pos rfl]
        exact ⟨_, _, ν', rfl, h1, C, h2⟩
      · rw [if_neg (fun q => (m1_n (by omega)).mp q)]
        rcases o4 with ⟨rfl, ho⟩ | ⟨t, ht, rfl, rfl⟩
        · obtain ⟨ν', h1, h2⟩ := hM (Or.inr ⟨p, hp, rfl, Or.inr ho⟩)
          rw [if_pos rfl]
          exact ⟨_, _, ν', rfl, h1, C, h2⟩
        · rw [if_neg (fun q => (m1_n (by omega)).mp q)]
          have hn : h ≠ t := fun q => hyz (by rw [q])
          have t1 := ((W.pg.2.1 p hp).2.1 h hh).1
          have t2 := ((W.pg.2.1 p hp).2.1 t ht).1
          have hp1 : plcR S p (nI (sN S 703 p h)) (nI h) := Or.inr ⟨h, hh, rfl, rfl⟩
          have hp2 : plcR S p (nI (sN S 703 p t)) (nI t) := Or.inr ⟨t, ht, rfl, rfl⟩
          rw [isT1 W R t1, bS, if_neg (by decide), isT1 W R t2, bS, if_neg (by decide)]
          refine q_all (fC := fun μ5 => (Taster_turnedAbout (nI h) (nI t) μ5).bind fun x6 => some (x6, μ5)) (fM := fun μ4 => (M_onPage (nI p) (nI (sN S 703 p h)) μ4).bind fun x5 => if x5 = -1 then some (-1, μ4) else (M_onPage (nI p) (nI (sN S 703 p t)) μ4).bind fun x6 => if x6 = -1 then some (-1, μ4) else (M_onPage (nI p) (nI (sN S 703 p h)) μ4).bind fun x7 => (M_onPage (nI p) (nI (sN S 703 p t)) μ4).bind fun x8 => (M_swapped_l1 (nI p) x7 x8 FU (nI 0) (nI 0) μ4).bind fun (x9, μ10) => some (x9, μ10)) W C R ?_
          rintro p' μ ν hp' hpp htd hO hR hF
          have : p' = p := ((eq_n (by have := W.pg.1; omega) (by have := W.pg.1; omega)).mp hpp).symm
          subst this
          have h5 := dl_le htd
          obtain ⟨o, e1, e2⟩ := place_M W hR.pg hp (nI (sN S 703 p' h))
          rw [plc_one W hp e2 hp1] at e1
          obtain ⟨o, e3, e4⟩ := place_M W hR.pg hp (nI (sN S 703 p' t))
          rw [plc_one W hp e4 hp2] at e3
          let g : Nat → Int32 → Int32 := fun i a => a + nI (tnN S p' (dx S p' i) h t)
          have htn : ∀ d, tnN S p' d h t = 0 ∨ tnN S p' d h t = 1 := fun d => by unfold tnN; split; exact Or.inr rfl; exact Or.inl rfl
          obtain ⟨μ3, f1, f2, -⟩ := C_over (S := S) (p := p') (fun f i (s : Int32 × Mem) => Taster_turnedAbout_l1 (nI h) (nI t) s.2 f s.1 i) g (fun a _ => a) (fun _ _ _ => True) htd (by
            rintro f i acc μ hi hd hO -
            have c1 := turns_C W hO htd hi hh ht hn
            refine ⟨μ, ?_, hO, trivial⟩
            show Taster_turnedAbout_l1b (nI h) (nI t) μ (Taster_turnedAbout_l1 (nI h) (nI t) μ f) acc (nI i) = _
            unfold Taster_turnedAbout_l1b
            rw [shown_n W hO htd, bS, if_pos ((lt_n (by omega) (by omega)).mpr hi), c1, bS]
            simp only [g]
            rcases htn (dx S p' i) with q | q
            · rw [q, if_pos (show nI 0 = 0 from rfl), bS, bS, add_n, show nI 0 = (0 : Int32) from rfl, Int32.add_zero]
            · rw [q, if_neg (show ¬ nI 1 = 0 by decide), bS, bS, bS, add_n]) (by
            rintro f acc μ hO
            show Taster_turnedAbout_l1b (nI h) (nI t) μ (Taster_turnedAbout_l1 (nI h) (nI t) μ f) acc (nI _) = _
            unfold Taster_turnedAbout_l1b
            rw [shown_n W hO htd, bS, if_neg (fun q => absurd ((lt_n (by omega) (by omega)).mp q) (by omega))]) (k := 0) (acc := nI 0) (Nat.zero_le _) hO trivial
          obtain ⟨ν3, g1, g2, -, -⟩ := M_over (S := S) (p := p') (fun f i (s : Int32 × Mem) => M_swapped_l1 (nI p') (nI h) (nI t) f s.1 i s.2) g (fun a μ => (a, μ)) (fun _ _ _ => True) htd (by
            rintro f i acc ν hi hd hR hF -
            obtain ⟨c0, ν1, c1, c2, c3, c5, c4⟩ := layi_M W hR hp htd hF hd
            have bA := prt_bd W (dx S p' i) hp hh
            have bB := prt_bd W (dx S p' i) hp ht
            have F2 : Fr [1340] ν1 (mSI (mSI ν1 1340 0 h (nI (prtP S p' (dx S p' i) t))) 1340 0 t (nI (prtP S p' (dx S p' i) h))) := fr_si (by simp) (fr_si (by simp) Fr.refl)
            have hsw : ∀ k, k < mT S p' → mI (mSI (mSI ν1 1340 0 h (nI (prtP S p' (dx S p' i) t))) 1340 0 t (nI (prtP S p' (dx S p' i) h))) 1340 0 k = nI (swF S p' (dx S p' i) h t k) := by
              intro k hk
              unfold swF
              by_cases q : k = h
              · rw [if_pos q, q, iS_c hn, iS_eq]
              · rw [if_neg q]
                by_cases q2 : k = t
                · rw [if_pos q2, q2, iS_eq]
                · rw [if_neg q2, iS_c q2, iS_c q, c5 k hk]
            have R2 := c2.fr F2 (by decide)
            obtain ⟨ν2, d1, d2, d3⟩ := spell_M (f := swF S p' (dx S p' i) h t) W ⟨R2.pg, R2.th⟩ hp hsw
            have R3 := R2.fr d2 (by decide)
            obtain ⟨ν3, k1, k2⟩ := isKept_M (f := swF S p' (dx S p' i) h t) W ⟨R3.lw, R3.ho⟩ hp d3
            have R4 := R3.fr k2 (by decide)
            have FF : Fr [1332, 1333, 1340] ν1 ν3 := ((F2.mono (by simp)).trans (d2.mono (by simp))).trans (k2.mono (by simp))
            have FF2 : Fr [1332, 1333, 1340] ν1 ν2 := (F2.mono (by simp)).trans (d2.mono (by simp))
            have e1 : mI ν2 1340 0 h = nI (prtP S p' (dx S p' i) t) := by rw [d2.i 1340 (by decide), iS_c hn, iS_eq]
            have e2 : mI ν2 1340 0 t = nI (prtP S p' (dx S p' i) h) := by rw [d2.i 1340 (by decide), iS_eq]
            have step : ∀ ν4, ((if (if loP S p' h ≤ prtP S p' (dx S p' i) t ∧ prtP S p' (dx S p' i) t < loP S p' h + wdP S p' h then nI 1 else nI 0) = 0 then some (nI 0, ν2) else (M_isWithin (nI p') (nI t) ν2).bind fun x9 => if x9 = 0 then some (nI 0, ν2) else (M_isKept (nI p') ν2).bind fun (x10, μ11) => if x10 = 0 then some (nI 0, μ11) else some (nI 1, μ11)) = some (nI (tnN S p' (dx S p' i) h t), ν4)) → M_swapped_l1 (nI p') (nI h) (nI t) (f + 1) acc (nI i) ν = M_swapped_l1 (nI p') (nI h) (nI t) f (acc + nI (tnN S p' (dx S p' i) h t)) (nI (i + 1)) ν4 := by
              intro ν4 h4
              show M_swapped_l1b (nI p') (nI h) (nI t) (M_swapped_l1 (nI p') (nI h) (nI t) f) acc (nI i) ν = _
              unfold M_swapped_l1b
              rw [hF.1, if_pos ((lt_n (by omega) (by omega)).mpr hi), c0, bS, c1, bS, rd_n (by omega) (by decide), c5 h hh, bS, rd_n (by omega) (by decide), c5 t ht, bS, wr_n (by omega) (by decide), bS, wr_n (by omega) (by decide), bS, d1, bS, iswith_M W ⟨R3.pg, R3.ho⟩ hp hh (by omega) e1, bS, h4, bS]
              simp only []
              rw [bS, bS, add_n]
            have hfin : ∀ ν4, (ν4 = ν2 ∨ ν4 = ν3) → MR S ν4 ∧ Fnd S p' ν4 := by
              rintro ν4 (rfl | rfl)
              · exact ⟨R3, by rw [FF2.i 1342 (by decide)]; exact c3.1, by rw [FF2.i 1341 (by decide)]; exact c3.2⟩
              · exact ⟨R4, by rw [FF.i 1342 (by decide)]; exact c3.1, by rw [FF.i 1341 (by decide)]; exact c3.2⟩
            have hex : ∃ ν4, (ν4 = ν2 ∨ ν4 = ν3) ∧ ((if (if loP S p' h ≤ prtP S p' (dx S p' i) t ∧ prtP S p' (dx S p' i) t < loP S p' h + wdP S p' h then nI 1 else nI 0) = 0 then some (nI 0, ν2) else (M_isWithin (nI p') (nI t) ν2).bind fun x9 => if x9 = 0 then some (nI 0, ν2) else (M_isKept (nI p') ν2).bind fun (x10, μ11) => if x10 = 0 then some (nI 0, μ11) else some (nI 1, μ11)) = some (nI (tnN S p' (dx S p' i) h t), ν4)) := by
              unfold tnN
              by_cases q1 : loP S p' h ≤ prtP S p' (dx S p' i) t ∧ prtP S p' (dx S p' i) t < loP S p' h + wdP S p' h
              · rw [if_pos q1, if_neg (show ¬ nI 1 = 0 by decide), iswith_M W ⟨R3.pg, R3.ho⟩ hp ht (by omega) e2, bS]
                by_cases q2 : loP S p' t ≤ prtP S p' (dx S p' i) h ∧ prtP S p' (dx S p' i) h < loP S p' t + wdP S p' t
                · rw [if_pos q2, if_neg (show ¬ nI 1 = 0 by decide), k1, bS]
                  simp only []
                  cases q3 : keptB S p' (swF S p' (dx S p' i) h t) with
                  | false => rw [if_pos (show nI false.toNat = 0 from rfl), if_neg (fun z => absurd z.2.2 (by decide))]; exact ⟨ν3, Or.inr rfl, rfl⟩
                  | true => rw [if_neg (show ¬ nI true.toNat = 0 by decide), if_pos ⟨q1, q2, rfl⟩]; exact ⟨ν3, Or.inr rfl, rfl⟩
                · rw [if_neg q2, if_pos (show nI 0 = 0 from rfl), if_neg (fun z => q2 z.2.1)]; exact ⟨ν2, Or.inl rfl, rfl⟩
              · rw [if_neg q1, if_pos (show nI 0 = 0 from rfl), if_neg (fun z => q1 z.1)]; exact ⟨ν2, Or.inl rfl, rfl⟩
            obtain ⟨ν4, z1, z2⟩ := hex
            obtain ⟨z3, z4⟩ := hfin ν4 z1
            exact ⟨ν4, step ν4 z2, z3, z4, trivial⟩) (by
            rintro f acc ν hR hF
            show M_swapped_l1b (nI p') (nI h) (nI t) (M_swapped_l1 (nI p') (nI h) (nI t) f) acc (nI _) ν = _
            unfold M_swapped_l1b
            rw [hF.1, if_neg (fun q => absurd ((lt_n (by omega) (by omega)).mp q) (by omega))]) (k := 0) (acc := nI 0) (Nat.zero_le _) hR hF trivial
          unfold Taster_turnedAbout
          simp only [e1, e3, bS]
          rw [if_neg (fun q => (m1_n (by omega)).mp q), if_neg (fun q => (m1_n (by omega)).mp q), show Taster_turnedAbout_l1 (nI h) (nI t) μ FU (nI 0) (nI 0) = _ from f1, show M_swapped_l1 (nI p') (nI h) (nI t) FU (nI 0) (nI 0) ν = _ from g1, bS, bS, bS]
          exact ⟨_, _, _, rfl, rfl, hO.1, g2⟩
