/-! PURE: could -/
/-- rows do not change once all copies below are reckoned -/
theorem dp_keep {S : St} {al : Nat → Nat → Bool} (W : WF S) : ∀ {i j r w : Nat}, j ≤ i → i ≤ nBk S → nBk S - j ≤ r → (dpB S al i).1 r w = (dpB S al j).1 r w ∧ (dpB S al i).2 r w = (dpB S al j).2 r w := by
  intro i
  induction i with
  | zero => intro j r w h _ _; rw [show j = 0 by omega]; exact ⟨rfl, rfl⟩
  | succ i ih =>
    intro j r w h1 h2 h3
    by_cases e : j = i + 1
    · subst e; exact ⟨rfl, rfl⟩
    · have := ih (j := j) (r := r) (w := w) (by omega) (by omega) h3
      have hp := par_le W (show nBk S - 1 - i < nBk S by omega)
      show (if r = parR S (nBk S - 1 - i) then _ else (dpB S al i).1 r w) = _ ∧ (if r = parR S (nBk S - 1 - i) then _ else (dpB S al i).2 r w) = _
      rw [if_neg (by omega), if_neg (by omega)]
      exact this
def KF (S : St) : Nat → Nat → Nat := (dpB S (rdB S) (nBk S)).1
/-- the least cost of book b under word u -/
def bsU (S : St) (b u : Nat) : Nat := (hgB S (rdB S) (dpB S (rdB S) (nBk S)) b u 8).1
theorem bs_at {S : St} {b u : Nat} (W : WF S) (hb : b < nBk S) : (hgB S (rdB S) (dpB S (rdB S) (nBk S - 1 - b)) b u 8).1 = bsU S b u := by
  unfold bsU
  rw [hg_congr (al := rdB S) (al' := rdB S) (X := dpB S (rdB S) (nBk S - 1 - b)) (Y := dpB S (rdB S) (nBk S)) (fun v _ => rfl) (fun v _ => ?_) (Nat.le_refl 8)]
  obtain ⟨a, b⟩ := dp_keep (al := rdB S) (i := nBk S) (j := nBk S - 1 - b) (r := b + 1) (w := v) W (by omega) (Nat.le_refl _) (by omega)
  exact ⟨a.symm, b.symm⟩
/-- words that stand in some way of least cost, by rows -/
def Rq (S : St) : Nat → Nat → Nat → Prop
  | 0, r, u => r = 0 ∧ u < 8 ∧ ∀ v, v < 8 → KF S 0 u ≤ KF S 0 v
  | c + 1, r, u => if r = c + 1 then (u < 8 ∧ rdB S c u = true ∧ ∃ x, Rq S c (parR S c) x ∧ slB S x u + KF S (c + 1) u = bsU S c x) else Rq S c r u
theorem Rq_st {S : St} : ∀ {c r u : Nat}, r ≤ c → (Rq S c r u ↔ Rq S r r u) := by
  intro c
  induction c with
  | zero => intro r u h; rw [show r = 0 by omega]
  | succ c ih =>
    intro r u h
    by_cases e : r = c + 1
    · subst e; exact Iff.rfl
    · show (if r = c + 1 then _ else Rq S c r u) ↔ _
      rw [if_neg e]; exact ih (by omega)
theorem Rq_8 {S : St} : ∀ {c r u : Nat}, Rq S c r u → u < 8 := by
  intro c
  induction c with
  | zero => intro r u h; exact h.2.1
  | succ c ih =>
    intro r u h
    have h : (if r = c + 1 then (u < 8 ∧ rdB S c u = true ∧ ∃ x, Rq S c (parR S c) x ∧ slB S x u + KF S (c + 1) u = bsU S c x) else Rq S c r u) := h
    split at h
    · exact h.1
    · exact ih h
def Rf (S : St) (r u : Nat) : Prop := Rq S r r u
theorem Rf_s {S : St} (W : WF S) {c u : Nat} (hc : c < nBk S) : Rf S (c + 1) u ↔ u < 8 ∧ rdB S c u = true ∧ ∃ x, Rf S (parR S c) x ∧ slB S x u + KF S (c + 1) u = bsU S c x := by
  show (if c + 1 = c + 1 then _ else _) ↔ _
  rw [if_pos rfl]
  have hp := par_le W hc
  constructor
  · rintro ⟨a, b, x, h1, h2⟩; exact ⟨a, b, x, (Rq_st hp).mp h1, h2⟩
  · rintro ⟨a, b, x, h1, h2⟩; exact ⟨a, b, x, (Rq_st hp).mpr h1, h2⟩
theorem Rf_lt {S : St} {r u : Nat} (h : Rf S r u) : u < 8 := Rq_8 h
theorem Rf_rd {S : St} {r u : Nat} (W : WF S) (hr : r < nBk S) (h : Rf S (r + 1) u) : rdB S r u = true := ((Rf_s W hr).mp h).2.1
/-- what the fold over words is -/
theorem hg_le {S : St} {al : Nat → Nat → Bool} {X : KPt} {b w : Nat} : ∀ {n v : Nat}, v < n → mskB al X.1 b v < FAr → (hgB S al X b w n).1 ≤ slB S w v + mskB al X.1 b v := by
  intro n
  induction n with
  | zero => intro v h; omega
  | succ n ih =>
    intro v h1 h2
    unfold hgB
    by_cases e : v = n
    · subst e
      rw [if_pos h2]
      split
      · omega
      · exact Nat.le_refl _
    · have := ih (v := v) (by omega) h2
      split
      · split
        · exact this
        · rename_i q
          simp only; omega
      · exact this
theorem hg_at {S : St} {al : Nat → Nat → Bool} {X : KPt} {b w : Nat} : ∀ {n : Nat}, (hgB S al X b w n).1 < FAr → ∃ v, v < n ∧ mskB al X.1 b v < FAr ∧ slB S w v + mskB al X.1 b v = (hgB S al X b w n).1 := by
  intro n
  induction n with
  | zero => intro h; exact absurd h (Nat.lt_irrefl _)
  | succ n ih =>
    intro h
    have hu : hgB S al X b w (n + 1) = if mskB al X.1 b n < FAr then (if (hgB S al X b w n).1 < slB S w n + mskB al X.1 b n then hgB S al X b w n else (slB S w n + mskB al X.1 b n, if slB S w n + mskB al X.1 b n < (hgB S al X b w n).1 then X.2 (b + 1) n else (hgB S al X b w n).2 + X.2 (b + 1) n)) else hgB S al X b w n := rfl
    by_cases q : mskB al X.1 b n < FAr
    · by_cases q2 : (hgB S al X b w n).1 < slB S w n + mskB al X.1 b n
      · rw [hu, if_pos q, if_pos q2] at h ⊢
        obtain ⟨v, a, b, c⟩ := ih h
        exact ⟨v, by omega, b, c⟩
      · rw [hu, if_pos q, if_neg q2]
        exact ⟨n, by omega, q, rfl⟩
    · rw [hu, if_neg q] at h ⊢
      obtain ⟨v, a, b, c⟩ := ih h
      exact ⟨v, by omega, b, c⟩
theorem msk_far {al : Nat → Nat → Bool} {K : Nat → Nat → Nat} {b v : Nat} (h : mskB al K b v < FAr) : al b v = true ∧ mskB al K b v = K (b + 1) v := by
  unfold mskB at *
  split at h
  · rename_i q; rw [if_pos q]; exact ⟨q, rfl⟩
  · exact absurd h (Nat.lt_irrefl _)
theorem al_at {S : St} {b w e v : Nat} (hb : b < 1000000) (he : e < 1000000) : alB S (nI b) w e v = true ↔ rdB S e v = true ∧ (e = b → v = w) := by
  unfold alB
  rw [Bool.and_eq_true, Bool.or_eq_true, Bool.not_eq_true', decide_eq_false_iff_not, decide_eq_true_iff, eq_n (by omega) (by omega)]
  constructor
  · rintro ⟨h1, h2⟩; exact ⟨h1, fun q => h2.resolve_left (fun z => z q)⟩
  · rintro ⟨h1, h2⟩
    refine ⟨h1, ?_⟩
    by_cases q : e = b
    · exact Or.inr (h2 q)
    · exact Or.inl q
theorem hg1_congr {S : St} {al al' : Nat → Nat → Bool} {X Y : KPt} {b w : Nat} (h : ∀ v, v < 8 → al b v = al' b v) (h2 : ∀ v, v < 8 → X.1 (b + 1) v = Y.1 (b + 1) v) : ∀ {v : Nat}, v ≤ 8 → (hgB S al X b w v).1 = (hgB S al' Y b w v).1 := by
  intro v
  induction v with
  | zero => intro _; rfl
  | succ v ih =>
    intro hv
    have hm : mskB al X.1 b v = mskB al' Y.1 b v := by unfold mskB; rw [h v (by omega), h2 v (by omega)]
    have ih := ih (by omega)
    unfold hgB
    rw [hm, ih]
    split
    · split
      · exact ih
      · rfl
    · exact ih
theorem could_key {S : St} {b w : Nat} (W : WF S) (hb : b < nBk S) (hw : w < 8) : ∀ m c, m + c = b + 1 → ∃ r, r ≤ c ∧ (c = b + 1 → r = b + 1) ∧ (∀ x u, x ≤ c → x ≠ r → u < 8 → (dpB S (alB S (nI b) w) (nBk S - c)).1 x u = (dpB S (rdB S) (nBk S - c)).1 x u) ∧ (∀ u, u < 8 → (dpB S (rdB S) (nBk S - c)).1 r u ≤ (dpB S (alB S (nI b) w) (nBk S - c)).1 r u) ∧ (Rf S (b + 1) w ↔ ∃ u, u < 8 ∧ Rf S r u ∧ (r ≠ 0 → alB S (nI b) w (r - 1) u = true) ∧ (dpB S (alB S (nI b) w) (nBk S - c)).1 r u = (dpB S (rdB S) (nBk S - c)).1 r u) := by
  have h12 := W.bk.1
  have hfa : FAr = 100000000 := rfl
  intro m
  induction m with
  | zero =>
    intro c hc
    have hc : c = b + 1 := by omega
    subst hc
    have e : dpB S (alB S (nI b) w) (nBk S - (b + 1)) = dpB S (rdB S) (nBk S - (b + 1)) := dp_congr (nBk S - (b + 1)) (fun e v h1 h2 _ => by
      have := al_at (S := S) (b := b) (w := w) (e := e) (v := v) (by omega) (by omega)
      cases h3 : rdB S e v with
      | false => cases h4 : alB S (nI b) w e v with
        | false => rfl
        | true => have := (this.mp h4).1; rw [h3] at this; exact nomatch this
      | true => exact this.mpr ⟨h3, fun q => by omega⟩) (Nat.le_refl _) (by omega)
    rw [e]
    refine ⟨b + 1, Nat.le_refl _, fun _ => rfl, fun _ _ _ _ _ => rfl, fun _ _ => Nat.le_refl _, ?_⟩
    rw [Nat.add_sub_cancel]
    constructor
    · intro h
      exact ⟨w, hw, h, fun _ => (al_at (by omega) (by omega)).mpr ⟨Rf_rd W hb h, fun _ => rfl⟩, rfl⟩
    · rintro ⟨u, h1, h2, h3, -⟩
      have := ((al_at (S := S) (by omega) (by omega)).mp (h3 (by omega))).2 rfl
      rw [this] at h2; exact h2
  | succ m ih =>
    intro d hd
    obtain ⟨r, hr, ir, i1, i2, i3⟩ := ih (d + 1) (by omega)
    have hdn : d < nBk S := by omega
    have hj : nBk S - d = (nBk S - (d + 1)) + 1 := by omega
    have hbk : nBk S - 1 - (nBk S - (d + 1)) = d := by omega
    have hjj : nBk S - 1 - d = nBk S - (d + 1) := by omega
    have hpd := par_le W hdn
    have htn := dp_tiny W (show nBk S - d ≤ nBk S by omega)
    have hto := dp_tiny W (show nBk S - (d + 1) ≤ nBk S by omega)
    -- the step, for both
    have sR : ∀ x u, (dpB S (rdB S) (nBk S - d)).1 x u = if x = parR S d then min FAr ((dpB S (rdB S) (nBk S - (d + 1))).1 x u + bsU S d u) else (dpB S (rdB S) (nBk S - (d + 1))).1 x u := by
      intro x u
      rw [hj]
      show (if x = parR S (nBk S - 1 - (nBk S - (d + 1))) then min FAr (_ + (hgB S (rdB S) (dpB S (rdB S) (nBk S - (d + 1))) (nBk S - 1 - (nBk S - (d + 1))) u 8).1) else _) = _
      rw [hbk, ← hjj, bs_at W hdn]
    have sA : ∀ x u, (dpB S (alB S (nI b) w) (nBk S - d)).1 x u = if x = parR S d then min FAr ((dpB S (alB S (nI b) w) (nBk S - (d + 1))).1 x u + (hgB S (alB S (nI b) w) (dpB S (alB S (nI b) w) (nBk S - (d + 1))) d u 8).1) else (dpB S (alB S (nI b) w) (nBk S - (d + 1))).1 x u := by
      intro x u
      rw [hj]
      show (if x = parR S (nBk S - 1 - (nBk S - (d + 1))) then min FAr (_ + (hgB S (alB S (nI b) w) (dpB S (alB S (nI b) w) (nBk S - (d + 1))) (nBk S - 1 - (nBk S - (d + 1))) u 8).1) else _) = _
      rw [hbk]
    have hkf : ∀ v, (dpB S (rdB S) (nBk S - (d + 1))).1 (d + 1) v = KF S (d + 1) v := fun v => ((dp_keep (al := rdB S) (i := nBk S) (j := nBk S - (d + 1)) (r := d + 1) (w := v) W (by omega) (Nat.le_refl _) (by omega)).1).symm
    have hbs : ∀ u, bsU S d u = (hgB S (rdB S) (dpB S (rdB S) (nBk S - (d + 1))) d u 8).1 := fun u => by rw [← hjj, bs_at W hdn]
    by_cases hrd : d + 1 = r
    · -- the path goes on
      have h0 : ∀ u, u < 8 → (dpB S (alB S (nI b) w) (nBk S - (d + 1))).1 (parR S d) u = (dpB S (rdB S) (nBk S - (d + 1))).1 (parR S d) u := fun u hu => i1 _ u (by omega) (by omega) hu
      rw [← hrd] at i2 i3
      have hmm : ∀ v, v < 8 → mskB (alB S (nI b) w) (dpB S (alB S (nI b) w) (nBk S - (d + 1))).1 d v < FAr → rdB S d v = true ∧ mskB (rdB S) (dpB S (rdB S) (nBk S - (d + 1))).1 d v = KF S (d + 1) v ∧ KF S (d + 1) v ≤ mskB (alB S (nI b) w) (dpB S (alB S (nI b) w) (nBk S - (d + 1))).1 d v := by
        intro v hv hm
        obtain ⟨a1, a2⟩ := msk_far hm
        have a3 := ((al_at (S := S) (by omega) (by omega)).mp a1).1
        refine ⟨a3, ?_, ?_⟩
        · unfold mskB; rw [if_pos a3, hkf]
        · rw [a2, ← hkf]; exact i2 v hv
      have hge : ∀ u, u < 8 → bsU S d u ≤ (hgB S (alB S (nI b) w) (dpB S (alB S (nI b) w) (nBk S - (d + 1))) d u 8).1 := by
        intro u hu
        by_cases q : (hgB S (alB S (nI b) w) (dpB S (alB S (nI b) w) (nBk S - (d + 1))) d u 8).1 < FAr
        · obtain ⟨v, v1, v2, v3⟩ := hg_at q
          obtain ⟨c1, c2, c3⟩ := hmm v v1 v2
          have := hg_le (S := S) (al := rdB S) (X := dpB S (rdB S) (nBk S - (d + 1))) (b := d) (w := u) (n := 8) v1 (by rw [c2, ← hkf]; exact hto _ v v1)
          rw [hbs]; rw [c2] at this; omega
        · have := dp_sm (al := rdB S) W (show nBk S - (d + 1) ≤ 12 by omega)
          have hb2 := bnd_12 (show nBk S - (d + 1) ≤ 12 by omega)
          have := hg_sm (al := rdB S) (b := d) W hu this (by omega) (Nat.le_refl 8)
          rw [hbs]; omega
      have heq : ∀ u, u < 8 → ((hgB S (alB S (nI b) w) (dpB S (alB S (nI b) w) (nBk S - (d + 1))) d u 8).1 = bsU S d u ↔ ∃ v, v < 8 ∧ (alB S (nI b) w d v = true ∧ (dpB S (alB S (nI b) w) (nBk S - (d + 1))).1 (d + 1) v = KF S (d + 1) v) ∧ slB S u v + KF S (d + 1) v = bsU S d u) := by
        intro u hu
        have hbf : bsU S d u < FAr := by
          have hs := dp_sm (al := rdB S) W (show nBk S - (d + 1) ≤ 12 by omega)
          have hb2 := bnd_12 (show nBk S - (d + 1) ≤ 12 by omega)
          obtain ⟨v, hv, hv2⟩ := rd_ex W hdn
          have hm : mskB (rdB S) (dpB S (rdB S) (nBk S - (d + 1))).1 d v = (dpB S (rdB S) (nBk S - (d + 1))).1 (d + 1) v := if_pos hv2
          have q1 := hto (d + 1) v hv
          have q2 := hs (d + 1) v hv
          have q3 := sl_le W hu hv
          rw [hbs]
          exact hg_some (S := S) (al := rdB S) (v := 8) ⟨v, hv, by rw [hm]; exact q1, by rw [hm]; omega⟩
        constructor
        · intro h
          obtain ⟨v, v1, v2, v3⟩ := hg_at (S := S) (al := alB S (nI b) w) (n := 8) (b := d) (w := u) (X := dpB S (alB S (nI b) w) (nBk S - (d + 1))) (by rw [h]; exact hbf)
          obtain ⟨c1, c2, c3⟩ := hmm v v1 v2
          obtain ⟨a1, a2⟩ := msk_far v2
          have := hg_le (S := S) (al := rdB S) (X := dpB S (rdB S) (nBk S - (d + 1))) (b := d) (w := u) (n := 8) v1 (by rw [c2, ← hkf]; exact hto _ v v1)
          rw [c2, ← hbs] at this
          rw [h] at v3
          exact ⟨v, v1, ⟨a1, by omega⟩, by omega⟩
        · rintro ⟨v, v1, ⟨a1, a2⟩, a3⟩
          have hm : mskB (alB S (nI b) w) (dpB S (alB S (nI b) w) (nBk S - (d + 1))).1 d v = KF S (d + 1) v := by unfold mskB; rw [if_pos a1, a2]
          have hkl : KF S (d + 1) v < FAr := by rw [← hkf]; exact hto _ v v1
          have := hg_le (S := S) (al := alB S (nI b) w) (X := dpB S (alB S (nI b) w) (nBk S - (d + 1))) (b := d) (w := u) (n := 8) v1 (by rw [hm]; exact hkl)
          rw [hm] at this
          have := hge u hu
          omega
      have hnew : ∀ u, u < 8 → ((dpB S (alB S (nI b) w) (nBk S - d)).1 (parR S d) u = (dpB S (rdB S) (nBk S - d)).1 (parR S d) u ↔ (hgB S (alB S (nI b) w) (dpB S (alB S (nI b) w) (nBk S - (d + 1))) d u 8).1 = bsU S d u) := by
        intro u hu
        have h1 := htn (parR S d) u hu
        rw [sR, if_pos rfl] at h1
        rw [sA, sR, if_pos rfl, if_pos rfl, h0 u hu]
        have := hge u hu
        omega
      refine ⟨parR S d, hpd, fun q => by omega, fun x u hx hxr hu => ?_, fun u hu => ?_, ?_⟩
      · rw [sA, sR, if_neg hxr, if_neg hxr]
        exact i1 x u (by omega) (by omega) hu
      · rw [sA, sR, if_pos rfl, if_pos rfl, h0 u hu]
        have := hge u hu
        omega
      · rw [i3]
        constructor
        · rintro ⟨v, v1, v2, v3, v4⟩
          have v3 := v3 (by omega)
          rw [Nat.add_sub_cancel] at v3
          obtain ⟨-, -, x, x1, x2⟩ := (Rf_s W hdn).mp v2
          have hx8 := Rf_lt x1
          refine ⟨x, hx8, x1, fun hne => ?_, (hnew x hx8).mpr ((heq x hx8).mpr ⟨v, v1, ⟨v3, by rw [v4, hkf]⟩, x2⟩)⟩
          obtain ⟨q, hq⟩ : ∃ q, parR S d = q + 1 := ⟨parR S d - 1, by omega⟩
          rw [hq] at x1 ⊢
          rw [Nat.add_sub_cancel]
          exact (al_at (by omega) (by omega)).mpr ⟨Rf_rd W (by omega) x1, fun z => by omega⟩
        · rintro ⟨x, x1, x2, -, x4⟩
          obtain ⟨v, v1, ⟨v2, v3⟩, v4⟩ := (heq x x1).mp ((hnew x x1).mp x4)
          have hrd2 := ((al_at (S := S) (by omega) (by omega)).mp v2).1
          refine ⟨v, v1, (Rf_s W hdn).mpr ⟨v1, hrd2, x, x2, v4⟩, fun _ => by rw [Nat.add_sub_cancel]; exact v2, by rw [v3, hkf]⟩
    · -- another book
      have hrow : ∀ v, v < 8 → (dpB S (alB S (nI b) w) (nBk S - (d + 1))).1 (d + 1) v = (dpB S (rdB S) (nBk S - (d + 1))).1 (d + 1) v := fun v hv => i1 _ v (Nat.le_refl _) hrd hv
      have hdb : d ≠ b := fun q => by
        have := ir (by omega)
        omega
      have hg : ∀ u, (hgB S (alB S (nI b) w) (dpB S (alB S (nI b) w) (nBk S - (d + 1))) d u 8).1 = bsU S d u := by
        intro u
        rw [hbs]
        refine hg1_congr (fun v hv => ?_) hrow (Nat.le_refl 8)
        have := al_at (S := S) (b := b) (w := w) (e := d) (v := v) (by omega) (by omega)
        cases h3 : rdB S d v with
        | false => cases h4 : alB S (nI b) w d v with
          | false => rfl
          | true => have := (this.mp h4).1; rw [h3] at this; exact nomatch this
        | true => exact this.mpr ⟨h3, fun q => absurd q hdb⟩
      refine ⟨r, by omega, fun q => by omega, fun x u hx hxr hu => ?_, fun u hu => ?_, ?_⟩
      · rw [sA, sR, hg, i1 x u (by omega) hxr hu]
      · rw [sA, sR, hg]
        have := i2 u hu
        split <;> omega
      · rw [i3]
        have hn : ∀ u, u < 8 → ((dpB S (alB S (nI b) w) (nBk S - (d + 1))).1 r u = (dpB S (rdB S) (nBk S - (d + 1))).1 r u ↔ (dpB S (alB S (nI b) w) (nBk S - d)).1 r u = (dpB S (rdB S) (nBk S - d)).1 r u) := by
          intro u hu
          have h1 := htn r u hu
          rw [sR] at h1
          rw [sA, sR, hg]
          by_cases q : r = parR S d
          · rw [if_pos q] at h1 ⊢
            rw [if_pos q]; omega
          · rw [if_neg q, if_neg q]
        constructor
        · rintro ⟨u, u1, u2, u3, u4⟩; exact ⟨u, u1, u2, u3, (hn u u1).mp u4⟩
        · rintro ⟨u, u1, u2, u3, u4⟩; exact ⟨u, u1, u2, u3, (hn u u1).mpr u4⟩
theorem could_eq {S : St} {b w : Nat} (W : WF S) (hb : b < nBk S) (hw : w < 8) : Rf S (b + 1) w ↔ (dpB S (alB S (nI b) w) (nBk S)).1 0 (chB ((dpB S (alB S (nI b) w) (nBk S)).1 0) 7) = KF S 0 (chB (KF S 0) 7) := by
  obtain ⟨r, hr, -, -, i2, i3⟩ := could_key W hb hw (b + 1) 0 (by omega)
  have hr0 : r = 0 := by omega
  subst hr0
  rw [Nat.sub_zero] at i2 i3
  have hK : ∀ u, (dpB S (rdB S) (nBk S)).1 0 u = KF S 0 u := fun u => rfl
  have c1 := chB_le (f := KF S 0) (v := 7)
  have c2 := chB_le (f := (dpB S (alB S (nI b) w) (nBk S)).1 0) (v := 7)
  rw [i3]
  constructor
  · rintro ⟨u, u1, u2, -, u4⟩
    have u2' : u < 8 ∧ ∀ v, v < 8 → KF S 0 u ≤ KF S 0 v := u2.2
    have h1 := chB_min (f := (dpB S (alB S (nI b) w) (nBk S)).1 0) (v := 7) (i := u) (by omega)
    have h2 := i2 (chB ((dpB S (alB S (nI b) w) (nBk S)).1 0) 7) (by omega)
    have h3 := u2'.2 (chB (KF S 0) 7) (by omega)
    have h4 := chB_min (f := KF S 0) (v := 7) (i := u) (by omega)
    have h5 := u2'.2 (chB ((dpB S (alB S (nI b) w) (nBk S)).1 0) 7) (by omega)
    rw [hK] at h2 u4
    omega
  · intro h
    refine ⟨chB ((dpB S (alB S (nI b) w) (nBk S)).1 0) 7, by omega, ⟨rfl, by omega, fun v hv => ?_⟩, fun q => absurd rfl q, ?_⟩
    · have h2 := i2 (chB ((dpB S (alB S (nI b) w) (nBk S)).1 0) 7) (by omega)
      have h4 := chB_min (f := KF S 0) (v := 7) (i := v) (by omega)
      rw [hK] at h2
      omega
    · have h2 := i2 (chB ((dpB S (alB S (nI b) w) (nBk S)).1 0) 7) (by omega)
      have h4 := chB_min (f := KF S 0) (v := 7) (i := chB ((dpB S (alB S (nI b) w) (nBk S)).1 0) 7) (by omega)
      rw [hK] at h2 ⊢
      omega
/-! the class's bits -/
def isR (a : Nat) (P : Nat → Prop) : Prop := a < 256 ∧ ∀ t, a.testBit t = true ↔ P t
theorem isR_or {a v : Nat} {P : Nat → Prop} (h : isR a P) (hv : v < 8) : isR (a ||| 2 ^ v) (fun t => P t ∨ t = v) := by
  refine ⟨?_, fun t => ?_⟩
  · have : 2 ^ v < 2 ^ 8 := Nat.pow_lt_pow_right (by decide) hv
    exact Nat.or_lt_two_pow (n := 8) h.1 this
  · rw [Nat.testBit_or, Bool.or_eq_true, h.2, Nat.testBit_two_pow, decide_eq_true_iff]
    exact ⟨fun q => q.imp_right Eq.symm, fun q => q.imp_right Eq.symm⟩
theorem isR_congr {a : Nat} {P Q : Nat → Prop} (h : isR a P) (hpq : ∀ t, P t ↔ Q t) : isR a Q := ⟨h.1, fun t => (h.2 t).trans (hpq t)⟩
theorem isR_eq {a b : Nat} {P : Nat → Prop} (h : isR a P) (h' : isR b P) : a = b := bits_eq fun t => (h.2 t).trans (h'.2 t).symm
theorem below_C {S : St} {c a : Nat} {μ : Mem} (W : WF S) (C : C_bk S μ) (hK : CK S (dpB S (rdB S) (nBk S)) μ) (hc : c < nBk S) {P : Nat → Prop} (ha : isR a P) :
    ∃ r, Copies_wordsBelow (nI c) (nI a) μ = some (nI r) ∧ isR r (fun t => t < 8 ∧ rdB S c t = true ∧ ∃ x, x < 8 ∧ P x ∧ slB S x t + KF S (c + 1) t = bsU S c x) := by
  have h12 := W.bk.1
  have hfa : FAr = 100000000 := rfl
  have ht := dp_tiny W (Nat.le_refl (nBk S))
  have hs := dp_sm (al := rdB S) W h12
  have hbn := bnd_12 h12
  have hlb : ∀ u, u < 8 → lbB S (dpB S (rdB S) (nBk S)).1 c u 8 = bsU S c u := by
    intro u hu
    obtain ⟨k1, -, -⟩ := lb_hg (b := c) (w := u) W hu ht hs (by omega) (Nat.le_refl 8)
    rcases k1 with ⟨-, -, c3⟩ | k
    · obtain ⟨v', hv', hv2⟩ := rd_ex W hc
      exact absurd hv2 (c3 v' hv')
    · exact k.1
  have hbs : ∀ u, u < 8 → bsU S c u < 2147483648 := fun u hu => by
    have := hg_sm (al := rdB S) (b := c) W hu hs (by omega) (Nat.le_refl 8)
    unfold bsU; omega
  have hkf : ∀ v, v < 8 → mI μ 203 (c + 1) v = nI (KF S (c + 1) v) := fun v hv => (hK (c + 1) v (by omega) hv).1
  have hkl : ∀ v, v < 8 → KF S (c + 1) v < FAr := fun v hv => ht (c + 1) v hv
  obtain ⟨r, e, b, hb, hbr⟩ : ∃ r, Copies_wordsBelow_l1 (nI c) (nI a) μ FU (nI 0) (nI 0) = some r ∧ ∃ b, r = nI b ∧ isR b (fun t => t < 8 ∧ rdB S c t = true ∧ ∃ x, x < 8 ∧ P x ∧ slB S x t + KF S (c + 1) t = bsU S c x) := by
    refine loopE (fun f v (s : Int32) => Copies_wordsBelow_l1 (nI c) (nI a) μ f s v) 8 (fun n s => ∃ b, s = nI b ∧ isR b (fun t => t < 8 ∧ rdB S c t = true ∧ ∃ x, x < n ∧ P x ∧ slB S x t + KF S (c + 1) t = bsU S c x)) (fun r => ∃ b, r = nI b ∧ isR b (fun t => t < 8 ∧ rdB S c t = true ∧ ∃ x, x < 8 ∧ P x ∧ slB S x t + KF S (c + 1) t = bsU S c x)) ?_ ?_ 8 0 (nI 0) FU rfl (FU_lt (by decide)) ⟨0, rfl, by decide, fun t => by rw [Nat.zero_testBit]; exact ⟨fun q => absurd q (by decide), fun ⟨_, _, x, q, _⟩ => absurd q (Nat.not_lt_zero x)⟩⟩
    · rintro f x s hx ⟨b0, rfl, hb0⟩
      left
      have hin : ∃ r, Copies_wordsBelow_l2 (nI c) (nI a) (nI x) (nI (bsU S c x)) μ FU (nI b0) (nI 0) = some r ∧ ∃ b, r = nI b ∧ isR b (fun t => t < 8 ∧ rdB S c t = true ∧ ∃ y, y < x + 1 ∧ P y ∧ slB S y t + KF S (c + 1) t = bsU S c y) := by
        by_cases hP : a.testBit x = true
        · refine loopE (fun f v (s : Int32) => Copies_wordsBelow_l2 (nI c) (nI a) (nI x) (nI (bsU S c x)) μ f s v) 8 (fun n s => ∃ b, s = nI b ∧ isR b (fun t => (t < 8 ∧ rdB S c t = true ∧ ∃ y, y < x ∧ P y ∧ slB S y t + KF S (c + 1) t = bsU S c y) ∨ (t < n ∧ rdB S c t = true ∧ slB S x t + KF S (c + 1) t = bsU S c x))) (fun r => ∃ b, r = nI b ∧ isR b (fun t => t < 8 ∧ rdB S c t = true ∧ ∃ y, y < x + 1 ∧ P y ∧ slB S y t + KF S (c + 1) t = bsU S c y)) ?_ ?_ 8 0 (nI b0) FU rfl (FU_lt (by decide)) ⟨b0, rfl, isR_congr hb0 fun t => ⟨Or.inl, fun q => q.resolve_right (fun z => absurd z.1 (Nat.not_lt_zero t))⟩⟩
          · rintro f v s hv ⟨b1, rfl, hb1⟩
            left
            have hsl := sl_le W hx hv
            have hk := hkl v hv
            have hbx := hbs x hx
            have step : ∀ y, ((if nI (rdB S c v).toNat = 0 then some (nI b1) else (mIx (nI x) 8).bind fun r3 => (mRd μ 202 r3 8 (nI v)).bind fun x4 => (mIx (nI c + nI 1) 13).bind fun r5 => (mRd μ 203 r5 8 (nI v)).bind fun x6 => if (x4 + x6) = nI (bsU S c x) then ((some (nI b1 ||| ((nI 1) <<< (nI v &&& 31)))).bind fun x7 => some x7) else some (nI b1)) = some y) → Copies_wordsBelow_l2 (nI c) (nI a) (nI x) (nI (bsU S c x)) μ (f + 1) (nI b1) (nI v) = Copies_wordsBelow_l2 (nI c) (nI a) (nI x) (nI (bsU S c x)) μ f y (nI (v + 1)) := by
              intro y hy
              show Copies_wordsBelow_l2b (nI c) (nI a) (nI x) (nI (bsU S c x)) μ (Copies_wordsBelow_l2 (nI c) (nI a) (nI x) (nI (bsU S c x)) μ f) (nI b1) (nI v) = _
              unfold Copies_wordsBelow_l2b
              rw [if_pos ((lt_n (by omega) (by decide)).mpr hv), hbit (by have := ha.1; omega) (by omega), bS, hP, if_neg (show ¬ nI true.toNat = 0 by decide), can_C W C hc hv, bS, hy, bS, bS, add_n]
            cases hr : rdB S c v with
            | false =>
              rw [hr] at step
              refine ⟨nI b1, step _ (if_pos rfl), b1, rfl, isR_congr hb1 fun t => ?_⟩
              constructor
              · rintro (q | ⟨q1, q2⟩)
                · exact Or.inl q
                · exact Or.inr ⟨by omega, q2⟩
              · rintro (q | ⟨q1, q2, q3⟩)
                · exact Or.inl q
                · refine Or.inr ⟨?_, q2, q3⟩
                  by_cases e : t = v
                  · subst e; rw [hr] at q2; exact nomatch q2
                  · omega
            | true =>
              rw [hr, if_neg (show ¬ nI true.toNat = 0 by decide), ix_n hx (by decide)] at step
              simp only [bS] at step
              rw [rd_n hv (by decide), C.2.2 x v hx hv, bS, add_n, ix_n (by omega) (by decide), bS, rd_n hv (by decide), hkf v hv, bS, show sN S 202 x v = slB S x v from rfl, add_n, bit1 (by omega), or_n] at step
              by_cases q : slB S x v + KF S (c + 1) v = bsU S c x
              · rw [if_pos ((eq_n (by omega) (by omega)).mpr q)] at step
                refine ⟨_, step _ rfl, _, rfl, isR_congr (isR_or hb1 hv) fun t => ?_⟩
                constructor
                · rintro ((z | ⟨z1, z2⟩) | rfl)
                  · exact Or.inl z
                  · exact Or.inr ⟨by omega, z2⟩
                  · exact Or.inr ⟨by omega, hr, q⟩
                · rintro (z | ⟨z1, z2⟩)
                  · exact Or.inl (Or.inl z)
                  · by_cases e : t = v
                    · exact Or.inr e
                    · exact Or.inl (Or.inr ⟨by omega, z2⟩)
              · rw [if_neg (fun z => q ((eq_n (by omega) (by omega)).mp z))] at step
                refine ⟨_, step _ rfl, b1, rfl, isR_congr hb1 fun t => ?_⟩
                constructor
                · rintro (z | ⟨z1, z2⟩)
                  · exact Or.inl z
                  · exact Or.inr ⟨by omega, z2⟩
                · rintro (z | ⟨z1, z2, z3⟩)
                  · exact Or.inl z
                  · refine Or.inr ⟨?_, z2, z3⟩
                    by_cases e : t = v
                    · subst e; exact absurd z3 q
                    · omega
          · rintro f s ⟨b1, rfl, hb1⟩
            refine ⟨nI b1, ?_, b1, rfl, isR_congr hb1 fun t => ?_⟩
            · show Copies_wordsBelow_l2b (nI c) (nI a) (nI x) (nI (bsU S c x)) μ (Copies_wordsBelow_l2 (nI c) (nI a) (nI x) (nI (bsU S c x)) μ f) (nI b1) (nI 8) = _
              unfold Copies_wordsBelow_l2b
              rw [if_neg (by decide)]
            · constructor
              · rintro (⟨z1, z2, y, y1, y2⟩ | ⟨z1, z2, z3⟩)
                · exact ⟨z1, z2, y, by omega, y2⟩
                · exact ⟨z1, z2, x, by omega, (ha.2 x).mp hP, z3⟩
              · rintro ⟨z1, z2, y, y1, y2, y3⟩
                by_cases e : y = x
                · subst e; exact Or.inr ⟨z1, z2, y3⟩
                · exact Or.inl ⟨z1, z2, y, by omega, y2, y3⟩
        · obtain ⟨g, hg, hg2⟩ := FU_g
          obtain ⟨g, rfl⟩ : ∃ h, g = h + 1 := ⟨g - 1, by omega⟩
          refine ⟨nI b0, ?_, b0, rfl, isR_congr hb0 fun t => ?_⟩
          · rw [hg]
            show Copies_wordsBelow_l2b (nI c) (nI a) (nI x) (nI (bsU S c x)) μ (Copies_wordsBelow_l2 (nI c) (nI a) (nI x) (nI (bsU S c x)) μ g) (nI b0) (nI 0) = _
            unfold Copies_wordsBelow_l2b
            have hf : a.testBit x = false := by cases h : a.testBit x with
              | false => rfl
              | true => exact absurd h hP
            rw [if_pos (by decide), hbit (by have := ha.1; omega) (by omega), bS, hf, if_pos (show nI false.toNat = 0 from rfl)]
          · constructor
            · rintro ⟨z1, z2, y, y1, y2⟩; exact ⟨z1, z2, y, by omega, y2⟩
            · rintro ⟨z1, z2, y, y1, y2, y3⟩
              refine ⟨z1, z2, y, ?_, y2, y3⟩
              by_cases e : y = x
              · subst e; exact absurd ((ha.2 y).mpr y2) hP
              · omega
      obtain ⟨r, e, b, rfl, hb⟩ := hin
      refine ⟨nI b, ?_, b, rfl, hb⟩
      show Copies_wordsBelow_l1b (nI c) (nI a) μ (Copies_wordsBelow_l1 (nI c) (nI a) μ f) (nI b0) (nI x) = _
      unfold Copies_wordsBelow_l1b
      rw [if_pos ((lt_n (by omega) (by decide)).mpr hx), least_C W C hK ht hc hx, hlb x hx, bS, e, bS, bS, add_n]
    · rintro f s ⟨b, rfl, hb⟩
      refine ⟨nI b, ?_, b, rfl, hb⟩
      show Copies_wordsBelow_l1b (nI c) (nI a) μ (Copies_wordsBelow_l1 (nI c) (nI a) μ f) (nI b) (nI 8) = _
      unfold Copies_wordsBelow_l1b
      rw [if_neg (by decide)]
  subst hb
  refine ⟨b, ?_, hbr⟩
  unfold Copies_wordsBelow
  rw [e, bS]
theorem words_C {S : St} {b : Nat} {μ0 : Mem} (W : WF S) (C : C_bk S μ0) (hK : CK S (dpB S (rdB S) (nBk S)) μ0) (hb : b < nBk S) : ∃ r μ', Copies_wordsOf (nI b) μ0 = some (nI r, μ') ∧ Fr [205] μ0 μ' ∧ isR r (Rf S (b + 1)) := by
  have h12 := W.bk.1
  have hfa : FAr = 100000000 := rfl
  have c1 := chB_le (f := KF S 0) (v := 7)
  have hk0 : ∀ w, w < 8 → KF S 0 w ≤ FAr := dp_far W
  have e203 : ∀ μ, Fr [205] μ0 μ → ∀ w, w < 8 → mI μ 203 0 w = nI (KF S 0 w) := fun μ F w hw => by rw [F.i 203 (by decide)]; exact (hK 0 w (Nat.zero_le _) hw).1
  obtain ⟨μ1, e1, F1, r0, k1, k2⟩ : ∃ s, Copies_wordsOf_l1 (nI b) (nI (KF S 0 (chB (KF S 0) 7))) FU (nI 0) (mSI μ0 205 0 0 (nI 0)) = some s ∧ Fr [205] μ0 s ∧ ∃ r0, mI s 205 0 0 = nI r0 ∧ isR r0 (fun t => t < 8 ∧ KF S 0 t = KF S 0 (chB (KF S 0) 7)) := by
    refine loopE (fun f v s => Copies_wordsOf_l1 (nI b) (nI (KF S 0 (chB (KF S 0) 7))) f v s) 8 (fun n s => Fr [205] μ0 s ∧ ∃ r0, mI s 205 0 0 = nI r0 ∧ isR r0 (fun t => t < n ∧ KF S 0 t = KF S 0 (chB (KF S 0) 7))) (fun s => Fr [205] μ0 s ∧ ∃ r0, mI s 205 0 0 = nI r0 ∧ isR r0 (fun t => t < 8 ∧ KF S 0 t = KF S 0 (chB (KF S 0) 7))) ?_ ?_ 8 0 _ FU rfl (FU_lt (by decide)) ⟨fr_si (by simp) Fr.refl, 0, iS_eq, by decide, fun t => by rw [Nat.zero_testBit]; exact ⟨fun q => absurd q (by decide), fun q => absurd q.1 (Nat.not_lt_zero t)⟩⟩
    · rintro f v s hv ⟨F, r0, h0, hr0⟩
      left
      have ha := hk0 v hv
      have hb := hk0 (chB (KF S 0) 7) (by omega)
      have step : ∀ s', ((if nI (KF S 0 v) = nI (KF S 0 (chB (KF S 0) 7)) then ((mRd s 205 0 13 (nI 0)).bind fun x3 => (mWr s 205 0 13 (nI 0) (x3 ||| ((nI 1) <<< (nI v &&& 31)))).bind fun μ4 => some μ4) else some s) = some s') → Copies_wordsOf_l1 (nI b) (nI (KF S 0 (chB (KF S 0) 7))) (f + 1) (nI v) s = Copies_wordsOf_l1 (nI b) (nI (KF S 0 (chB (KF S 0) 7))) f (nI (v + 1)) s' := by
        intro s' hs'
        show Copies_wordsOf_l1b (nI b) (nI (KF S 0 (chB (KF S 0) 7))) (Copies_wordsOf_l1 (nI b) (nI (KF S 0 (chB (KF S 0) 7))) f) (nI v) s = _
        unfold Copies_wordsOf_l1b
        rw [if_pos ((lt_n (by omega) (by decide)).mpr hv), ix_n (by decide) (by decide), bS, rd_n hv (by decide), e203 s F v hv, bS, hs', bS, bS, add_n]
      by_cases q : KF S 0 v = KF S 0 (chB (KF S 0) 7)
      · rw [if_pos (by rw [q]), rd_n (by decide) (by decide), h0, bS, bit1 (by omega), or_n, wr_n (by decide) (by decide), bS] at step
        refine ⟨_, step _ rfl, fr_si (by simp) F, _, iS_eq, isR_congr (isR_or hr0 hv) fun t => ?_⟩
        constructor
        · rintro (⟨z1, z2⟩ | rfl)
          · exact ⟨by omega, z2⟩
          · exact ⟨by omega, q⟩
        · rintro ⟨z1, z2⟩
          by_cases e : t = v
          · exact Or.inr e
          · exact Or.inl ⟨by omega, z2⟩
      · rw [if_neg (fun z => q ((eq_n (by omega) (by omega)).mp z))] at step
        refine ⟨s, step _ rfl, F, r0, h0, isR_congr hr0 fun t => ?_⟩
        constructor
        · rintro ⟨z1, z2⟩; exact ⟨by omega, z2⟩
        · rintro ⟨z1, z2⟩
          refine ⟨?_, z2⟩
          by_cases e : t = v
          · subst e; exact absurd z2 q
          · omega
    · rintro f s ⟨F, r0, h0, hr0⟩
      refine ⟨s, ?_, F, r0, h0, hr0⟩
      show Copies_wordsOf_l1b (nI b) (nI (KF S 0 (chB (KF S 0) 7))) (Copies_wordsOf_l1 (nI b) (nI (KF S 0 (chB (KF S 0) 7))) f) (nI 8) s = _
      unfold Copies_wordsOf_l1b
      rw [if_neg (by decide)]
  have hR0 : isR r0 (Rf S 0) := isR_congr k2 fun t => by
    constructor
    · rintro ⟨z1, z2⟩
      exact ⟨rfl, z1, fun v hv => by rw [z2]; exact chB_min (by omega)⟩
    · rintro ⟨-, z1, z2⟩
      have h1 := z2 (chB (KF S 0) 7) (by omega)
      have h2 := chB_min (f := KF S 0) (v := 7) (i := t) (by omega)
      exact ⟨z1, by omega⟩
  obtain ⟨μ2, e2, F2, k3⟩ : ∃ s, Copies_wordsOf_l2 (nI b) FU (nI 0) μ1 = some s ∧ Fr [205] μ0 s ∧ ∃ r, mI s 205 0 (b + 1) = nI r ∧ isR r (Rf S (b + 1)) := by
    refine loopE (fun f v s => Copies_wordsOf_l2 (nI b) f v s) (b + 1) (fun n s => Fr [205] μ0 s ∧ ∀ c, c ≤ n → ∃ r, mI s 205 0 c = nI r ∧ isR r (Rf S c)) (fun s => Fr [205] μ0 s ∧ ∃ r, mI s 205 0 (b + 1) = nI r ∧ isR r (Rf S (b + 1))) ?_ ?_ (b + 1) 0 μ1 FU (by omega) (FU_lt (by omega)) ⟨F1, fun c hc => by rw [show c = 0 by omega]; exact ⟨r0, k1, hR0⟩⟩
    · rintro f c s hc ⟨F, hI⟩
      left
      have hcn : c < nBk S := by omega
      have hpl := par_le W hcn
      obtain ⟨ra, h1, h2⟩ := hI (parR S c) hpl
      have Cs := bk_fr C F (by decide)
      have Ks : CK S (dpB S (rdB S) (nBk S)) s := fun r w hr hw => by rw [F.i 203 (by decide), F.l 204 (by decide)]; exact hK r w hr hw
      obtain ⟨rb, g1, g2⟩ := below_C W Cs Ks hcn h2
      refine ⟨mSI s 205 0 (c + 1) (nI rb), ?_, fr_si (by simp) F, fun d hd => ?_⟩
      · show Copies_wordsOf_l2b (nI b) (Copies_wordsOf_l2 (nI b) f) (nI c) s = _
        unfold Copies_wordsOf_l2b
        rw [if_neg (fun q => absurd ((lt_n (by omega) (by omega)).mp q) (by omega)), rd_n (by omega) (by decide), (Cs.2.1 c hcn).1, bS, par_I W hcn, rd_n (by omega) (by decide), h1, bS, g1, bS, add_n, wr_n (by omega) (by decide), bS, bS]
      · by_cases e : d = c + 1
        · subst e
          refine ⟨rb, iS_eq, isR_congr g2 fun t => ?_⟩
          rw [Rf_s W hcn]
          constructor
          · rintro ⟨z1, z2, x, -, z4⟩; exact ⟨z1, z2, x, z4⟩
          · rintro ⟨z1, z2, x, z3, z4⟩; exact ⟨z1, z2, x, Rf_lt z3, z3, z4⟩
        · obtain ⟨r, q1, q2⟩ := hI d (by omega)
          exact ⟨r, (iS_c e).trans q1, q2⟩
    · rintro f s ⟨F, hI⟩
      refine ⟨s, ?_, F, hI (b + 1) (Nat.le_refl _)⟩
      show Copies_wordsOf_l2b (nI b) (Copies_wordsOf_l2 (nI b) f) (nI (b + 1)) s = _
      unfold Copies_wordsOf_l2b
      rw [if_pos ((lt_n (by omega) (by omega)).mpr (by omega))]
  obtain ⟨r, k4, k5⟩ := k3
  refine ⟨r, μ2, ?_, F2, k5⟩
  unfold Copies_wordsOf
  rw [ix_n (by decide) (by decide), bS, cheap_C hK (dp_far W), bS, show (dpB S (rdB S) (nBk S)).1 0 = KF S 0 from rfl, rd_n (by omega) (by decide), (e203 μ0 Fr.refl _ (by omega)), bS, wr_n (by decide) (by decide), bS, e1, bS, e2, bS, add_n, rd_n (by omega) (by decide), k4, bS]
theorem q_could (x : Int32) : Cmd (B_could x) (M_could x) := by
  intro S μ ν W C R
  have h12 := W.bk.1
  have hfa : FAr = 100000000 := rfl
  unfold B_could M_could
  rcases bk_arg W x with hx | ⟨b, hb, rfl⟩
  · rw [bkh_out C.bk.1 hx, R.bk.1, sub1, in_out hx (by omega), bS, bS, if_pos (by decide), if_pos (by decide)]; exact ⟨_, _, _, rfl, rfl, C, R⟩
  · rw [bkh_in C.bk.1 (by omega) hb, R.bk.1, sub1, in_lt hb (by omega), bS, bS, if_neg (by decide), if_neg (by decide)]
    obtain ⟨μ1, a1, a2, a3⟩ := reckon_C W C.bk
    obtain ⟨ν1, b1, b2, b3⟩ := price_M (fx := -1) (fw := 0) W R.bk (by decide)
    rw [dp_none W] at b3
    have C1 := C.fr a2 (by decide)
    have R1 := R.fr b2 (by decide)
    obtain ⟨r, μ2, c1, c2, c3⟩ := words_C W C1.bk a3 hb
    have hk0 : ∀ w, w < 8 → KF S 0 w ≤ FAr := dp_far W
    have cl := chB_le (f := KF S 0) (v := 7)
    rw [a1, bS, c1, bS, b1, bS, lf_M b3 (dp_far W), bS, show (dpB S (rdB S) (nBk S)).1 0 = KF S 0 from rfl, add_n, rd_n (by omega) (by decide), show mI ν1 1352 0 (96 + chB (KF S 0) 7) = nI (KF S 0 (chB (KF S 0) 7)) from (b3 0 _ (Nat.le_refl _) (by omega)).1, bS]
    simp only []
    obtain ⟨⟨r', ν2⟩, d1, d2, d3⟩ : ∃ s, M_could_l1 (nI b) (nI (KF S 0 (chB (KF S 0) 7))) FU (nI 0) (nI 0) ν1 = some s ∧ MR S s.2 ∧ ∃ a, s.1 = nI a ∧ isR a (Rf S (b + 1)) := by
      refine loopE (fun f v (s : Int32 × Mem) => M_could_l1 (nI b) (nI (KF S 0 (chB (KF S 0) 7))) f s.1 v s.2) 8 (fun n s => MR S s.2 ∧ ∃ a, s.1 = nI a ∧ isR a (fun t => t < n ∧ Rf S (b + 1) t)) (fun s => MR S s.2 ∧ ∃ a, s.1 = nI a ∧ isR a (Rf S (b + 1))) ?_ ?_ 8 0 (nI 0, ν1) FU rfl (FU_lt (by decide)) ⟨R1, 0, rfl, by decide, fun t => by rw [Nat.zero_testBit]; exact ⟨fun q => absurd q (by decide), fun q => absurd q.1 (Nat.not_lt_zero t)⟩⟩
      · rintro f w ⟨s, ν⟩ hw ⟨R, a, ha, hr⟩
        simp only at R ha
        subst ha
        left
        obtain ⟨ν3, f1, f2, f3⟩ := price_M (fx := nI b) (fw := w) W R.bk hw
        have R3 := R.fr f2 (by decide)
        have cl2 := chB_le (f := (dpB S (alB S (nI b) w) (nBk S)).1 0) (v := 7)
        have hf2 := dp_far (al := alB S (nI b) w) W (chB ((dpB S (alB S (nI b) w) (nBk S)).1 0) 7) (by omega)
        have hf1 := hk0 (chB (KF S 0) 7) (by omega)
        have hce := could_eq W hb hw
        have step : ∀ y, ((if nI ((dpB S (alB S (nI b) w) (nBk S)).1 0 (chB ((dpB S (alB S (nI b) w) (nBk S)).1 0) 7)) = nI (KF S 0 (chB (KF S 0) 7)) then some ((nI 1) <<< (nI w &&& 31)) else some (nI 0)) = some y) → M_could_l1 (nI b) (nI (KF S 0 (chB (KF S 0) 7))) (f + 1) (nI a) (nI w) ν = M_could_l1 (nI b) (nI (KF S 0 (chB (KF S 0) 7))) f (nI a ||| y) (nI (w + 1)) ν3 := by
          intro y hy
          show M_could_l1b (nI b) (nI (KF S 0 (chB (KF S 0) 7))) (M_could_l1 (nI b) (nI (KF S 0 (chB (KF S 0) 7))) f) (nI a) (nI w) ν = _
          unfold M_could_l1b
          rw [if_pos ((lt_n (by omega) (by decide)).mpr hw), f1, bS, lf_M f3 (dp_far W), bS, add_n, rd_n (by omega) (by decide), show mI ν3 1352 0 (96 + chB ((dpB S (alB S (nI b) w) (nBk S)).1 0) 7) = _ from (f3 0 _ (Nat.le_refl _) (by omega)).1, bS, hy, bS, bS, bS, add_n]
        by_cases q : Rf S (b + 1) w
        · have e := step (nI (2 ^ w)) (by rw [if_pos (by rw [hce.mp q]), bit1 (by omega)])
          rw [or_n] at e
          refine ⟨(nI (a ||| 2 ^ w), ν3), e, R3, _, rfl, isR_congr (isR_or hr hw) fun t => ?_⟩
          constructor
          · rintro (⟨z1, z2⟩ | rfl)
            · exact ⟨by omega, z2⟩
            · exact ⟨by omega, q⟩
          · rintro ⟨z1, z2⟩
            by_cases e : t = w
            · exact Or.inr e
            · exact Or.inl ⟨by omega, z2⟩
        · have e := step (nI 0) (by rw [if_neg (fun z => q (hce.mpr ((eq_n (by omega) (by omega)).mp z)))])
          rw [or_n, Nat.or_zero] at e
          refine ⟨(nI a, ν3), e, R3, a, rfl, isR_congr hr fun t => ?_⟩
          constructor
          · rintro ⟨z1, z2⟩; exact ⟨by omega, z2⟩
          · rintro ⟨z1, z2⟩
            refine ⟨?_, z2⟩
            by_cases e : t = w
            · subst e; exact absurd z2 q
            · omega
      · rintro f ⟨s, ν⟩ ⟨R, a, ha, hr⟩
        refine ⟨(s, ν), ?_, R, a, ha, isR_congr hr fun t => ⟨fun z => z.2, fun z => ⟨Rf_lt z, z⟩⟩⟩
        show M_could_l1b (nI b) (nI (KF S 0 (chB (KF S 0) 7))) (M_could_l1 (nI b) (nI (KF S 0 (chB (KF S 0) 7))) f) s (nI 8) ν = _
        unfold M_could_l1b
        rw [if_neg (by decide)]
    simp only at d2 d3
    obtain ⟨a, rfl, ha⟩ := d3
    rw [d1, bS, isR_eq ha c3]
    exact ⟨_, _, _, rfl, rfl, C1.fr c2 (by decide), d2⟩
