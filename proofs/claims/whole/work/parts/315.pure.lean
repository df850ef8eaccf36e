/-! PURE: books -/
def FAr : Nat := 100000000
abbrev KPt : Type := (Nat → Nat → Nat) × (Nat → Nat → Int64)
def parR (S : St) (b : Nat) : Nat := if sI S 200 0 b = -1 then 0 else nv (sI S 200 0 b) + 1
def rdB (S : St) (b w : Nat) : Bool := decide (sI S 201 0 b = -1) || decide (sI S 201 0 b = nI w)
def alB (S : St) (fx : Int32) (fw b v : Nat) : Bool := rdB S b v && (!decide (nI b = fx) || decide (v = fw))
def slB (S : St) (u v : Nat) : Nat := sN S 202 u v
def mskB (al : Nat → Nat → Bool) (K : Nat → Nat → Nat) (b v : Nat) : Nat := if al b v = true then K (b + 1) v else FAr
def hgB (S : St) (al : Nat → Nat → Bool) (X : KPt) (b w : Nat) : Nat → Nat × Int64
  | 0 => (FAr, 0)
  | v + 1 => if mskB al X.1 b v < FAr then (if (hgB S al X b w v).1 < slB S w v + mskB al X.1 b v then hgB S al X b w v else (slB S w v + mskB al X.1 b v, if slB S w v + mskB al X.1 b v < (hgB S al X b w v).1 then X.2 (b + 1) v else (hgB S al X b w v).2 + X.2 (b + 1) v)) else hgB S al X b w v
def stB (S : St) (al : Nat → Nat → Bool) (b : Nat) (X : KPt) : KPt :=
  (fun r w => if r = parR S b then min FAr (X.1 r w + (hgB S al X b w 8).1) else X.1 r w, fun r w => if r = parR S b then X.2 r w * (hgB S al X b w 8).2 else X.2 r w)
def dpB (S : St) (al : Nat → Nat → Bool) : Nat → KPt
  | 0 => (fun _ _ => 0, fun _ _ => 1)
  | j + 1 => stB S al (nBk S - 1 - j) (dpB S al j)
theorem par_le {S : St} (W : WF S) {b : Nat} (hb : b < nBk S) : parR S b ≤ b := by
  unfold parR
  split
  · exact Nat.zero_le _
  · rename_i h
    rcases (W.bk.2.1 b hb).1 with h1 | ⟨a, ha, h1⟩
    · exact absurd h1 h
    · have := W.bk.1
      rw [h1, nv_nI (by omega)]; omega
theorem rd_ex {S : St} (W : WF S) {b : Nat} (hb : b < nBk S) : ∃ w, w < 8 ∧ rdB S b w = true := by
  unfold rdB
  rcases (W.bk.2.1 b hb).2 with h | ⟨w, hw, h⟩
  · exact ⟨0, by decide, by simp [h]⟩
  · exact ⟨w, hw, by simp [h]⟩
theorem sl_le {S : St} (W : WF S) {u v : Nat} (hu : u < 8) (hv : v < 8) : slB S u v ≤ 99 := W.bk.2.2 u v hu hv
/-- numbers stay small, or far -/
def smal (K : Nat → Nat → Nat) (B : Nat) : Prop := ∀ r w, w < 8 → K r w ≤ B ∨ K r w = FAr
theorem hg_sm {S : St} {al : Nat → Nat → Bool} {X : KPt} {b w B : Nat} (W : WF S) (hw : w < 8) (h : smal X.1 B) (hB : B + 99 < FAr) : ∀ {v : Nat}, v ≤ 8 → (hgB S al X b w v).1 ≤ 99 + B ∨ (hgB S al X b w v).1 = FAr := by
  intro v
  induction v with
  | zero => intro _; exact Or.inr rfl
  | succ v ih =>
    intro hv
    have ih := ih (by omega)
    have hs := sl_le W hw (show v < 8 by omega)
    unfold hgB
    by_cases hm : mskB al X.1 b v < FAr
    · rw [if_pos hm]
      have hk : mskB al X.1 b v ≤ B := by
        unfold mskB at *
        split at hm
        · rename_i q
          rw [if_pos q]
          rcases h (b + 1) v (by omega) with h1 | h1
          · exact h1
          · omega
        · omega
      split
      · exact ih
      · left; simp only; omega
    · rw [if_neg hm]; exact ih
theorem st_sm {S : St} {al : Nat → Nat → Bool} {X : KPt} {b B : Nat} (W : WF S) (h : smal X.1 B) (hB : 2 * B + 99 < FAr) : smal (stB S al b X).1 (2 * B + 99) := by
  intro r w hw
  show (if r = parR S b then min FAr (X.1 r w + (hgB S al X b w 8).1) else X.1 r w) ≤ _ ∨ (if r = parR S b then min FAr (X.1 r w + (hgB S al X b w 8).1) else X.1 r w) = _
  have h1 := h r w hw
  have h2 := hg_sm (al := al) (b := b) W hw h (by omega) (Nat.le_refl 8)
  split
  · omega
  · omega
def bnd : Nat → Nat
  | 0 => 0
  | j + 1 => 2 * bnd j + 99
theorem bnd_le : ∀ j, bnd j + 99 = 99 * 2 ^ j := by
  intro j
  induction j with
  | zero => rfl
  | succ j ih => show 2 * bnd j + 99 + 99 = _; rw [Nat.pow_succ]; omega
theorem bnd_12 {j : Nat} (h : j ≤ 12) : bnd j ≤ 500000 := by
  have h1 := bnd_le j
  have h2 : 2 ^ j ≤ 2 ^ 12 := Nat.pow_le_pow_right (by decide) h
  have h3 : (2 : Nat) ^ 12 = 4096 := rfl
  omega
theorem dp_sm {S : St} {al : Nat → Nat → Bool} (W : WF S) : ∀ {j : Nat}, j ≤ 12 → smal (dpB S al j).1 (bnd j) := by
  intro j
  induction j with
  | zero => intro _ r w _; exact Or.inl (Nat.le_refl _)
  | succ j ih =>
    intro hj
    have := bnd_12 (show j ≤ 12 by omega)
    exact st_sm W (ih (by omega)) (by unfold FAr; omega)
/-- without force nothing is far -/
def tiny (K : Nat → Nat → Nat) : Prop := ∀ r w, w < 8 → K r w < FAr
theorem hg_some {S : St} {al : Nat → Nat → Bool} {X : KPt} {b w : Nat} : ∀ {v : Nat}, (∃ v', v' < v ∧ mskB al X.1 b v' < FAr ∧ slB S w v' + mskB al X.1 b v' < FAr) → (hgB S al X b w v).1 < FAr := by
  intro v
  induction v with
  | zero => rintro ⟨v', h, -⟩; omega
  | succ v ih =>
    rintro ⟨v', h1, h2, h3⟩
    unfold hgB
    by_cases e : v' = v
    · subst e
      rw [if_pos h2]
      split
      · omega
      · exact h3
    · have := ih ⟨v', by omega, h2, h3⟩
      split
      · split
        · exact this
        · rename_i q1 q2
          simp only
          omega
      · exact this
theorem dp_tiny {S : St} (W : WF S) : ∀ {j : Nat}, j ≤ nBk S → tiny (dpB S (rdB S) j).1 := by
  intro j
  induction j with
  | zero => intro _ r w _; show 0 < FAr; decide
  | succ j ih =>
    intro hj r w hw
    have h12 := W.bk.1
    have ht := ih (by omega)
    have hs := dp_sm (al := rdB S) W (show j ≤ 12 by omega)
    have hb := bnd_12 (show j ≤ 12 by omega)
    have hfa : FAr = 100000000 := rfl
    show (if r = parR S (nBk S - 1 - j) then min FAr ((dpB S (rdB S) j).1 r w + (hgB S (rdB S) (dpB S (rdB S) j) (nBk S - 1 - j) w 8).1) else (dpB S (rdB S) j).1 r w) < FAr
    split
    · obtain ⟨v, hv, hv2⟩ := rd_ex W (show nBk S - 1 - j < nBk S by omega)
      have hm : mskB (rdB S) (dpB S (rdB S) j).1 (nBk S - 1 - j) v = (dpB S (rdB S) j).1 (nBk S - 1 - j + 1) v := if_pos hv2
      have h1 := ht (nBk S - 1 - j + 1) v hv
      have h2 := hs (nBk S - 1 - j + 1) v hv
      have h3 := sl_le W hw hv
      have h4 := hg_some (S := S) (al := rdB S) (X := dpB S (rdB S) j) (b := nBk S - 1 - j) (w := w) (v := 8) ⟨v, hv, by rw [hm]; exact h1, by rw [hm]; omega⟩
      have h5 := hg_sm (al := rdB S) (b := nBk S - 1 - j) W hw hs (by omega) (Nat.le_refl 8)
      have h6 := ht r w hw
      have h7 := hs r w hw
      omega
    · exact ht r w hw
/-! the class -/
theorem can_C {S : St} {b w : Nat} {μ : Mem} (W : WF S) (C : C_bk S μ) (hb : b < nBk S) (hw : w < 8) : Copies_canRead (nI b) (nI w) μ = some (nI (rdB S b w).toNat) := by
  have h12 := W.bk.1
  unfold Copies_canRead rdB
  rw [rd_n (by omega) (by decide), (C.2.1 b hb).2, bS]
  by_cases h : sI S 201 0 b = -1
  · rw [if_pos h, decide_eq_true h]; rfl
  · rw [if_neg h, bS, decide_eq_false h]
    by_cases h2 : sI S 201 0 b = nI w
    · rw [if_pos h2, decide_eq_true h2]; rfl
    · rw [if_neg h2, decide_eq_false h2]; rfl
def lbB (S : St) (K : Nat → Nat → Nat) (b w : Nat) : Nat → Nat
  | 0 => 2147483647
  | v + 1 => if rdB S b v = true then min (lbB S K b w v) (slB S w v + K (b + 1) v) else lbB S K b w v
def mnB (S : St) (X : KPt) (b w e : Nat) : Nat → Int64
  | 0 => 0
  | v + 1 => if rdB S b v = true ∧ slB S w v + X.1 (b + 1) v = e then mnB S X b w e v + X.2 (b + 1) v else mnB S X b w e v
theorem msk_rd {S : St} {K : Nat → Nat → Nat} (ht : tiny K) {b v : Nat} (hv : v < 8) : mskB (rdB S) K b v < FAr ↔ rdB S b v = true := by
  unfold mskB
  by_cases h : rdB S b v = true
  · rw [if_pos h]; exact ⟨fun _ => h, fun _ => ht _ _ hv⟩
  · rw [if_neg h]; exact ⟨fun q => absurd q (Nat.lt_irrefl _), fun q => absurd q h⟩
theorem mn_none {S : St} {X : KPt} {b w e : Nat} : ∀ {v : Nat}, (∀ v', v' < v → rdB S b v' = true → e < slB S w v' + X.1 (b + 1) v') → mnB S X b w e v = 0 := by
  intro v
  induction v with
  | zero => intro _; rfl
  | succ v ih =>
    intro h
    unfold mnB
    rw [if_neg (fun q => by have := h v (by omega) q.1; omega)]
    exact ih fun v' h1 => h v' (by omega)
theorem lb_hg {S : St} {X : KPt} {b w B : Nat} (W : WF S) (hw : w < 8) (ht : tiny X.1) (hs : smal X.1 B) (hB : B + 99 < FAr) : ∀ {v : Nat}, v ≤ 8 → (((lbB S X.1 b w v = 2147483647 ∧ (hgB S (rdB S) X b w v).1 = FAr ∧ ∀ v', v' < v → ¬ rdB S b v' = true) ∨ (lbB S X.1 b w v = (hgB S (rdB S) X b w v).1 ∧ lbB S X.1 b w v < FAr)) ∧ (hgB S (rdB S) X b w v).2 = mnB S X b w (hgB S (rdB S) X b w v).1 v ∧ ∀ v', v' < v → rdB S b v' = true → (hgB S (rdB S) X b w v).1 ≤ slB S w v' + X.1 (b + 1) v') := by
  intro v
  induction v with
  | zero => intro _; exact ⟨Or.inl ⟨rfl, rfl, fun v' h => absurd h (by omega)⟩, rfl, fun v' h => absurd h (by omega)⟩
  | succ v ih =>
    intro hv
    obtain ⟨h1, h2, h3⟩ := ih (by omega)
    have hfa : FAr = 100000000 := rfl
    have hsl := sl_le W hw (show v < 8 by omega)
    have hl : lbB S X.1 b w (v + 1) = if rdB S b v = true then min (lbB S X.1 b w v) (slB S w v + X.1 (b + 1) v) else lbB S X.1 b w v := rfl
    have hg : hgB S (rdB S) X b w (v + 1) = if mskB (rdB S) X.1 b v < FAr then (if (hgB S (rdB S) X b w v).1 < slB S w v + mskB (rdB S) X.1 b v then hgB S (rdB S) X b w v else (slB S w v + mskB (rdB S) X.1 b v, if slB S w v + mskB (rdB S) X.1 b v < (hgB S (rdB S) X b w v).1 then X.2 (b + 1) v else (hgB S (rdB S) X b w v).2 + X.2 (b + 1) v)) else hgB S (rdB S) X b w v := rfl
    have hn : ∀ e, mnB S X b w e (v + 1) = if rdB S b v = true ∧ slB S w v + X.1 (b + 1) v = e then mnB S X b w e v + X.2 (b + 1) v else mnB S X b w e v := fun e => rfl
    by_cases hr : rdB S b v = true
    · have hm : mskB (rdB S) X.1 b v = X.1 (b + 1) v := if_pos hr
      have hk := hs (b + 1) v (by omega)
      have hk2 := ht (b + 1) v (by omega)
      rw [hg, if_pos ((msk_rd ht (by omega)).mpr hr), hm, hl, if_pos hr]
      by_cases q : (hgB S (rdB S) X b w v).1 < slB S w v + X.1 (b + 1) v
      · rw [if_pos q, hn, if_neg (fun z => by omega)]
        refine ⟨?_, h2, fun v' a1 a2 => ?_⟩
        · rcases h1 with ⟨c1, c2, c3⟩ | ⟨c1, c2⟩
          · omega
          · right; omega
        · by_cases e : v' = v
          · subst e; omega
          · exact h3 v' (by omega) a2
      · rw [if_neg q]
        simp only
        refine ⟨?_, ?_, fun v' a1 a2 => ?_⟩
        · rcases h1 with ⟨c1, c2, c3⟩ | ⟨c1, c2⟩ <;> right <;> omega
        · by_cases q2 : slB S w v + X.1 (b + 1) v < (hgB S (rdB S) X b w v).1
          · rw [if_pos q2, hn, if_pos ⟨hr, rfl⟩, mn_none (fun v' a1 a2 => Nat.lt_of_lt_of_le q2 (h3 v' a1 a2)), Int64.zero_add]
          · rw [if_neg q2, hn, if_pos ⟨hr, rfl⟩, h2, show (hgB S (rdB S) X b w v).1 = slB S w v + X.1 (b + 1) v by omega]
        · by_cases e : v' = v
          · subst e; exact Nat.le_refl _
          · have := h3 v' (by omega) a2; omega
    · rw [hg, if_neg (fun z => hr ((msk_rd ht (by omega)).mp z)), hl, if_neg hr, hn, if_neg (fun z => hr z.1)]
      refine ⟨?_, h2, fun v' a1 a2 => ?_⟩
      · rcases h1 with ⟨c1, c2, c3⟩ | c
        · refine Or.inl ⟨c1, c2, fun v' a1 => ?_⟩
          by_cases e : v' = v
          · subst e; exact hr
          · exact c3 v' (by omega)
        · exact Or.inr c
      · by_cases e : v' = v
        · subst e; exact absurd a2 hr
        · exact h3 v' (by omega) a2
/-- rows of costs and ways in the class -/
def CK (S : St) (X : KPt) (μ : Mem) : Prop := ∀ r w, r ≤ nBk S → w < 8 → mI μ 203 r w = nI (X.1 r w) ∧ mL μ 204 r w = X.2 r w
theorem bk_fr {S : St} {μ μ' : Mem} {Wv : List Nat} (C : C_bk S μ) (F : Fr Wv μ μ') (hW : nIn Wv [200, 201, 202, 206] = true) : C_bk S μ' := C.fr fun v hv => F.i v (nIn_of hW hv)
theorem least_C {S : St} {X : KPt} {b w : Nat} {μ : Mem} (W : WF S) (C : C_bk S μ) (hK : CK S X μ) (ht : tiny X.1) (hb : b < nBk S) (hw : w < 8) : Copies_leastBelow (nI b) (nI w) μ = some (nI (lbB S X.1 b w 8)) := by
  have h12 := W.bk.1
  have hlb : ∀ v, lbB S X.1 b w v < 2147483648 := by
    intro v
    induction v with
    | zero => show 2147483647 < 2147483648; omega
    | succ v ih => unfold lbB; split <;> omega
  obtain ⟨r, e, hr⟩ : ∃ r, Copies_leastBelow_l1 (nI b) (nI w) μ FU (nI 2147483647) (nI 0) = some r ∧ r = nI (lbB S X.1 b w 8) := by
    refine loopE (fun f v (s : Int32) => Copies_leastBelow_l1 (nI b) (nI w) μ f s v) 8 (fun c s => s = nI (lbB S X.1 b w c)) (fun r => r = nI (lbB S X.1 b w 8)) ?_ ?_ 8 0 (nI 2147483647) FU rfl (FU_lt (by decide)) rfl
    · rintro f v s hv rfl
      left
      have hsl := sl_le W hw hv
      have hk := ht (b + 1) v hv
      have hfa : FAr = 100000000 := rfl
      have hl := hlb v
      refine ⟨nI (lbB S X.1 b w (v + 1)), ?_, rfl⟩
      show Copies_leastBelow_l1b (nI b) (nI w) μ (Copies_leastBelow_l1 (nI b) (nI w) μ f) (nI _) (nI v) = _
      unfold Copies_leastBelow_l1b
      have hu : lbB S X.1 b w (v + 1) = if rdB S b v = true then min (lbB S X.1 b w v) (slB S w v + X.1 (b + 1) v) else lbB S X.1 b w v := rfl
      rw [if_pos ((lt_n (by omega) (by decide)).mpr hv), can_C W C hb hv, bS]
      cases hr : rdB S b v with
      | false => rw [if_pos (show nI false.toNat = 0 from rfl), bS, bS, add_n, hu, hr, if_neg (by decide)]
      | true => rw [if_neg (show ¬ nI true.toNat = 0 by decide), ix_n hw (by decide), bS, rd_n hv (by decide), C.2.2 w v hw hv, bS, add_n, ix_n (by omega) (by decide), bS, rd_n hv (by decide), (hK (b + 1) v (by omega) hv).1, bS, show sN S 202 w v = slB S w v from rfl, add_n, jMin_n (by omega) (by omega), bS, bS, bS, add_n, hu, hr, if_pos rfl]
    · rintro f s rfl
      refine ⟨_, ?_, rfl⟩
      show Copies_leastBelow_l1b (nI b) (nI w) μ (Copies_leastBelow_l1 (nI b) (nI w) μ f) (nI _) (nI 8) = _
      unfold Copies_leastBelow_l1b
      rw [if_neg (by decide)]
  unfold Copies_leastBelow
  rw [e, bS, hr]
theorem many_C {S : St} {X : KPt} {b w e : Nat} {μ : Mem} (W : WF S) (C : C_bk S μ) (hK : CK S X μ) (ht : tiny X.1) (hb : b < nBk S) (hw : w < 8) (he : e < 2147483648) : Copies_addCopy_l1 (nI b) (nI w) (nI e) μ FU 0 (nI 0) = some (mnB S X b w e 8) := by
  have h12 := W.bk.1
  obtain ⟨r, e1, hr⟩ : ∃ r, Copies_addCopy_l1 (nI b) (nI w) (nI e) μ FU 0 (nI 0) = some r ∧ r = mnB S X b w e 8 := by
    refine loopE (fun f v (s : Int64) => Copies_addCopy_l1 (nI b) (nI w) (nI e) μ f s v) 8 (fun c s => s = mnB S X b w e c) (fun r => r = mnB S X b w e 8) ?_ ?_ 8 0 0 FU rfl (FU_lt (by decide)) rfl
    · rintro f v s hv rfl
      left
      have hsl := sl_le W hw hv
      have hk := ht (b + 1) v hv
      have hfa : FAr = 100000000 := rfl
      refine ⟨mnB S X b w e (v + 1), ?_, rfl⟩
      show Copies_addCopy_l1b (nI b) (nI w) (nI e) μ (Copies_addCopy_l1 (nI b) (nI w) (nI e) μ f) _ (nI v) = _
      unfold Copies_addCopy_l1b
      have hu : mnB S X b w e (v + 1) = if rdB S b v = true ∧ slB S w v + X.1 (b + 1) v = e then mnB S X b w e v + X.2 (b + 1) v else mnB S X b w e v := rfl
      rw [if_pos ((lt_n (by omega) (by decide)).mpr hv), can_C W C hb hv, bS]
      cases hr : rdB S b v with
      | false => rw [if_pos (show nI false.toNat = 0 from rfl), bS, bS, add_n, hu, hr, if_neg (fun z => absurd z.1 (by decide))]
      | true =>
        rw [if_neg (show ¬ nI true.toNat = 0 by decide), ix_n hw (by decide), bS, rd_n hv (by decide), C.2.2 w v hw hv, bS, add_n, ix_n (by omega) (by decide), bS, rd_n hv (by decide), (hK (b + 1) v (by omega) hv).1, bS, show sN S 202 w v = slB S w v from rfl, add_n]
        by_cases q : slB S w v + X.1 (b + 1) v = e
        · rw [if_pos ((eq_n (by omega) (by omega)).mpr q), bS, rl_n hv (by decide), (hK (b + 1) v (by omega) hv).2, bS, bS, bS, bS, add_n, hu, hr, if_pos ⟨rfl, q⟩]
        · rw [if_neg (fun z => q ((eq_n (by omega) (by omega)).mp z)), bS, bS, add_n, hu, hr, if_neg (fun z => q z.2)]
    · rintro f s rfl
      refine ⟨_, ?_, rfl⟩
      show Copies_addCopy_l1b (nI b) (nI w) (nI e) μ (Copies_addCopy_l1 (nI b) (nI w) (nI e) μ f) _ (nI 8) = _
      unfold Copies_addCopy_l1b
      rw [if_neg (by decide)]
  rw [e1, hr]
theorem I_SL' {μ : Mem} {v r c a b d : Nat} {x : Int64} : mI (mSL μ v r c x) a b d = mI μ a b d := rfl
theorem L_SI' {μ : Mem} {v r c a b d : Nat} {x : Int32} : mL (mSI μ v r c x) a b d = mL μ a b d := rfl
theorem L_SL' {μ : Mem} {v r c a b d : Nat} {x : Int64} : mL (mSL μ v r c x) a b d = if a = v ∧ b = r ∧ d = c then x else mL μ a b d := (L_SL).trans (Eq.refl _)
theorem par_I {S : St} (W : WF S) {b : Nat} (hb : b < nBk S) : sI S 200 0 b + nI 1 = nI (parR S b) := by
  unfold parR
  rcases (W.bk.2.1 b hb).1 with h1 | ⟨a, ha, h1⟩
  · rw [if_pos h1, h1]; rfl
  · have := W.bk.1
    rw [if_neg (by rw [h1]; exact fun q => (m1_n (by omega)).mp q), h1, add_n, nv_nI (by omega)]
/-- the first w words above a book are reckoned -/
def stw (S : St) (b : Nat) (X : KPt) (c : Nat) : KPt := (fun r w => if r = parR S b ∧ w < c then (stB S (rdB S) b X).1 r w else X.1 r w, fun r w => if r = parR S b ∧ w < c then (stB S (rdB S) b X).2 r w else X.2 r w)
theorem addCopy_C {S : St} {X : KPt} {b w B : Nat} {μ : Mem} (W : WF S) (C : C_bk S μ) (hK : CK S (stw S b X w) μ) (ht : tiny X.1) (hs : smal X.1 B) (hB : B + B + 99 < FAr) (hb : b < nBk S) (hw : w < 8) :
    ∃ μ', Copies_addCopy (nI b) (nI w) μ = some μ' ∧ Fr [203, 204] μ μ' ∧ CK S (stw S b X (w + 1)) μ' := by
  have h12 := W.bk.1
  have hpl := par_le W hb
  have hrow : ∀ v, (stw S b X w).1 (b + 1) v = X.1 (b + 1) v ∧ (stw S b X w).2 (b + 1) v = X.2 (b + 1) v := fun v => ⟨if_neg (fun q => by omega), if_neg (fun q => by omega)⟩
  have ht2 : tiny (stw S b X w).1 := by
    intro r v hv
    show (if r = parR S b ∧ v < w then (stB S (rdB S) b X).1 r v else X.1 r v) < FAr
    have hfa : FAr = 100000000 := rfl
    split
    · rename_i q
      show (if r = parR S b then min FAr (X.1 r v + (hgB S (rdB S) X b v 8).1) else X.1 r v) < FAr
      rw [if_pos q.1]
      obtain ⟨v', hv', hv2⟩ := rd_ex W hb
      have hm : mskB (rdB S) X.1 b v' = X.1 (b + 1) v' := if_pos hv2
      have h1 := ht (b + 1) v' hv'
      have h2 := hs (b + 1) v' hv'
      have h3 := sl_le W hv hv'
      have h4 := hg_some (S := S) (al := rdB S) (X := X) (b := b) (w := v) (v := 8) ⟨v', hv', by rw [hm]; exact h1, by rw [hm]; omega⟩
      have h5 := hg_sm (al := rdB S) (b := b) W hv hs (by omega) (Nat.le_refl 8)
      have h6 := ht r v hv
      have h7 := hs r v hv
      omega
    · exact ht r v hv
  have hlb : lbB S (stw S b X w).1 b w 8 = lbB S X.1 b w 8 := by
    have : ∀ v, lbB S (stw S b X w).1 b w v = lbB S X.1 b w v := by
      intro v
      induction v with
      | zero => rfl
      | succ v ih => unfold lbB; rw [ih, (hrow v).1]
    exact this 8
  have hmn : ∀ e, mnB S (stw S b X w) b w e 8 = mnB S X b w e 8 := by
    intro e
    have : ∀ v, mnB S (stw S b X w) b w e v = mnB S X b w e v := by
      intro v
      induction v with
      | zero => rfl
      | succ v ih => unfold mnB; rw [ih, (hrow v).1, (hrow v).2]
    exact this 8
  obtain ⟨k1, k2, k3⟩ := lb_hg (b := b) (w := w) W hw ht hs (by omega) (Nat.le_refl 8)
  have hk1 : lbB S X.1 b w 8 = (hgB S (rdB S) X b w 8).1 ∧ lbB S X.1 b w 8 < FAr := by
    rcases k1 with ⟨-, -, c3⟩ | c
    · obtain ⟨v', hv', hv2⟩ := rd_ex W hb
      exact absurd hv2 (c3 v' hv')
    · exact c
  have hfa : FAr = 100000000 := rfl
  have hsm := hg_sm (al := rdB S) (b := b) W hw hs (by omega) (Nat.le_refl 8)
  have hpw := hK (parR S b) w (by omega) hw
  have e1 : (stw S b X w).1 (parR S b) w = X.1 (parR S b) w := if_neg (fun q => by omega)
  have e2 : (stw S b X w).2 (parR S b) w = X.2 (parR S b) w := if_neg (fun q => by omega)
  rw [e1, e2] at hpw
  have hp1 := ht (parR S b) w hw
  have hp2 := hs (parR S b) w hw
  refine ⟨mSL (mSI μ 203 (parR S b) w (nI (X.1 (parR S b) w + (hgB S (rdB S) X b w 8).1))) 204 (parR S b) w (X.2 (parR S b) w * (hgB S (rdB S) X b w 8).2), ?_, fr_sl (by simp) (fr_si (by simp) Fr.refl), fun r v hr hv => ?_⟩
  · unfold Copies_addCopy
    have e200 : mRd μ 200 0 12 (nI b) = some (sI S 200 0 b) := by rw [rd_n (by omega) (by decide), (C.2.1 b hb).1]
    have e200' : ∀ x, mRd (mSI μ 203 (parR S b) w x) 200 0 12 (nI b) = some (sI S 200 0 b) := fun x => by rw [rd_n (by omega) (by decide), iS_v (by decide), (C.2.1 b hb).1]
    rw [least_C W C hK ht2 hb hw, hlb, bS, many_C W C hK ht2 hb hw (by omega), hmn, bS, e200, bS, par_I W hb, ix_n (by omega) (by decide), bS, rd_n hw (by decide), hpw.1, bS, add_n, wr_n hw (by decide), bS, e200', bS, par_I W hb, ix_n (by omega) (by decide), bS, rl_n hw (by decide), L_SI', hpw.2, bS, wl_n hw (by decide), bS, hk1.1, ← k2]
  · rw [I_SL', L_SL', L_SI']
    show _ = nI (if r = parR S b ∧ v < w + 1 then (if r = parR S b then min FAr (X.1 r v + (hgB S (rdB S) X b v 8).1) else X.1 r v) else X.1 r v) ∧ _ = (if r = parR S b ∧ v < w + 1 then (if r = parR S b then X.2 r v * (hgB S (rdB S) X b v 8).2 else X.2 r v) else X.2 r v)
    by_cases h1 : r = parR S b ∧ v = w
    · obtain ⟨rfl, rfl⟩ := h1
      refine ⟨?_, ?_⟩
      · rw [iS_eq, if_pos ⟨rfl, by omega⟩, if_pos rfl, Nat.min_eq_right (by omega)]
      · rw [if_pos ⟨rfl, rfl, rfl⟩, if_pos ⟨rfl, by omega⟩, if_pos rfl]
    · have hKr := hK r v hr hv
      have z1 : mI (mSI μ 203 (parR S b) w (nI (X.1 (parR S b) w + (hgB S (rdB S) X b w 8).1))) 203 r v = nI ((stw S b X w).1 r v) := by
        rw [iS, if_neg (fun q => h1 ⟨q.2.1, q.2.2⟩), hKr.1]
      have z2 : (if 204 = 204 ∧ r = parR S b ∧ v = w then X.2 (parR S b) w * (hgB S (rdB S) X b w 8).2 else mL μ 204 r v) = (stw S b X w).2 r v := by
        rw [if_neg (fun q => h1 ⟨q.2.1, q.2.2⟩), hKr.2]
      rw [z1, z2]
      show nI (if r = parR S b ∧ v < w then (if r = parR S b then min FAr (X.1 r v + (hgB S (rdB S) X b v 8).1) else X.1 r v) else X.1 r v) = _ ∧ (if r = parR S b ∧ v < w then (if r = parR S b then X.2 r v * (hgB S (rdB S) X b v 8).2 else X.2 r v) else X.2 r v) = _
      by_cases h2 : r = parR S b ∧ v < w
      · have h3 : r = parR S b ∧ v < w + 1 := ⟨h2.1, by omega⟩
        simp only [if_pos h2, if_pos h3]
        exact ⟨trivial, trivial⟩
      · rw [if_neg h2, if_neg h2, if_neg (fun q => h2 ⟨q.1, by omega⟩), if_neg (fun q => h2 ⟨q.1, by omega⟩)]; exact ⟨rfl, rfl⟩
theorem stw_0 {S : St} {b : Nat} {X : KPt} {μ : Mem} (h : CK S X μ) : CK S (stw S b X 0) μ := by
  intro r w hr hw
  show _ = nI (if r = parR S b ∧ w < 0 then _ else X.1 r w) ∧ _ = (if r = parR S b ∧ w < 0 then _ else X.2 r w)
  rw [if_neg (fun q => by omega), if_neg (fun q => by omega)]
  exact h r w hr hw
theorem stw_8 {S : St} {b : Nat} {X : KPt} {μ : Mem} (h : CK S (stw S b X 8) μ) : CK S (stB S (rdB S) b X) μ := by
  intro r w hr hw
  obtain ⟨a1, a2⟩ := h r w hr hw
  rw [a1, a2]
  show nI (if r = parR S b ∧ w < 8 then (stB S (rdB S) b X).1 r w else X.1 r w) = _ ∧ (if r = parR S b ∧ w < 8 then (stB S (rdB S) b X).2 r w else X.2 r w) = _
  by_cases q : r = parR S b
  · rw [if_pos ⟨q, hw⟩, if_pos ⟨q, hw⟩]; exact ⟨rfl, rfl⟩
  · rw [if_neg (fun z => q z.1), if_neg (fun z => q z.1)]
    show nI (X.1 r w) = nI (if r = parR S b then _ else X.1 r w) ∧ X.2 r w = (if r = parR S b then _ else X.2 r w)
    rw [if_neg q, if_neg q]; exact ⟨rfl, rfl⟩
theorem reckon_C {S : St} {μ0 : Mem} (W : WF S) (C : C_bk S μ0) : ∃ μ', Copies_reckon μ0 = some μ' ∧ Fr [203, 204] μ0 μ' ∧ CK S (dpB S (rdB S) (nBk S)) μ' := by
  have h12 := W.bk.1
  have inner : ∀ r μ, r ≤ 12 → ∃ μ', Copies_reckon_l2 (nI r) FU (nI 0) μ = some μ' ∧ Fr [203, 204] μ μ' ∧ (∀ w, w < 8 → mI μ' 203 r w = nI 0 ∧ mL μ' 204 r w = 1) ∧ ∀ q w, q ≠ r → mI μ' 203 q w = mI μ 203 q w ∧ mL μ' 204 q w = mL μ 204 q w := by
    intro r μ hr
    refine loopE (fun f v s => Copies_reckon_l2 (nI r) f v s) 8 (fun c s => Fr [203, 204] μ s ∧ (∀ w, w < c → mI s 203 r w = nI 0 ∧ mL s 204 r w = 1) ∧ ∀ q w, q ≠ r → mI s 203 q w = mI μ 203 q w ∧ mL s 204 q w = mL μ 204 q w) (fun s => Fr [203, 204] μ s ∧ (∀ w, w < 8 → mI s 203 r w = nI 0 ∧ mL s 204 r w = 1) ∧ ∀ q w, q ≠ r → mI s 203 q w = mI μ 203 q w ∧ mL s 204 q w = mL μ 204 q w) ?_ ?_ 8 0 μ FU rfl (FU_lt (by decide)) ⟨Fr.refl, fun w h => absurd h (by omega), fun q w _ => ⟨rfl, rfl⟩⟩
    · rintro f k s hk ⟨F, i1, i2⟩
      left
      refine ⟨mSL (mSI s 203 r k (nI 0)) 204 r k 1, ?_, fr_sl (by simp) (fr_si (by simp) F), fun w hw => ?_, fun q w hq => ?_⟩
      · show Copies_reckon_l2b (nI r) (Copies_reckon_l2 (nI r) f) (nI k) s = _
        unfold Copies_reckon_l2b
        rw [if_pos ((lt_n (by omega) (by decide)).mpr hk), ix_n (by omega) (by decide), bS, wr_n hk (by decide), bS, bS, wl_n hk (by decide), bS, bS, add_n]
      · rw [I_SL', L_SL', L_SI']
        by_cases e : w = k
        · subst e; rw [iS_eq, if_pos ⟨rfl, rfl, rfl⟩]; exact ⟨rfl, rfl⟩
        · rw [iS_c e, if_neg (fun z => e z.2.2)]; exact i1 w (by omega)
      · rw [I_SL', L_SL', L_SI', iS_r hq, if_neg (fun z => hq z.2.1)]; exact i2 q w hq
    · rintro f s ⟨F, i1, i2⟩
      refine ⟨s, ?_, F, i1, i2⟩
      show Copies_reckon_l2b (nI r) (Copies_reckon_l2 (nI r) f) (nI 8) s = _
      unfold Copies_reckon_l2b
      rw [if_neg (by decide)]
  obtain ⟨μ1, e1, F1, K1⟩ : ∃ s, Copies_reckon_l1 FU (nI 0) μ0 = some s ∧ Fr [203, 204] μ0 s ∧ ∀ r w, r ≤ nBk S → w < 8 → mI s 203 r w = nI 0 ∧ mL s 204 r w = 1 := by
    refine loopE (fun f v s => Copies_reckon_l1 f v s) (nBk S + 1) (fun c s => Fr [203, 204] μ0 s ∧ ∀ r w, r < c → w < 8 → mI s 203 r w = nI 0 ∧ mL s 204 r w = 1) (fun s => Fr [203, 204] μ0 s ∧ ∀ r w, r ≤ nBk S → w < 8 → mI s 203 r w = nI 0 ∧ mL s 204 r w = 1) ?_ ?_ (nBk S + 1) 0 μ0 FU (by omega) (FU_lt (by omega)) ⟨Fr.refl, fun r w h => absurd h (by omega)⟩
    · rintro f k s hk ⟨F, i1⟩
      left
      obtain ⟨s1, a1, a2, a3, a4⟩ := inner k s (by omega)
      refine ⟨s1, ?_, F.trans a2, fun r w hr hw => ?_⟩
      · show Copies_reckon_l1b (Copies_reckon_l1 f) (nI k) s = _
        unfold Copies_reckon_l1b
        rw [F.i 206 (by decide), C.1, if_neg (fun q => absurd ((lt_n (by omega) (by omega)).mp q) (by omega)), a1, bS, bS, add_n]
      · by_cases e : r = k
        · subst e; exact a3 w hw
        · obtain ⟨b1, b2⟩ := a4 r w e
          rw [b1, b2]; exact i1 r w (by omega) hw
    · rintro f s ⟨F, i1⟩
      refine ⟨s, ?_, F, fun r w hr hw => i1 r w (by omega) hw⟩
      show Copies_reckon_l1b (Copies_reckon_l1 f) (nI (nBk S + 1)) s = _
      unfold Copies_reckon_l1b
      rw [F.i 206 (by decide), C.1, if_pos ((lt_n (by omega) (by omega)).mpr (by omega))]
  obtain ⟨μ2, e2, F2, K2⟩ : ∃ s, Copies_reckon_l3 FU (dI (nBk S)) μ1 = some s ∧ Fr [203, 204] μ0 s ∧ CK S (dpB S (rdB S) (nBk S)) s := by
    refine loopD (fun f v s => Copies_reckon_l3 f v s) (fun c s => c ≤ nBk S ∧ Fr [203, 204] μ0 s ∧ CK S (dpB S (rdB S) (nBk S - c)) s) (fun s => Fr [203, 204] μ0 s ∧ CK S (dpB S (rdB S) (nBk S)) s) ?_ ?_ (nBk S) μ1 FU (FU_lt (by omega)) ⟨Nat.le_refl _, F1, by rw [Nat.sub_self]; exact K1⟩
    · rintro f b s ⟨hb, F, K⟩
      left
      have hb : b < nBk S := by omega
      have ht := dp_tiny W (show nBk S - (b + 1) ≤ nBk S by omega)
      have hs := dp_sm (al := rdB S) W (show nBk S - (b + 1) ≤ 12 by omega)
      have hbn := bnd_12 (show nBk S - (b + 1) ≤ 12 by omega)
      have hfa : FAr = 100000000 := rfl
      obtain ⟨s1, a1, a2, a3⟩ : ∃ s1, Copies_reckon_l4 (nI b) FU (nI 0) s = some s1 ∧ Fr [203, 204] μ0 s1 ∧ CK S (stw S b (dpB S (rdB S) (nBk S - (b + 1))) 8) s1 := by
        refine loopE (fun f v s => Copies_reckon_l4 (nI b) f v s) 8 (fun w s => Fr [203, 204] μ0 s ∧ CK S (stw S b (dpB S (rdB S) (nBk S - (b + 1))) w) s) (fun s => Fr [203, 204] μ0 s ∧ CK S (stw S b (dpB S (rdB S) (nBk S - (b + 1))) 8) s) ?_ ?_ 8 0 s FU rfl (FU_lt (by decide)) ⟨F, stw_0 K⟩
        · rintro f w s hw ⟨F, K⟩
          left
          obtain ⟨s1, c1, c2, c3⟩ := addCopy_C W (bk_fr C F (by decide)) K ht hs (by omega) hb hw
          refine ⟨s1, ?_, F.trans c2, c3⟩
          show Copies_reckon_l4b (nI b) (Copies_reckon_l4 (nI b) f) (nI w) s = _
          unfold Copies_reckon_l4b
          rw [if_pos ((lt_n (by omega) (by decide)).mpr hw), c1, bS, bS, add_n]
        · rintro f s ⟨F, K⟩
          refine ⟨s, ?_, F, K⟩
          show Copies_reckon_l4b (nI b) (Copies_reckon_l4 (nI b) f) (nI 8) s = _
          unfold Copies_reckon_l4b
          rw [if_neg (by decide)]
      refine ⟨s1, ?_, by omega, a2, ?_⟩
      · show Copies_reckon_l3b (Copies_reckon_l3 f) (nI b) s = _
        unfold Copies_reckon_l3b
        rw [if_neg (nI_pos (by omega)), a1, bS, bS]
        rfl
      · have e : dpB S (rdB S) (nBk S - b) = stB S (rdB S) b (dpB S (rdB S) (nBk S - (b + 1))) := by
          rw [show nBk S - b = (nBk S - (b + 1)) + 1 by omega]
          show stB S (rdB S) (nBk S - 1 - (nBk S - (b + 1))) _ = _
          rw [show nBk S - 1 - (nBk S - (b + 1)) = b by omega]
        rw [e]
        exact stw_8 a3
    · rintro f s ⟨hb, F, K⟩
      refine ⟨s, ?_, F, K⟩
      show Copies_reckon_l3b (Copies_reckon_l3 f) (-1) s = _
      unfold Copies_reckon_l3b
      rw [if_pos (by decide)]
  refine ⟨μ2, ?_, F2, K2⟩
  unfold Copies_reckon
  rw [e1, bS, F1.i 206 (by decide), C.1, sub1, bS, e2, bS]
