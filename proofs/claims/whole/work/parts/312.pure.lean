/-! PURE: bits put together; guess, nearest, lacking, enough, softer -/
def orF (c : Nat → Bool) (b : Nat → Nat) : Nat → Nat
  | 0 => 0
  | k + 1 => if c k = true then orF c b k ||| 2 ^ b k else orF c b k
theorem orF_iff {c : Nat → Bool} {b : Nat → Nat} {t : Nat} : ∀ {n : Nat}, (orF c b n).testBit t = true ↔ ∃ k, k < n ∧ c k = true ∧ b k = t := by
  intro n
  induction n with
  | zero => unfold orF; rw [Nat.zero_testBit]; exact ⟨fun h => absurd h (by decide), fun ⟨k, h, _⟩ => absurd h (Nat.not_lt_zero k)⟩
  | succ n ih =>
    unfold orF
    by_cases h : c n = true
    · rw [if_pos h, Nat.testBit_or, Bool.or_eq_true, ih, Nat.testBit_two_pow, decide_eq_true_iff]
      constructor
      · rintro (⟨k, h1, h2⟩ | h2)
        · exact ⟨k, by omega, h2⟩
        · exact ⟨n, by omega, h, h2⟩
      · rintro ⟨k, h1, h2, h3⟩
        by_cases e : k = n
        · subst e; exact Or.inr h3
        · exact Or.inl ⟨k, by omega, h2, h3⟩
    · rw [if_neg h, ih]
      constructor
      · rintro ⟨k, h1, h2⟩; exact ⟨k, by omega, h2⟩
      · rintro ⟨k, h1, h2, h3⟩
        by_cases e : k = n
        · subst e; exact absurd h2 h
        · exact ⟨k, by omega, h2, h3⟩
theorem bits_eq {a b : Nat} (h : ∀ t, a.testBit t = true ↔ b.testBit t = true) : a = b := by
  apply Nat.eq_of_testBit_eq
  intro t
  have := h t
  cases h1 : a.testBit t <;> cases h2 : b.testBit t <;> simp_all
theorem things_M {S : St} {p : Nat} {ν : Mem} (W : WF S) (R : M_pg S ν) (hp : p < nPg S) : M_thingsOf (nI p) ν = some (nI (sN S 706 0 p)) := by
  have h16 := W.pg.1
  have h12 := W.th.1
  have wp := W.pg.2.1 p hp
  have hm8 := wp.1.2
  have cp := R.2 p hp
  obtain ⟨r, e, hr⟩ : ∃ r, M_thingsOf_l1 (nI p) ν FU (nI 0) (nI 0) = some r ∧ r = nI (orF (fun _ => true) (sN S 703 p) (mT S p)) := by
    refine loopE (fun f v (s : Int32) => M_thingsOf_l1 (nI p) ν f s v) (mT S p) (fun c s => s = nI (orF (fun _ => true) (sN S 703 p) c)) (fun r => r = nI (orF (fun _ => true) (sN S 703 p) (mT S p))) ?_ ?_ (mT S p) 0 (nI 0) FU (by omega) (FU_lt (by omega)) rfl
    · rintro f k s hk rfl
      left
      have t1 := (wp.2.1 k hk).1
      refine ⟨nI (orF (fun _ => true) (sN S 703 p) (k + 1)), ?_, rfl⟩
      show M_thingsOf_l1b (nI p) ν (M_thingsOf_l1 (nI p) ν f) (nI _) (nI k) = _
      unfold M_thingsOf_l1b
      rw [rd_n (by omega) (by decide), cp.1, bS, if_pos ((lt_n (by omega) (by omega)).mpr hk), mul_n, add_n, rd_n (by omega) (by decide), (cp.2.1 k hk).1, bS, bit1 (by omega), or_n, bS, bS, add_n]
      rfl
    · rintro f s rfl
      refine ⟨_, ?_, rfl⟩
      show M_thingsOf_l1b (nI p) ν (M_thingsOf_l1 (nI p) ν f) (nI _) (nI (mT S p)) = _
      unfold M_thingsOf_l1b
      rw [rd_n (by omega) (by decide), cp.1, bS, if_neg (fun q => absurd ((lt_n (by omega) (by omega)).mp q) (by omega))]
  unfold M_thingsOf
  rw [e, bS, hr]
  congr 2
  refine bits_eq fun t => ?_
  rw [orF_iff, wp.2.2.2.1.2 t]
  exact ⟨fun ⟨k, h1, _, h2⟩ => ⟨k, h1, h2⟩, fun ⟨k, h1, h2⟩ => ⟨k, h1, rfl, h2⟩⟩
theorem left_M {S : St} {p : Nat} {ν : Mem} (W : WF S) (R : M_pg S ν) (hp : p < nPg S) : M_leftOut (nI p) ν = some (nI (sN S 707 0 p)) := by
  have h16 := W.pg.1
  have h12 := W.th.1
  have wp := W.pg.2.1 p hp
  have hm8 := wp.1.2
  have cp := R.2 p hp
  obtain ⟨r, e, hr⟩ : ∃ r, M_leftOut_l1 (nI p) ν FU (nI 0) (nI 0) = some r ∧ r = nI (orF (fun k => decide (sN S 704 p k = 0)) (sN S 703 p) (mT S p)) := by
    refine loopE (fun f v (s : Int32) => M_leftOut_l1 (nI p) ν f s v) (mT S p) (fun c s => s = nI (orF (fun k => decide (sN S 704 p k = 0)) (sN S 703 p) c)) (fun r => r = nI (orF (fun k => decide (sN S 704 p k = 0)) (sN S 703 p) (mT S p))) ?_ ?_ (mT S p) 0 (nI 0) FU (by omega) (FU_lt (by omega)) rfl
    · rintro f k s hk rfl
      left
      obtain ⟨t1, t2, -⟩ := wp.2.1 k hk
      refine ⟨nI (orF (fun k => decide (sN S 704 p k = 0)) (sN S 703 p) (k + 1)), ?_, rfl⟩
      show M_leftOut_l1b (nI p) ν (M_leftOut_l1 (nI p) ν f) (nI _) (nI k) = _
      unfold M_leftOut_l1b
      have hu : orF (fun k => decide (sN S 704 p k = 0)) (sN S 703 p) (k + 1) = if decide (sN S 704 p k = 0) = true then orF (fun k => decide (sN S 704 p k = 0)) (sN S 703 p) k ||| 2 ^ sN S 703 p k else orF (fun k => decide (sN S 704 p k = 0)) (sN S 703 p) k := rfl
      rw [rd_n (by omega) (by decide), cp.1, bS, if_pos ((lt_n (by omega) (by omega)).mpr hk), mul_n, add_n, rd_n (by omega) (by decide), (cp.2.1 k hk).2.1, bS]
      by_cases h : sN S 704 p k = 0
      · rw [if_pos ((eq0_n (by omega)).mpr h), rd_n (by omega) (by decide), (cp.2.1 k hk).1, bS, bit1 (by omega), bS, or_n, bS, bS, add_n, hu, if_pos (decide_eq_true h)]
      · rw [if_neg (fun q => h ((eq0_n (by omega)).mp q)), bS, or_n, bS, bS, add_n, hu, if_neg (by simp [h]), Nat.or_zero]
    · rintro f s rfl
      refine ⟨_, ?_, rfl⟩
      show M_leftOut_l1b (nI p) ν (M_leftOut_l1 (nI p) ν f) (nI _) (nI (mT S p)) = _
      unfold M_leftOut_l1b
      rw [rd_n (by omega) (by decide), cp.1, bS, if_neg (fun q => absurd ((lt_n (by omega) (by omega)).mp q) (by omega))]
  unfold M_leftOut
  rw [e, bS, hr]
  congr 2
  refine bits_eq fun t => ?_
  rw [orF_iff, wp.2.2.2.2.1.2 t]
  exact ⟨fun ⟨k, h1, h3, h2⟩ => ⟨k, h1, h2, of_decide_eq_true h3⟩, fun ⟨k, h1, h2, h3⟩ => ⟨k, h1, decide_eq_true h3, h2⟩⟩
/-- a thing's place -/
def plS (S : St) (p t : Nat) : Option Nat := (List.range (mT S p)).find? fun k => decide (sN S 703 p k = t)
theorem plS_some {S : St} {p t k : Nat} (W : WF S) (hp : p < nPg S) (hk : k < mT S p) (h : sN S 703 p k = t) : plS S p t = some k := by
  cases h1 : plS S p t with
  | none =>
    have := List.find?_eq_none.mp h1 k (List.mem_range.mpr hk)
    simp [h] at this
  | some j =>
    have h2 := List.find?_some h1
    have h3 := List.mem_range.mp (List.mem_of_find?_eq_some h1)
    simp at h2
    rw [(W.pg.2.1 p hp).2.2.1 j k h3 hk (h2.trans h.symm)]
theorem plS_none {S : St} {p t : Nat} (h : ∀ k, k < mT S p → ¬ sN S 703 p k = t) : plS S p t = none := by
  apply List.find?_eq_none.mpr
  intro k hk
  simp
  exact h k (List.mem_range.mp hk)
theorem plS_of {S : St} {p t : Nat} {o : Int32} (W : WF S) (hp : p < nPg S) (ht : t < nTh S) (h : plcR S p (nI t) o) : (o = -1 ∧ plS S p t = none) ∨ ∃ k, k < mT S p ∧ o = nI k ∧ sN S 703 p k = t ∧ plS S p t = some k := by
  have h12 := W.th.1
  have wp := W.pg.2.1 p hp
  rcases h with ⟨rfl, h⟩ | ⟨k, hk, rfl, h⟩
  · exact Or.inl ⟨rfl, plS_none fun k hk q => h k hk (by rw [q])⟩
  · have t1 := (wp.2.1 k hk).1
    have : sN S 703 p k = t := ((eq_n (by omega) (by omega)).mp h).symm
    exact Or.inr ⟨k, hk, rfl, this, plS_some W hp hk this⟩
/-! guess -/
def gv (S : St) (p t q : Nat) : Option Nat := match plS S q t with
  | none => none
  | some k => if sN S 711 0 q = sN S 711 0 p ∧ 0 < sN S 704 q k then some ((sN S 704 q k + sN S 705 q k) / 2) else none
def gsN (S : St) (p t : Nat) : Nat → Nat × Nat
  | 0 => (0, 0)
  | q + 1 => match gv S p t q with
    | none => gsN S p t q
    | some v => ((gsN S p t q).1 + 1, (gsN S p t q).2 + v)
theorem gv_bd {S : St} {p t q v : Nat} (W : WF S) (hq : q < nPg S) (h : gv S p t q = some v) : v ≤ 99 := by
  unfold gv at h
  split at h
  · exact nomatch h
  · rename_i k hk
    have h3 := List.mem_range.mp (List.mem_of_find?_eq_some hk)
    obtain ⟨-, w1, w2, -⟩ := (W.pg.2.1 q hq).2.1 k h3
    split at h
    · injection h with h; omega
    · exact nomatch h
theorem gsN_bd {S : St} {p t : Nat} (W : WF S) : ∀ {q : Nat}, q ≤ nPg S → (gsN S p t q).1 ≤ q ∧ (gsN S p t q).2 ≤ 99 * (gsN S p t q).1 := by
  intro q
  induction q with
  | zero => intro _; exact ⟨Nat.le_refl _, Nat.le_refl _⟩
  | succ q ih =>
    intro hq
    obtain ⟨a, b⟩ := ih (by omega)
    unfold gsN
    split
    · exact ⟨by omega, b⟩
    · rename_i v hv
      have := gv_bd W (by omega) hv
      simp only
      omega
def gsI (S : St) (p t : Nat) : Int32 := if (gsN S p t (nPg S)).1 = 0 then -1 else nI ((gsN S p t (nPg S)).2 / (gsN S p t (nPg S)).1)
theorem mean_C {S : St} {p t : Nat} {μ : Mem} (W : WF S) (C : CR S μ) (hp : p < nPg S) (ht : t < nTh S) : Pages_meanTold (nI p) (nI t) μ = some (if (sN S 707 0 p).testBit t = true then gsI S p t else -1) := by
  have h16 := W.pg.1
  have h12 := W.th.1
  have wp := W.pg.2.1 p hp
  have cp := C.pg.2.1 p hp
  unfold Pages_meanTold
  rw [rd_n (by omega) (by decide), cp.2.2.2.1, bS, hbit (by have := wp.2.2.2.2.1.1; omega) (by omega), bS]
  cases hb : (sN S 707 0 p).testBit t with
  | false => rw [if_pos (show nI false.toNat = 0 from rfl)]; rfl
  | true =>
    rw [if_neg (show ¬ nI true.toNat = 0 by decide), if_pos rfl]
    obtain ⟨r, e, hr⟩ : ∃ r, Pages_meanTold_l1 (nI p) (nI t) μ FU (nI 0) (nI 0) (nI 0) = some r ∧ r = (nI (gsN S p t (nPg S)).1, nI (gsN S p t (nPg S)).2) := by
      refine loopE (fun f v (s : Int32 × Int32) => Pages_meanTold_l1 (nI p) (nI t) μ f s.1 s.2 v) (nPg S) (fun c s => s = (nI (gsN S p t c).1, nI (gsN S p t c).2)) (fun r => r = (nI (gsN S p t (nPg S)).1, nI (gsN S p t (nPg S)).2)) ?_ ?_ (nPg S) 0 (nI 0, nI 0) FU (by omega) (FU_lt (by omega)) rfl
      · rintro f q s hq rfl
        left
        have hm8 := (W.pg.2.1 q hq).1.2
        have cq := C.pg.2.1 q hq
        obtain ⟨o, o1, o2⟩ := place_C W C.pg hq (nI t)
        refine ⟨(nI (gsN S p t (q + 1)).1, nI (gsN S p t (q + 1)).2), ?_, rfl⟩
        show Pages_meanTold_l1b (nI p) (nI t) μ (Pages_meanTold_l1 (nI p) (nI t) μ f) (nI (gsN S p t q).1) (nI (gsN S p t q).2) (nI q) = _
        unfold Pages_meanTold_l1b
        rw [C.pg.1, if_pos ((lt_n (by omega) (by omega)).mpr hq), o1, bS]
        have hgs : gsN S p t (q + 1) = match gv S p t q with | none => gsN S p t q | some v => ((gsN S p t q).1 + 1, (gsN S p t q).2 + v) := rfl
        rcases plS_of W hq ht o2 with ⟨rfl, h2⟩ | ⟨k, hk, rfl, h1, h2⟩
        · have hg : gv S p t q = none := by unfold gv; rw [h2]
          rw [hg] at hgs
          rw [hgs, if_pos rfl, bS]
          simp only []
          rw [bS, add_n]
        · obtain ⟨-, w1, w2, -⟩ := (W.pg.2.1 q hq).2.1 k hk
          have w5 := (W.pg.2.1 q hq).2.2.2.2.2.2.2.2
          have w6 := wp.2.2.2.2.2.2.2.2
          rw [if_neg (fun z => (m1_n (by omega)).mp z), rd_n (by omega) (by decide), C.pg.2.2 q (by omega), bS, rd_n (by omega) (by decide), C.pg.2.2 p (by omega), bS]
          by_cases c1 : sN S 711 0 q = sN S 711 0 p
          · rw [if_pos (by rw [c1]), ix_n (by omega) (by decide), bS, rd_n (by omega) (by decide), (cq.2.1 k hk).2.1, bS]
            by_cases c2 : 0 < sN S 704 q k
            · have hg : gv S p t q = some ((sN S 704 q k + sN S 705 q k) / 2) := by unfold gv; rw [h2]; exact if_pos ⟨c1, c2⟩
              rw [hg] at hgs
              rw [hgs, if_pos ((gt0_n (by omega)).mpr c2), add_n, bS, bS, rd_n (by omega) (by decide), (cq.2.1 k hk).2.1, bS, bS, rd_n (by omega) (by decide), (cq.2.1 k hk).2.2, bS, add_n, dv_n (by omega) (by decide) (by decide), bS, add_n, bS, bS]
              simp only []
              rw [bS, add_n]
            · have hg : gv S p t q = none := by unfold gv; rw [h2]; exact if_neg (fun z => c2 z.2)
              rw [hg] at hgs
              rw [hgs, if_neg (fun z => c2 ((gt0_n (by omega)).mp z)), bS]
              simp only []
              rw [bS, add_n]
          · have hg : gv S p t q = none := by unfold gv; rw [h2]; exact if_neg (fun z => c1 z.1)
            rw [hg] at hgs
            rw [hgs, if_neg (fun z => c1 ((eq_n (by omega) (by omega)).mp z)), bS]
            simp only []
            rw [bS, add_n]
      · rintro f s rfl
        refine ⟨_, ?_, rfl⟩
        show Pages_meanTold_l1b (nI p) (nI t) μ (Pages_meanTold_l1 (nI p) (nI t) μ f) _ _ (nI (nPg S)) = _
        unfold Pages_meanTold_l1b
        rw [C.pg.1, if_neg (fun q => absurd ((lt_n (by omega) (by omega)).mp q) (by omega))]
    obtain ⟨b1, b2⟩ := gsN_bd (p := p) (t := t) W (Nat.le_refl (nPg S))
    rw [e, bS, hr]
    simp only []
    unfold gsI
    by_cases h0 : (gsN S p t (nPg S)).1 = 0
    · rw [if_neg (fun z => absurd ((gt0_n (by omega)).mp z) (by omega)), if_pos h0]
    · rw [if_pos ((gt0_n (by omega)).mpr (by omega)), if_neg h0, dv_n (by omega) (by omega) (by omega), bS]
theorem guess_M {S : St} {p t : Nat} {ν : Mem} (W : WF S) (R : MR S ν) (hp : p < nPg S) (ht : t < nTh S) (hb : (sN S 707 0 p).testBit t = true) : M_guessOf (nI p) (nI t) ν = some (gsI S p t) := by
  have h16 := W.pg.1
  have h12 := W.th.1
  have wp := W.pg.2.1 p hp
  have hself : gv S p t p = none := by
    obtain ⟨k, hk, h1, h2⟩ := (wp.2.2.2.2.1.2 t).mp hb
    unfold gv
    rw [plS_some W hp hk h1]
    exact if_neg (fun z => by omega)
  obtain ⟨r, e, hr⟩ : ∃ r, M_guessOf_l1 (nI p) (nI t) ν FU (nI 0) (nI 0) (nI 0) = some r ∧ r = (nI (gsN S p t (nPg S)).2, nI (gsN S p t (nPg S)).1) := by
    refine loopE (fun f v (s : Int32 × Int32) => M_guessOf_l1 (nI p) (nI t) ν f s.1 s.2 v) (nPg S) (fun c s => s = (nI (gsN S p t c).2, nI (gsN S p t c).1)) (fun r => r = (nI (gsN S p t (nPg S)).2, nI (gsN S p t (nPg S)).1)) ?_ ?_ (nPg S) 0 (nI 0, nI 0) FU (by omega) (FU_lt (by omega)) rfl
    · rintro f q s hq rfl
      left
      have hm8 := (W.pg.2.1 q hq).1.2
      have cq := R.pg.2 q hq
      obtain ⟨o, o1, o2⟩ := place_M W R.pg hq (nI t)
      refine ⟨(nI (gsN S p t (q + 1)).2, nI (gsN S p t (q + 1)).1), ?_, rfl⟩
      show M_guessOf_l1b (nI p) (nI t) ν (M_guessOf_l1 (nI p) (nI t) ν f) (nI (gsN S p t q).2) (nI (gsN S p t q).1) (nI q) = _
      unfold M_guessOf_l1b
      rw [R.pg.1, if_pos ((lt_n (by omega) (by omega)).mpr hq), o1, bS]
      have hgs : gsN S p t (q + 1) = match gv S p t q with | none => gsN S p t q | some v => ((gsN S p t q).1 + 1, (gsN S p t q).2 + v) := rfl
      by_cases hqp : q = p
      · rw [hqp] at hgs ⊢
        rw [hself] at hgs
        rw [hgs, if_pos rfl, bS]
        simp only []
        rw [bS, add_n]
      · have w5 := (W.pg.2.1 q hq).2.2.2.2.2.2.2.2
        have w6 := wp.2.2.2.2.2.2.2.2
        rw [if_neg (fun z => hqp ((eq_n (by omega) (by omega)).mp z)), rd_n (by omega) (by decide), cq.2.2.2.2, bS, rd_n (by omega) (by decide), (R.pg.2 p hp).2.2.2.2, bS]
        rcases plS_of W hq ht o2 with ⟨rfl, h2⟩ | ⟨k, hk, rfl, h1, h2⟩
        · have hg : gv S p t q = none := by unfold gv; rw [h2]
          rw [hg] at hgs
          by_cases c1 : sN S 711 0 q = sN S 711 0 p
          · rw [hgs, if_pos (by rw [c1]), if_pos rfl, bS]
            simp only []
            rw [bS, add_n]
          · rw [hgs, if_neg (fun z => c1 ((eq_n (by omega) (by omega)).mp z)), bS]
            simp only []
            rw [bS, add_n]
        · obtain ⟨-, w1, w2, -⟩ := (W.pg.2.1 q hq).2.1 k hk
          by_cases c1 : sN S 711 0 q = sN S 711 0 p
          · rw [if_pos (by rw [c1]), if_neg (fun z => (m1_n (by omega)).mp z), mul_n, add_n, rd_n (by omega) (by decide), (cq.2.1 k hk).2.1, bS]
            by_cases c2 : 0 < sN S 704 q k
            · have hg : gv S p t q = some ((sN S 704 q k + sN S 705 q k) / 2) := by unfold gv; rw [h2]; exact if_pos ⟨c1, c2⟩
              rw [hg] at hgs
              rw [hgs, if_pos ((gt0_n (by omega)).mpr c2), bS, rd_n (by omega) (by decide), (cq.2.1 k hk).2.2, bS, add_n, dv_n (by omega) (by decide) (by decide), bS, add_n, bS, add_n, bS, bS]
              simp only []
              rw [bS, add_n]
            · have hg : gv S p t q = none := by unfold gv; rw [h2]; exact if_neg (fun z => c2 z.2)
              rw [hg] at hgs
              rw [hgs, if_neg (fun z => c2 ((gt0_n (by omega)).mp z)), bS]
              simp only []
              rw [bS, add_n]
          · have hg : gv S p t q = none := by unfold gv; rw [h2]; exact if_neg (fun z => c1 z.1)
            rw [hg] at hgs
            rw [hgs, if_neg (fun z => c1 ((eq_n (by omega) (by omega)).mp z)), bS]
            simp only []
            rw [bS, add_n]
    · rintro f s rfl
      refine ⟨_, ?_, rfl⟩
      show M_guessOf_l1b (nI p) (nI t) ν (M_guessOf_l1 (nI p) (nI t) ν f) _ _ (nI (nPg S)) = _
      unfold M_guessOf_l1b
      rw [R.pg.1, if_neg (fun q => absurd ((lt_n (by omega) (by omega)).mp q) (by omega))]
  obtain ⟨b1, b2⟩ := gsN_bd (p := p) (t := t) W (Nat.le_refl (nPg S))
  unfold M_guessOf
  rw [e, bS, hr]
  simp only []
  unfold gsI
  by_cases h0 : (gsN S p t (nPg S)).1 = 0
  · rw [if_pos ((eq0_n (by omega)).mpr h0), if_pos h0]
  · rw [if_neg (fun z => h0 ((eq0_n (by omega)).mp z)), if_neg h0, dv_n (by omega) (by omega) (by omega), bS]
theorem q_guess (x y : Int32) : CmdP (B_guess x y) (M_guess x y) := by
  intro S μ ν W C R
  unfold B_guess M_guess
  rcases pg_arg W x with hx | ⟨p, hp, rfl⟩
  · rw [hasP0 C hx, isP0 W R hx, bS, bS, if_pos (by decide), if_pos (by decide)]; exact ⟨_, rfl, rfl⟩
  · have h12 := W.th.1
    rw [hasP1 W C hp, isP1 W R hp, bS, bS, if_neg (by decide), if_neg (by decide)]
    rcases th_arg W y with hy | ⟨t, ht, rfl⟩
    · rw [hasT0 C hy, isT0 W R hy, bS, bS, if_pos (by decide), if_pos (by decide)]; exact ⟨_, rfl, rfl⟩
    · rw [hasT1 W C ht, isT1 W R ht, bS, bS, if_neg (by decide), if_neg (by decide), mean_C W C hp ht, bS, left_M W R.pg hp, bS, mhas (by have := (W.pg.2.1 p hp).2.2.2.2.1.1; omega) (by omega), bS]
      cases hb : (sN S 707 0 p).testBit t with
      | false => rw [if_pos (show nI false.toNat = 0 from rfl), if_neg (by decide)]; exact ⟨_, rfl, rfl⟩
      | true => rw [if_neg (show ¬ nI true.toNat = 0 by decide), if_pos rfl, guess_M W R hp ht hb, bS]; exact ⟨_, rfl, rfl⟩
/-! nearest -/
def gsK (S : St) (p k : Nat) : Int32 := if sN S 704 p k = 0 then gsI S p (sN S 703 p k) else -1
theorem gsI_n {S : St} {p t : Nat} (W : WF S) : gsI S p t = -1 ∨ ∃ g, g ≤ 99 ∧ gsI S p t = nI g := by
  obtain ⟨b1, b2⟩ := gsN_bd (p := p) (t := t) W (Nat.le_refl (nPg S))
  unfold gsI
  by_cases h0 : (gsN S p t (nPg S)).1 = 0
  · exact Or.inl (if_pos h0)
  · exact Or.inr ⟨_, Nat.div_le_of_le_mul (by rw [Nat.mul_comm]; exact b2), if_neg h0⟩
theorem gsK_n {S : St} {p k : Nat} (W : WF S) : gsK S p k = -1 ∨ ∃ g, g ≤ 99 ∧ gsK S p k = nI g := by
  unfold gsK
  split
  · exact gsI_n W
  · exact Or.inl rfl
def anyG (S : St) (p : Nat) : Nat → Nat
  | 0 => 0
  | k + 1 => if gsK S p k = -1 then anyG S p k else 1
theorem anyG_le {S : St} {p : Nat} : ∀ k, anyG S p k ≤ 1 := by
  intro k
  induction k with
  | zero => exact Nat.zero_le _
  | succ k ih => unfold anyG; split <;> omega
theorem left_bit {S : St} {p k : Nat} (W : WF S) (hp : p < nPg S) (hk : k < mT S p) : (sN S 707 0 p).testBit (sN S 703 p k) = decide (sN S 704 p k = 0) := by
  have wp := W.pg.2.1 p hp
  by_cases h : sN S 704 p k = 0
  · rw [(wp.2.2.2.2.1.2 _).mpr ⟨k, hk, rfl, h⟩, decide_eq_true h]
  · rw [decide_eq_false h]
    cases hb : (sN S 707 0 p).testBit (sN S 703 p k) with
    | false => rfl
    | true =>
      obtain ⟨j, hj, h1, h2⟩ := (wp.2.2.2.2.1.2 _).mp hb
      rw [wp.2.2.1 j k hj hk h1] at h2
      exact absurd h2 h
def difN (a b : Nat) : Nat := if a ≤ b then b - a else a - b
theorem jAbs_n {a b : Nat} (ha : a < 1000000) (hb : b < 1000000) : jAbs (nI a - nI b) = nI (difN a b) := by
  unfold jAbs difN
  have h1 := pk_sub_toInt (a := a) (b := b) (by omega) (by omega)
  by_cases h : a ≤ b
  · rw [if_pos h]
    by_cases e : a = b
    · subst e; rw [sub_n (Nat.le_refl _), Nat.sub_self]; rfl
    · rw [if_neg (by rw [Int32.le_iff_toInt_le, h1, i0]; omega), ← sub_n h]
      rw [Int32.zero_sub, Int32.neg_sub]
  · rw [if_neg h, if_pos (by rw [Int32.le_iff_toInt_le, h1, i0]; omega), sub_n (by omega)]
def offN (S : St) (p d : Nat) : Nat → Nat
  | 0 => 0
  | k + 1 => if gsK S p k = -1 then offN S p d k else offN S p d k + difN (prtP S p d k) (nv (gsK S p k))
theorem offN_le {S : St} {p d : Nat} (W : WF S) (hp : p < nPg S) : ∀ {k : Nat}, k ≤ mT S p → offN S p d k ≤ 99 * k := by
  intro k
  induction k with
  | zero => intro _; exact Nat.le_refl _
  | succ k ih =>
    intro hk
    have := ih (by omega)
    unfold offN
    rcases gsK_n (p := p) (k := k) W with h | ⟨g, hg, h⟩
    · rw [if_pos h]; omega
    · have h2 := (prt_bd W d hp (show k < mT S p by omega)).2
      rw [if_neg (by rw [h]; exact fun q => (m1_n (by omega)).mp q), h, nv_nI (by omega)]
      unfold difN
      split <;> omega
def GsC (S : St) (p : Nat) (μ : Mem) : Prop := ∀ k, k < mT S p → mI μ 1105 0 k = gsK S p k
def GsM (S : St) (p : Nat) (ν : Mem) : Prop := ∀ k, k < mT S p → mI ν 1379 0 k = gsK S p k
theorem off_C {S : St} {p d : Nat} {μ : Mem} (W : WF S) (hO : On S p μ) (hS : Shw S p d μ) (hG : GsC S p μ) : Taster_offGuesses (nI p) μ = some (nI (offN S p d (mT S p))) := by
  have h16 := W.pg.1
  have hp := hO.2.1
  have wp := W.pg.2.1 p hp
  have hm8 := wp.1.2
  have cp := hO.1.pg.2.1 p hp
  obtain ⟨r, e, hr⟩ : ∃ r, Taster_offGuesses_l1 (nI p) μ FU (nI 0) (nI 0) = some r ∧ r = nI (offN S p d (mT S p)) := by
    refine loopE (fun f v (s : Int32) => Taster_offGuesses_l1 (nI p) μ f s v) (mT S p) (fun c s => s = nI (offN S p d c)) (fun r => r = nI (offN S p d (mT S p))) ?_ ?_ (mT S p) 0 (nI 0) FU (by omega) (FU_lt (by omega)) rfl
    · rintro f k s hk rfl
      left
      have h2 := (prt_bd W d hp hk).2
      refine ⟨nI (offN S p d (k + 1)), ?_, rfl⟩
      show Taster_offGuesses_l1b (nI p) μ (Taster_offGuesses_l1 (nI p) μ f) (nI _) (nI k) = _
      unfold Taster_offGuesses_l1b
      have hu : offN S p d (k + 1) = if gsK S p k = -1 then offN S p d k else offN S p d k + difN (prtP S p d k) (nv (gsK S p k)) := rfl
      rw [rd_n (by omega) (by decide), cp.1, bS, if_pos ((lt_n (by omega) (by omega)).mpr hk), rd_n (by omega) (by decide), hG k hk, bS, hu]
      rcases gsK_n (p := p) (k := k) W with h | ⟨g, hg, h⟩
      · rw [if_pos h, if_pos h, bS, bS, add_n]
      · have hn : ¬ gsK S p k = -1 := by rw [h]; exact fun q => (m1_n (by omega)).mp q
        rw [if_neg hn, if_neg hn, rd_n (by omega) (by decide), hS.1 k hk, bS, bS, h, jAbs_n (by omega) (by omega), add_n, bS, bS, bS, add_n, nv_nI (by omega)]
    · rintro f s rfl
      refine ⟨_, ?_, rfl⟩
      show Taster_offGuesses_l1b (nI p) μ (Taster_offGuesses_l1 (nI p) μ f) (nI _) (nI (mT S p)) = _
      unfold Taster_offGuesses_l1b
      rw [rd_n (by omega) (by decide), cp.1, bS, if_neg (fun q => absurd ((lt_n (by omega) (by omega)).mp q) (by omega))]
  unfold Taster_offGuesses
  rw [e, bS, hr]
theorem off_M {S : St} {p d : Nat} {ν : Mem} {a2 a3 a4 a5 : Int32} (W : WF S) (R : MR S ν) (hp : p < nPg S) (hW : ∀ k, k < mT S p → mI ν 1340 0 k = nI (prtP S p d k)) (hG : GsM S p ν) : M_nearest_l3 (nI p) a2 a3 a4 a5 ν FU (nI 0) (nI 0) = some (nI (offN S p d (mT S p))) := by
  have h16 := W.pg.1
  have wp := W.pg.2.1 p hp
  have hm8 := wp.1.2
  have cp := R.pg.2 p hp
  obtain ⟨r, e, hr⟩ : ∃ r, M_nearest_l3 (nI p) a2 a3 a4 a5 ν FU (nI 0) (nI 0) = some r ∧ r = nI (offN S p d (mT S p)) := by
    refine loopE (fun f v (s : Int32) => M_nearest_l3 (nI p) a2 a3 a4 a5 ν f s v) (mT S p) (fun c s => s = nI (offN S p d c)) (fun r => r = nI (offN S p d (mT S p))) ?_ ?_ (mT S p) 0 (nI 0) FU (by omega) (FU_lt (by omega)) rfl
    · rintro f k s hk rfl
      left
      have h2 := (prt_bd W d hp hk).2
      refine ⟨nI (offN S p d (k + 1)), ?_, rfl⟩
      show M_nearest_l3b (nI p) a2 a3 a4 a5 ν (M_nearest_l3 (nI p) a2 a3 a4 a5 ν f) (nI _) (nI k) = _
      unfold M_nearest_l3b
      have hu : offN S p d (k + 1) = if gsK S p k = -1 then offN S p d k else offN S p d k + difN (prtP S p d k) (nv (gsK S p k)) := rfl
      rw [rd_n (by omega) (by decide), cp.1, bS, if_pos ((lt_n (by omega) (by omega)).mpr hk), rd_n (by omega) (by decide), hG k hk, bS, hu]
      rcases gsK_n (p := p) (k := k) W with h | ⟨g, hg, h⟩
      · rw [if_pos h, if_pos h, bS, add_n, bS, bS, add_n, Nat.add_zero]
      · have hn : ¬ gsK S p k = -1 := by rw [h]; exact fun q => (m1_n (by omega)).mp q
        rw [if_neg hn, if_neg hn, rd_n (by omega) (by decide), hW k hk, bS, bS, h, jAbs_n (by omega) (by omega), bS, add_n, bS, bS, add_n, nv_nI (by omega)]
    · rintro f s rfl
      refine ⟨_, ?_, rfl⟩
      show M_nearest_l3b (nI p) a2 a3 a4 a5 ν (M_nearest_l3 (nI p) a2 a3 a4 a5 ν f) (nI _) (nI (mT S p)) = _
      unfold M_nearest_l3b
      rw [rd_n (by omega) (by decide), cp.1, bS, if_neg (fun q => absurd ((lt_n (by omega) (by omega)).mp q) (by omega))]
  rw [e, hr]
theorem gs1_C {S : St} {p : Nat} {μ0 : Mem} (W : WF S) (hO : On S p μ0) : ∃ μ', Taster_leastOff_l1 (nI p) FU (nI 0) (nI 0) μ0 = some (nI (anyG S p (mT S p)), μ') ∧ On S p μ' ∧ GsC S p μ' := by
  have h16 := W.pg.1
  have hp := hO.2.1
  have wp := W.pg.2.1 p hp
  have hm8 := wp.1.2
  obtain ⟨⟨r, μ1⟩, e, h1, h2, h3⟩ : ∃ r, Taster_leastOff_l1 (nI p) FU (nI 0) (nI 0) μ0 = some r ∧ r.1 = nI (anyG S p (mT S p)) ∧ On S p r.2 ∧ GsC S p r.2 := by
    refine loopE (fun f v (s : Int32 × Mem) => Taster_leastOff_l1 (nI p) f s.1 v s.2) (mT S p) (fun c s => s.1 = nI (anyG S p c) ∧ On S p s.2 ∧ ∀ k, k < c → mI s.2 1105 0 k = gsK S p k) (fun r => r.1 = nI (anyG S p (mT S p)) ∧ On S p r.2 ∧ GsC S p r.2) ?_ ?_ (mT S p) 0 (nI 0, μ0) FU (by omega) (FU_lt (by omega)) ⟨rfl, hO, fun k h => absurd h (by omega)⟩
    · rintro f k ⟨s, μ⟩ hk ⟨hs, hO, hG⟩
      simp only at hs hO hG
      subst hs
      left
      have cp := hO.1.pg.2.1 p hp
      have t1 := (wp.2.1 k hk).1
      have hal := anyG_le (S := S) (p := p) k
      have hg : (if (sN S 707 0 p).testBit (sN S 703 p k) = true then gsI S p (sN S 703 p k) else -1) = gsK S p k := by
        rw [left_bit W hp hk]
        unfold gsK
        by_cases h : sN S 704 p k = 0
        · rw [if_pos (decide_eq_true h), if_pos h]
        · rw [if_neg (by simp [h]), if_neg h]
      refine ⟨(nI (anyG S p (k + 1)), mSI μ 1105 0 k (gsK S p k)), ?_, rfl, hO.fr (W := [1105]) (fr_si (by simp) Fr.refl) (by decide), fun j hj => ?_⟩
      · show Taster_leastOff_l1b (nI p) (Taster_leastOff_l1 (nI p) f) (nI _) (nI k) μ = _
        unfold Taster_leastOff_l1b
        have hu : anyG S p (k + 1) = if gsK S p k = -1 then anyG S p k else 1 := rfl
        rw [rd_n (by omega) (by decide), cp.1, bS, if_pos ((lt_n (by omega) (by omega)).mpr hk), ix_n (by omega) (by decide), bS, rd_n (by omega) (by decide), (cp.2.1 k hk).1, bS, mean_C W hO.1 hp t1, hg, bS, wr_n (by omega) (by decide), bS, rd_n (by omega) (by decide), iS_eq, bS, hu]
        by_cases ha : anyG S p k = 0
        · rw [ha, if_pos (show nI 0 = 0 from rfl)]
          by_cases h : gsK S p k = -1
          · rw [if_pos h, if_pos h, bS, bS, add_n]
          · rw [if_neg h, if_neg h, bS, bS, add_n]
        · rw [show anyG S p k = 1 by omega, if_neg (show ¬ nI 1 = 0 by decide), bS, bS, add_n]
          split <;> rfl
      · by_cases e : j = k
        · subst e; exact iS_eq
        · exact (iS_c e).trans (hG j (by omega))
    · rintro f ⟨s, μ⟩ ⟨hs, hO, hG⟩
      refine ⟨(s, μ), ?_, hs, hO, hG⟩
      show Taster_leastOff_l1b (nI p) (Taster_leastOff_l1 (nI p) f) s (nI (mT S p)) μ = _
      unfold Taster_leastOff_l1b
      rw [rd_n (by omega) (by decide), (hO.1.pg.2.1 p hp).1, bS, if_neg (fun q => absurd ((lt_n (by omega) (by omega)).mp q) (by omega))]
  simp only at h1 h2 h3
  subst h1
  exact ⟨μ1, e, h2, h3⟩
theorem gs1_M {S : St} {p : Nat} {ν0 : Mem} (W : WF S) (R : MR S ν0) (hF : Fnd S p ν0) (hp : p < nPg S) : ∃ ν', M_nearest_l1 (nI p) FU (nI 0) (nI 0) ν0 = some (nI (anyG S p (mT S p)), ν') ∧ MR S ν' ∧ Fnd S p ν' ∧ GsM S p ν' := by
  have h16 := W.pg.1
  have wp := W.pg.2.1 p hp
  have hm8 := wp.1.2
  obtain ⟨⟨r, ν1⟩, e, h1, h2, h3⟩ : ∃ r, M_nearest_l1 (nI p) FU (nI 0) (nI 0) ν0 = some r ∧ r.1 = nI (anyG S p (mT S p)) ∧ Fr [1379] ν0 r.2 ∧ GsM S p r.2 := by
    refine loopE (fun f v (s : Int32 × Mem) => M_nearest_l1 (nI p) f s.1 v s.2) (mT S p) (fun c s => s.1 = nI (anyG S p c) ∧ Fr [1379] ν0 s.2 ∧ ∀ k, k < c → mI s.2 1379 0 k = gsK S p k) (fun r => r.1 = nI (anyG S p (mT S p)) ∧ Fr [1379] ν0 r.2 ∧ GsM S p r.2) ?_ ?_ (mT S p) 0 (nI 0, ν0) FU (by omega) (FU_lt (by omega)) ⟨rfl, Fr.refl, fun k h => absurd h (by omega)⟩
    · rintro f k ⟨s, ν⟩ hk ⟨hs, F, hG⟩
      simp only at hs F hG
      subst hs
      left
      have R1 := R.fr F (by decide)
      have cp := R1.pg.2 p hp
      obtain ⟨t1, t2, -⟩ := wp.2.1 k hk
      have hal := anyG_le (S := S) (p := p) k
      have hx : (if nI (sN S 704 p k) = 0 then ((mRd ν 1316 0 136 (nI (8 * p + k))).bind fun x3 => (M_guessOf (nI p) x3 ν).bind fun x4 => some x4) else some ((-1) : Int32)) = some (gsK S p k) := by
        unfold gsK
        by_cases h : sN S 704 p k = 0
        · rw [if_pos ((eq0_n (by omega)).mpr h), if_pos h, rd_n (by omega) (by decide), (cp.2.1 k hk).1, bS, guess_M W R1 hp t1 (by rw [left_bit W hp hk, decide_eq_true h]), bS]
        · rw [if_neg (fun q => h ((eq0_n (by omega)).mp q)), if_neg h]
      refine ⟨(nI (anyG S p (k + 1)), mSI ν 1379 0 k (gsK S p k)), ?_, rfl, fr_si (by simp) F, fun j hj => ?_⟩
      · show M_nearest_l1b (nI p) (M_nearest_l1 (nI p) f) (nI (anyG S p k)) (nI k) ν = _
        unfold M_nearest_l1b
        have hu : anyG S p (k + 1) = if gsK S p k = -1 then anyG S p k else 1 := rfl
        rw [rd_n (by omega) (by decide), cp.1, bS, if_pos ((lt_n (by omega) (by omega)).mpr hk), mul_n, add_n, rd_n (by omega) (by decide), (cp.2.1 k hk).2.1, bS, hx, bS, wr_n (by omega) (by decide), bS, rd_n (by omega) (by decide), iS_eq, bS, hu]
        by_cases ha : anyG S p k = 0
        · rw [ha, if_pos (show nI 0 = 0 from rfl)]
          by_cases h : gsK S p k = -1
          · rw [if_pos h, if_pos h, bS, bS, add_n]
          · rw [if_neg h, if_neg h, bS, bS, add_n]
        · rw [show anyG S p k = 1 by omega, if_neg (show ¬ nI 1 = 0 by decide), bS, bS, add_n]
          split <;> rfl
      · by_cases e : j = k
        · subst e; exact iS_eq
        · exact (iS_c e).trans (hG j (by omega))
    · rintro f ⟨s, ν⟩ ⟨hs, F, hG⟩
      refine ⟨(s, ν), ?_, hs, F, hG⟩
      show M_nearest_l1b (nI p) (M_nearest_l1 (nI p) f) s (nI (mT S p)) ν = _
      unfold M_nearest_l1b
      rw [rd_n (by omega) (by decide), F.i 1315 (by decide), (R.pg.2 p hp).1, bS, if_neg (fun q => absurd ((lt_n (by omega) (by omega)).mp q) (by omega))]
  simp only at h1 h2 h3
  subst h1
  exact ⟨ν1, e, R.fr h2 (by decide), ⟨by rw [h2.i 1342 (by decide)]; exact hF.1, by rw [h2.i 1341 (by decide)]; exact hF.2⟩, h3⟩
theorem q_nearest (x : Int32) : Cmd (B_nearest x) (M_nearest x) := by
  intro S μ ν W C R
  unfold B_nearest M_nearest
  rcases pg_arg W x with hx | ⟨p, hp, rfl⟩
  · rw [laid_out C hx, told_out W R hx, bS, bS]; simp only []; rw [if_neg (by decide), if_pos (by decide)]; exact ⟨_, _, _, rfl, rfl, C, R⟩
  · obtain ⟨μ1, a1, a2, -⟩ := laid_eq W C hp
    have hm8 := (W.pg.2.1 p hp).1.2
    rw [a1, bS]
    simp only []
    by_cases ht : told S p
    · obtain ⟨ν1, b1, b2, b3, -⟩ := told_yes W R hp ht
      have h5 := dl_le ht
      obtain ⟨ν2, c1, c2, c3, c4⟩ := gs1_M W b2 b3 hp
      have hal := anyG_le (S := S) (p := p) (mT S p)
      rw [cnt_told ht, b1, bS]
      simp only []
      rw [if_neg (c := nI 1 = 0) (by decide), c1, bS]
      simp only []
      have hend : ∀ f acc1 acc2 ν, Fnd S p ν → M_nearest_l2b (nI p) (nI (anyG S p (mT S p))) (M_nearest_l2 (nI p) (nI (anyG S p (mT S p))) f) acc1 acc2 (nI (dl S p).length) ν = some (acc1, ν) := by
        intro f acc1 acc2 ν hF
        unfold M_nearest_l2b
        rw [hF.1, if_neg (fun q => absurd ((lt_n (by omega) (by omega)).mp q) (by omega))]
      by_cases h0 : 0 < (dl S p).length
      · rw [if_pos ((gt0_n (by omega)).mpr h0)]
        obtain ⟨μ2, d1, d2, d3⟩ := gs1_C W a2
        unfold Taster_leastOff
        rw [d1, bS]
        simp only []
        by_cases ha : anyG S p (mT S p) = 0
        · obtain ⟨g, hg, hg2⟩ := FU_g
          obtain ⟨g, rfl⟩ : ∃ h, g = h + 1 := ⟨g - 1, by omega⟩
          rw [ha, hg]
          have e1 : Taster_leastOff_l2 (nI p) (nI 0) (g + 1) (-1) (nI 2147483647) (nI 0) μ2 = some (-1, μ2) := by
            show Taster_leastOff_l2b (nI p) (nI 0) (Taster_leastOff_l2 (nI p) (nI 0) g) _ _ _ _ = _
            unfold Taster_leastOff_l2b
            rw [shown_n W d2 ht, bS, if_pos ((lt_n (by omega) (by omega)).mpr h0), if_pos (show nI 0 = 0 from rfl)]
          have e2 : M_nearest_l2 (nI p) (nI 0) (g + 1) (-1) (nI 0) (nI 0) ν2 = some (-1, ν2) := by
            show M_nearest_l2b (nI p) (nI 0) (M_nearest_l2 (nI p) (nI 0) g) _ _ _ _ = _
            unfold M_nearest_l2b
            rw [c3.1, if_pos ((lt_n (by omega) (by omega)).mpr h0), if_pos (show nI 0 = 0 from rfl)]
          simp only [e1, e2, bS]
          exact ⟨_, _, _, rfl, rfl, d2.1, c2⟩
        · have han : ¬ nI (anyG S p (mT S p)) = 0 := fun q => ha ((eq0_n (by omega)).mp q)
          have hof : ∀ i, offN S p (dx S p i) (mT S p) ≤ 800 := fun i => Nat.le_trans (offN_le W hp (Nat.le_refl _)) (by omega)
          let gC : Nat → Int32 × Int32 → Int32 × Int32 := fun i a => if nI (offN S p (dx S p i) (mT S p)) < a.2 then (nI i, nI (offN S p (dx S p i) (mT S p))) else a
          let gM : Nat → Int32 × Int32 → Int32 × Int32 := fun i a => if a.1 = -1 then (nI i, nI (offN S p (dx S p i) (mT S p))) else if nI (offN S p (dx S p i) (mT S p)) < a.2 then (nI i, nI (offN S p (dx S p i) (mT S p))) else a
          obtain ⟨μ3, e1, e2, -⟩ := C_over (S := S) (p := p) (fun f i (s : (Int32 × Int32) × Mem) => Taster_leastOff_l2 (nI p) (nI (anyG S p (mT S p))) f s.1.1 s.1.2 i s.2) gC (fun a μ => (a.1, μ)) (fun _ _ μ => GsC S p μ) ht (by
            rintro f i ⟨u, v⟩ μ hi hd hO hJ
            obtain ⟨μ1, c1, c2, c3, c4⟩ := show_eq W hO ht hd
            have hJ1 : GsC S p μ1 := fun k hk => by rw [c4.i 1105 (by decide)]; exact hJ k hk
            refine ⟨μ1, ?_, c2, hJ1⟩
            show Taster_leastOff_l2b (nI p) (nI (anyG S p (mT S p))) (Taster_leastOff_l2 (nI p) (nI (anyG S p (mT S p))) f) u v (nI i) μ = _
            unfold Taster_leastOff_l2b
            rw [shown_n W hO ht, bS, if_pos ((lt_n (by omega) (by omega)).mpr hi), if_neg han, c1, bS, off_C W c2 c3 hJ1, bS]
            by_cases q : nI (offN S p (dx S p i) (mT S p)) < v
            · rw [if_pos q, bS]; simp only [gC, if_pos q]; rw [bS, add_n]
            · rw [if_neg q, bS]; simp only [gC, if_neg q]; rw [bS, add_n]) (by
            rintro f ⟨u, v⟩ μ hO
            show Taster_leastOff_l2b (nI p) (nI (anyG S p (mT S p))) (Taster_leastOff_l2 (nI p) (nI (anyG S p (mT S p))) f) u v (nI _) μ = _
            unfold Taster_leastOff_l2b
            rw [shown_n W hO ht, bS, if_neg (fun q => absurd ((lt_n (by omega) (by omega)).mp q) (by omega))]) (k := 0) (acc := (-1, nI 2147483647)) (Nat.zero_le _) d2 d3
          obtain ⟨ν3, f1, f2, -, -⟩ := M_over (S := S) (p := p) (fun f i (s : (Int32 × Int32) × Mem) => M_nearest_l2 (nI p) (nI (anyG S p (mT S p))) f s.1.1 s.1.2 i s.2) gM (fun a μ => (a.1, μ)) (fun _ _ ν => GsM S p ν) ht (by
            rintro f i ⟨u, v⟩ ν hi hd hR hF hJ
            obtain ⟨c0, ν1, c1, c2, c3, c5, c4⟩ := layi_M W hR hp ht hF hd
            have hJ1 : GsM S p ν1 := fun k hk => by rw [c4.i 1379 (by decide)]; exact hJ k hk
            refine ⟨ν1, ?_, c2, c3, hJ1⟩
            show M_nearest_l2b (nI p) (nI (anyG S p (mT S p))) (M_nearest_l2 (nI p) (nI (anyG S p (mT S p))) f) u v (nI i) ν = _
            unfold M_nearest_l2b
            rw [hF.1, if_pos ((lt_n (by omega) (by omega)).mpr hi), if_neg han, c0, bS, c1, bS, off_M W c2 hp c5 hJ1, bS]
            by_cases q0 : u = -1
            · rw [if_pos q0, bS]; simp only [gM, if_pos q0]; rw [bS, add_n]
            · rw [if_neg q0]
              by_cases q : nI (offN S p (dx S p i) (mT S p)) < v
              · rw [if_pos q, bS]; simp only [gM, if_neg q0, if_pos q]; rw [bS, add_n]
              · rw [if_neg q, bS]; simp only [gM, if_neg q0, if_neg q]; rw [bS, add_n]) (by
            rintro f ⟨u, v⟩ ν hR hF
            exact hend f u v ν hF) (k := 0) (acc := (-1, nI 0)) (Nat.zero_le _) c2 c3 c4
          have hg : fo gM 0 ((dl S p).length - 0) (-1, nI 0) = fo gC 0 ((dl S p).length - 0) (-1, nI 2147483647) := by
            rw [Nat.sub_zero, fo_s h0, fo_s h0]
            have hof0 := hof 0
            have e0 : gM 0 (-1, nI 0) = gC 0 (-1, nI 2147483647) := by
              simp only [gM, gC]
              rw [if_pos trivial, if_pos ((lt_n (by omega) (by decide)).mpr (by omega))]
            rw [e0]
            refine (fo_congr (fun i a => i ≤ 5000 → ∃ b, b ≤ 5000 ∧ a.1 = nI b) (fun _ => ⟨0, by omega, ?_⟩) ?_)
            · simp only [gC]
              rw [if_pos ((lt_n (by omega) (by decide)).mpr (by omega))]
            · intro i a h1 h2 h3
              obtain ⟨b, hb, hb2⟩ := h3 (by omega)
              refine ⟨?_, fun _ => ?_⟩
              · simp only [gM, gC]
                rw [if_neg (by rw [hb2]; exact fun q => (m1_n (by omega)).mp q)]
              · simp only [gM]
                rw [if_neg (by rw [hb2]; exact fun q => (m1_n (by omega)).mp q)]
                split
                · exact ⟨i, by omega, rfl⟩
                · exact ⟨b, hb, hb2⟩
          rw [hg] at f1
          simp only [show Taster_leastOff_l2 (nI p) (nI (anyG S p (mT S p))) FU (-1) (nI 2147483647) (nI 0) μ2 = _ from e1, show M_nearest_l2 (nI p) (nI (anyG S p (mT S p))) FU (-1) (nI 0) (nI 0) ν2 = _ from f1, bS]
          exact ⟨_, _, _, rfl, rfl, e2.1, f2⟩
      · rw [if_neg (fun q => h0 ((gt0_n (by omega)).mp q))]
        obtain ⟨g, hg, hg2⟩ := FU_g
        obtain ⟨g, rfl⟩ : ∃ h, g = h + 1 := ⟨g - 1, by omega⟩
        have hl : (dl S p).length = 0 := by omega
        have he := hend g (-1) (nI 0) ν2 c3
        rw [hl] at he
        rw [hg, show M_nearest_l2 (nI p) (nI (anyG S p (mT S p))) (g + 1) (-1) (nI 0) (nI 0) ν2 = _ from he, bS]
        exact ⟨_, _, _, rfl, rfl, a2.1, c2⟩
    · obtain ⟨ν1, b1, b2⟩ := told_not W R hp ht
      rw [cnt_not ht, b1, bS]
      simp only []
      rw [if_neg (by decide), if_pos (by decide)]
      exact ⟨_, _, _, rfl, rfl, a2.1, b2⟩
