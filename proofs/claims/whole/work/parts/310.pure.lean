/-! PURE: shared, weigh -/
theorem in_num {k a b : Nat} (h1 : a ≤ k) (h2 : k ≤ b) (hb : b ≤ 1000000) : M_in (nI k) (nI a) (nI b) = some (nI 1) :=
  in_pos (fun q => absurd ((lt_n (by omega) (by omega)).mp q) (by omega)) (fun q => absurd ((lt_n (by omega) (by omega)).mp q) (by omega))
def cnV (f : Nat → Nat) (v : Nat) : Nat → Nat
  | 0 => 0
  | i + 1 => cnV f v i + (if f i = v then 1 else 0)
def alN (f : Nat → Nat) : Nat → Nat
  | 0 => 0
  | i + 1 => max (alN f i) (cnV f (f i) (i + 1))
theorem cnV_le {f : Nat → Nat} {v : Nat} : ∀ {n : Nat}, cnV f v n ≤ n := by
  intro n
  induction n with
  | zero => exact Nat.le_refl _
  | succ n ih => unfold cnV; split <;> omega
theorem cnV_all {f : Nat → Nat} {v : Nat} : ∀ {n : Nat}, cnV f v n = n ↔ ∀ i, i < n → f i = v := by
  intro n
  induction n with
  | zero => exact ⟨fun _ i h => absurd h (by omega), fun _ => rfl⟩
  | succ n ih =>
    have hl := cnV_le (f := f) (v := v) (n := n)
    show cnV f v n + (if f n = v then 1 else 0) = n + 1 ↔ _
    constructor
    · intro h i hi
      by_cases e : f n = v
      · rw [if_pos e] at h
        by_cases e' : i = n
        · subst e'; exact e
        · exact ih.mp (by omega) i (by omega)
      · rw [if_neg e] at h; omega
    · intro h
      rw [if_pos (h n (by omega)), ih.mpr fun i hi => h i (by omega)]
theorem alN_le {f : Nat → Nat} : ∀ {n : Nat}, alN f n ≤ n := by
  intro n
  induction n with
  | zero => exact Nat.le_refl _
  | succ n ih =>
    have := cnV_le (f := f) (v := f n) (n := n + 1)
    unfold alN
    exact Nat.max_le.mpr ⟨by omega, this⟩
theorem alN_all {f : Nat → Nat} {n : Nat} (h0 : 0 < n) : alN f n = n ↔ ∀ i, i < n → f i = f 0 := by
  obtain ⟨n, rfl⟩ : ∃ m, n = m + 1 := ⟨n - 1, by omega⟩
  have h1 := alN_le (f := f) (n := n)
  have h2 := cnV_le (f := f) (v := f n) (n := n + 1)
  show max (alN f n) (cnV f (f n) (n + 1)) = n + 1 ↔ _
  constructor
  · intro h
    have h3 : cnV f (f n) (n + 1) = n + 1 := by omega
    have h4 := cnV_all.mp h3
    intro i hi
    rw [h4 i hi, h4 0 (by omega)]
  · intro h
    have h3 : cnV f (f n) (n + 1) = n + 1 := cnV_all.mpr fun i hi => by rw [h i hi, h n (by omega)]
    omega
theorem tally_C {S : St} {p k : Nat} {μ0 : Mem} (W : WF S) (hO : On S p μ0) (ht : told S p) (hk : k < mT S p) :
    ∃ μ', Taster_mostAlike (nI k) μ0 = some (nI (alN (pvN S p k) (dl S p).length), μ') ∧ On S p μ' := by
  have h5 := dl_le ht
  have hm8 := (W.pg.2.1 p hO.2.1).1.2
  obtain ⟨μ1, e1, F1, z1⟩ : ∃ r, Taster_mostAlike_l1 (nI k) FU (nI 0) μ0 = some r ∧ Fr [1104] μ0 r ∧ ∀ v, v < 100 → mI r 1104 0 v = nI 0 := by
    refine loopE (fun g v s => Taster_mostAlike_l1 (nI k) g v s) 100 (fun c s => Fr [1104] μ0 s ∧ ∀ i, i < c → mI s 1104 0 i = nI 0) (fun r => Fr [1104] μ0 r ∧ ∀ i, i < 100 → mI r 1104 0 i = nI 0) ?_ ?_ 100 0 μ0 FU rfl (FU_lt (by decide)) ⟨Fr.refl, fun i h => absurd h (by omega)⟩
    · rintro g v μ hv ⟨F, hI⟩
      left
      refine ⟨mSI μ 1104 0 v (nI 0), ?_, fr_si (by simp) F, fun i hi => ?_⟩
      · show Taster_mostAlike_l1b (nI k) (Taster_mostAlike_l1 (nI k) g) (nI v) μ = _
        unfold Taster_mostAlike_l1b
        rw [if_neg (fun q => absurd ((lt_n (by decide) (by omega)).mp q) (by omega)), wr_n hv (by decide), bS, bS, add_n]
      · by_cases e : i = v
        · subst e; exact iS_eq
        · exact (iS_c e).trans (hI i (by omega))
    · rintro g μ ⟨F, hI⟩
      refine ⟨μ, ?_, F, hI⟩
      show Taster_mostAlike_l1b (nI k) (Taster_mostAlike_l1 (nI k) g) (nI 100) μ = _
      unfold Taster_mostAlike_l1b
      rw [if_pos (by decide)]
  have hpv : ∀ i, pvN S p k i < 100 := fun i => Nat.lt_of_le_of_lt (prt_bd W _ hO.2.1 hk).2 (by decide)
  let g : Nat → Int32 → Int32 := fun i a => jMax a (nI (cnV (pvN S p k) (pvN S p k i) (i + 1)))
  obtain ⟨μ2, a1, a2, a3⟩ := C_over (S := S) (p := p) (fun f i (s : Int32 × Mem) => Taster_mostAlike_l2 (nI k) f s.1 i s.2) g (fun a μ => (a, μ)) (fun i _ μ => ∀ v, v < 100 → mI μ 1104 0 v = nI (cnV (pvN S p k) v i)) ht (by
    intro f i acc μ hi hd hO hJ
    have c1 : Pot_partsAt (nI i) (nI k) μ = some (nI (pvN S p k i)) := partsAt_eq W hO ht hd hk
    have hv := hpv i
    have hJ1 : ∀ v, v < 100 → mI μ 1104 0 v = nI (cnV (pvN S p k) v i) := hJ
    have hc : cnV (pvN S p k) (pvN S p k i) (i + 1) = cnV (pvN S p k) (pvN S p k i) i + 1 := by
      show cnV (pvN S p k) (pvN S p k i) i + (if pvN S p k i = pvN S p k i then 1 else 0) = _
      rw [if_pos rfl]
    refine ⟨mSI μ 1104 0 (pvN S p k i) (nI (cnV (pvN S p k) (pvN S p k i) (i + 1))), ?_, hO.fr (W := [1104]) (fr_si (by simp) Fr.refl) (by decide), fun v hv2 => ?_⟩
    · show Taster_mostAlike_l2b (nI k) (Taster_mostAlike_l2 (nI k) f) acc (nI i) μ = _
      unfold Taster_mostAlike_l2b
      rw [shown_n W hO ht, bS, if_pos ((lt_n (by omega) (by omega)).mpr hi), c1, bS, within_in, in_num (Nat.zero_le _) (by omega) (by decide), bS, if_neg (by decide), rd_n hv (by decide), hJ1 _ hv, bS, add_n, ← hc, wr_n hv (by decide), bS, rd_n hv (by decide), iS_eq, bS, bS, bS]
      simp only []
      rw [bS, add_n]
    · show _ = nI (cnV (pvN S p k) v i + (if pvN S p k i = v then 1 else 0))
      by_cases e : pvN S p k i = v
      · rw [← e, iS_eq, if_pos rfl, hc]
      · rw [iS_c (fun q => e q.symm), if_neg e]; exact hJ1 v hv2) (by
    intro f acc μ hO
    show Taster_mostAlike_l2b (nI k) (Taster_mostAlike_l2 (nI k) f) acc (nI _) μ = _
    unfold Taster_mostAlike_l2b
    rw [shown_n W hO ht, bS, if_neg (fun q => absurd ((lt_n (by omega) (by omega)).mp q) (by omega))]) (k := 0) (acc := nI 0) (μ := μ1) (Nat.zero_le _) (hO.fr F1 (by decide)) z1
  have hg : fo g 0 ((dl S p).length - 0) (nI 0) = nI (alN (pvN S p k) (dl S p).length) := by
    have := fo_inv (g := g) (fun i a => i ≤ 5000 → a = nI (alN (pvN S p k) i)) (m := (dl S p).length) (k := 0) (a := nI 0) (fun _ => rfl) (fun i a _ h1 h2 h3 => by
      have q1 := alN_le (f := pvN S p k) (n := i)
      have q2 := cnV_le (f := pvN S p k) (v := pvN S p k i) (n := i + 1)
      rw [h2 (by omega)]
      exact jMax_n (by omega) (by omega))
    rw [Nat.zero_add] at this
    rw [Nat.sub_zero]
    exact this h5
  rw [hg] at a1
  refine ⟨μ2, ?_, a2⟩
  unfold Taster_mostAlike
  rw [e1, bS, show Taster_mostAlike_l2 (nI k) FU (nI 0) (nI 0) μ1 = _ from a1, bS]
theorem alike_M {S : St} {p k : Nat} {ν0 : Mem} (W : WF S) (hR : MR S ν0) (hF : Fnd S p ν0) (hp : p < nPg S) (ht : told S p) (hk : k < mT S p) :
    ∃ ν', M_alike (nI p) (nI k) ν0 = some (nI (alN (pvN S p k) (dl S p).length), ν') ∧ MR S ν' ∧ Fnd S p ν' := by
  have h5 := dl_le ht
  have hm8 := (W.pg.2.1 p hp).1.2
  obtain ⟨ν1, e1, F1, z1⟩ : ∃ r, M_alike_l1 (nI p) (nI k) FU (nI 0) ν0 = some r ∧ Fr [1344] ν0 r ∧ ∀ v, v < 100 → mI r 1344 0 v = nI 0 := by
    refine loopE (fun g v s => M_alike_l1 (nI p) (nI k) g v s) 100 (fun c s => Fr [1344] ν0 s ∧ ∀ i, i < c → mI s 1344 0 i = nI 0) (fun r => Fr [1344] ν0 r ∧ ∀ i, i < 100 → mI r 1344 0 i = nI 0) ?_ ?_ 100 0 ν0 FU rfl (FU_lt (by decide)) ⟨Fr.refl, fun i h => absurd h (by omega)⟩
    · rintro g v μ hv ⟨F, hI⟩
      left
      refine ⟨mSI μ 1344 0 v (nI 0), ?_, fr_si (by simp) F, fun i hi => ?_⟩
      · show M_alike_l1b (nI p) (nI k) (M_alike_l1 (nI p) (nI k) g) (nI v) μ = _
        unfold M_alike_l1b
        rw [if_pos ((lt_n (by omega) (by decide)).mpr hv), wr_n hv (by decide), bS, bS, add_n]
      · by_cases e : i = v
        · subst e; exact iS_eq
        · exact (iS_c e).trans (hI i (by omega))
    · rintro g μ ⟨F, hI⟩
      refine ⟨μ, ?_, F, hI⟩
      show M_alike_l1b (nI p) (nI k) (M_alike_l1 (nI p) (nI k) g) (nI 100) μ = _
      unfold M_alike_l1b
      rw [if_neg (by decide)]
  have hpv : ∀ i, pvN S p k i < 100 := fun i => Nat.lt_of_le_of_lt (prt_bd W _ hp hk).2 (by decide)
  let g : Nat → Int32 → Int32 := fun i a => jMax a (nI (cnV (pvN S p k) (pvN S p k i) (i + 1)))
  obtain ⟨ν2, a1, a2, a3, -⟩ := M_over (S := S) (p := p) (fun f i (s : Int32 × Mem) => M_alike_l2 (nI p) (nI k) f s.1 i s.2) g (fun a μ => (a, μ)) (fun i _ μ => ∀ v, v < 100 → mI μ 1344 0 v = nI (cnV (pvN S p k) v i)) ht (by
    intro f i acc ν hi hd hR hF hJ
    obtain ⟨c0, ν1, c1, c2, c3, c5, c4⟩ := layi_M W hR hp ht hF hd
    have hv := hpv i
    have e1340 : mI ν1 1340 0 k = nI (pvN S p k i) := c5 k hk
    have hJ1 : ∀ v, v < 100 → mI ν1 1344 0 v = nI (cnV (pvN S p k) v i) := by rw [c4.i 1344 (by decide)]; exact hJ
    have hc : cnV (pvN S p k) (pvN S p k i) (i + 1) = cnV (pvN S p k) (pvN S p k i) i + 1 := by
      show cnV (pvN S p k) (pvN S p k i) i + (if pvN S p k i = pvN S p k i then 1 else 0) = _
      rw [if_pos rfl]
    refine ⟨mSI ν1 1344 0 (pvN S p k i) (nI (cnV (pvN S p k) (pvN S p k i) (i + 1))), ?_, c2.fr (W := [1344]) (fr_si (by simp) Fr.refl) (by decide), ⟨(iS_v (by decide)).trans c3.1, fun j d hj => (iS_v (by decide)).trans (c3.2 j d hj)⟩, fun v hv2 => ?_⟩
    · show M_alike_l2b (nI p) (nI k) (M_alike_l2 (nI p) (nI k) f) acc (nI i) ν = _
      unfold M_alike_l2b
      rw [hF.1, if_pos ((lt_n (by omega) (by omega)).mpr hi), c0, bS, c1, bS, rd_n (by omega) (by decide), e1340, bS, rd_n hv (by decide), hJ1 _ hv, bS, add_n, ← hc, wr_n hv (by decide), bS, rd_n (by omega) (by decide), iS_v (by decide), e1340, bS, rd_n hv (by decide), iS_eq, bS, bS, bS, add_n]
    · show _ = nI (cnV (pvN S p k) v i + (if pvN S p k i = v then 1 else 0))
      by_cases e : pvN S p k i = v
      · rw [← e, iS_eq, if_pos rfl, hc]
      · rw [iS_c (fun q => e q.symm), if_neg e]; exact hJ1 v hv2) (by
    intro f acc ν hR hF
    show M_alike_l2b (nI p) (nI k) (M_alike_l2 (nI p) (nI k) f) acc (nI _) ν = _
    unfold M_alike_l2b
    rw [hF.1, if_neg (fun q => absurd ((lt_n (by omega) (by omega)).mp q) (by omega))]) (k := 0) (acc := nI 0) (ν := ν1) (Nat.zero_le _) (hR.fr F1 (by decide)) ⟨by rw [F1.i 1342 (by decide)]; exact hF.1, by rw [F1.i 1341 (by decide)]; exact hF.2⟩ z1
  have hg : fo g 0 ((dl S p).length - 0) (nI 0) = nI (alN (pvN S p k) (dl S p).length) := by
    have := fo_inv (g := g) (fun i a => i ≤ 5000 → a = nI (alN (pvN S p k) i)) (m := (dl S p).length) (k := 0) (a := nI 0) (fun _ => rfl) (fun i a _ h1 h2 h3 => by
      have q1 := alN_le (f := pvN S p k) (n := i)
      have q2 := cnV_le (f := pvN S p k) (v := pvN S p k i) (n := i + 1)
      rw [h2 (by omega)]
      exact jMax_n (by omega) (by omega))
    rw [Nat.zero_add] at this
    rw [Nat.sub_zero]
    exact this h5
  rw [hg] at a1
  refine ⟨ν2, ?_, a2, a3⟩
  unfold M_alike
  rw [e1, bS, show M_alike_l2 (nI p) (nI k) FU (nI 0) (nI 0) ν1 = _ from a1, bS]
/-- least and greatest are one iff all are alike -/
theorem edge_n {w n : Nat} {v : Nat → Nat} (hv : ∀ i, v i < 1000000) (h0 : 0 < n) : ∃ b, fo (fun i a => exI w a (nI (v i))) 1 (n - 1) (nI (v 0)) = nI b ∧ b < 1000000 ∧ (∃ j, j < n ∧ b = v j) ∧ ∀ j, j < n → if w = 0 then b ≤ v j else v j ≤ b := by
  have := fo_inv (g := fun i a => exI w a (nI (v i))) (fun i a => ∃ b, a = nI b ∧ b < 1000000 ∧ (∃ j, j < i ∧ b = v j) ∧ ∀ j, j < i → if w = 0 then b ≤ v j else v j ≤ b) (m := n - 1) (k := 1) (a := nI (v 0)) ⟨v 0, rfl, hv 0, ⟨0, by omega, rfl⟩, fun j hj => by rw [show j = 0 by omega]; split <;> omega⟩ (fun i a h1 h2 h3 => by
    obtain ⟨b, rfl, hb, ⟨j, hj, hbj⟩, hall⟩ := h3
    have hvi := hv i
    refine ⟨if w = 0 then min b (v i) else max b (v i), exI_n (by omega) (by omega), by split <;> omega, ?_, fun j' hj' => ?_⟩
    · by_cases hw : w = 0
      · rw [if_pos hw]
        by_cases q : b ≤ v i
        · exact ⟨j, by omega, by omega⟩
        · exact ⟨i, by omega, by omega⟩
      · rw [if_neg hw]
        by_cases q : v i ≤ b
        · exact ⟨j, by omega, by omega⟩
        · exact ⟨i, by omega, by omega⟩
    · by_cases e : j' = i
      · subst e; split <;> omega
      · have := hall j' (by omega)
        by_cases hw : w = 0
        · rw [if_pos hw] at this ⊢; rw [if_pos hw]; omega
        · rw [if_neg hw] at this ⊢; rw [if_neg hw]; omega)
  rw [show 1 + (n - 1) = n by omega] at this
  obtain ⟨b, h1, h2, h3, h4⟩ := this
  exact ⟨b, h1, h2, h3, h4⟩
theorem edge_alike {n : Nat} {v : Nat → Nat} (hv : ∀ i, v i < 1000000) (h0 : 0 < n) : fo (fun i a => exI 0 a (nI (v i))) 1 (n - 1) (nI (v 0)) = fo (fun i a => exI 1 a (nI (v i))) 1 (n - 1) (nI (v 0)) ↔ alN v n = n := by
  obtain ⟨b, e1, b1, ⟨j, j1, j2⟩, b3⟩ := edge_n (w := 0) hv h0
  obtain ⟨c, e2, c1, ⟨i, i1, i2⟩, c3⟩ := edge_n (w := 1) hv h0
  rw [e1, e2, eq_n (by omega) (by omega), alN_all h0]
  constructor
  · intro h k hk
    have q1 := b3 k hk
    have q2 := c3 k hk
    have q3 := b3 0 h0
    have q4 := c3 0 h0
    rw [if_pos rfl] at q1 q3
    rw [if_neg (by decide)] at q2 q4
    omega
  · intro h
    rw [j2, i2, h j j1, h i i1]
theorem bit1 {t : Nat} (h : t < 31) : nI 1 <<< (nI t &&& 31) = nI (2 ^ t) := by
  have : 1 * 2 ^ t < 4294967296 := by rw [Nat.one_mul]; exact Nat.lt_of_lt_of_le (Nat.pow_lt_pow_right (by decide) h) (by decide)
  rw [shl_n (by omega) this, Nat.one_mul]
def shr (S : St) (p : Nat) : Nat → Nat
  | 0 => 0
  | k + 1 => if alN (pvN S p k) (dl S p).length = (dl S p).length then shr S p k ||| 2 ^ sN S 703 p k else shr S p k
theorem q_shared (x : Int32) : Cmd (B_shared x) (M_shared x) := by
  intro S μ ν W C R
  unfold B_shared M_shared
  refine q_some (fC := fun μ2 => (Taster_sameInAll x μ2).bind fun x3 => some (x3, μ2)) (fM := fun μ2 => (M_shared_l1 x FU (nI 0) (nI 0) μ2).bind fun (x3, μ4) => some (x3, μ4)) W C R ?_
  rintro p μ ν hp rfl ht h0 hO hR hF
  have h5 := dl_le ht
  have h16 := W.pg.1
  have h12 := W.th.1
  have wp := W.pg.2.1 p hp
  have hm8 := wp.1.2
  obtain ⟨r, a1, a2⟩ : ∃ r, Taster_sameInAll_l1 (nI p) μ FU (nI 0) (nI 0) = some r ∧ r = nI (shr S p (mT S p)) := by
    refine loopE (fun f k (s : Int32) => Taster_sameInAll_l1 (nI p) μ f s k) (mT S p) (fun c s => s = nI (shr S p c)) (fun r => r = nI (shr S p (mT S p))) ?_ ?_ (mT S p) 0 (nI 0) FU (by omega) (FU_lt (by omega)) rfl
    · rintro f k a hk ha
      subst ha
      left
      have hpv : ∀ i, pvN S p k i < 1000000 := fun i => Nat.lt_of_le_of_lt (prt_bd W _ hp hk).2 (by decide)
      have c1 := edge_C (w := 0) W hO ht h0 hk (by decide)
      have d1 := edge_C (w := 1) W hO ht h0 hk (by decide)
      have cp := hO.1.pg.2.1 p hp
      have t1 := (wp.2.1 k hk).1
      refine ⟨nI (shr S p (k + 1)), ?_, rfl⟩
      show Taster_sameInAll_l1b (nI p) μ (Taster_sameInAll_l1 (nI p) μ f) (nI (shr S p k)) (nI k) = _
      unfold Taster_sameInAll_l1b
      rw [rd_n (by omega) (by decide), (hO.1.pg.2.1 p hp).1, bS, if_pos ((lt_n (by omega) (by omega)).mpr hk), c1, bS, d1, bS]
      have hu : shr S p (k + 1) = if alN (pvN S p k) (dl S p).length = (dl S p).length then shr S p k ||| 2 ^ sN S 703 p k else shr S p k := rfl
      by_cases e : alN (pvN S p k) (dl S p).length = (dl S p).length
      · rw [if_pos ((edge_alike hpv h0).mpr e), ix_n (by omega) (by decide), bS, rd_n (by omega) (by decide), (cp.2.1 k hk).1, bS, bit1 (by omega), or_n, bS, bS, bS, add_n, hu, if_pos e]
      · rw [if_neg (fun q => e ((edge_alike hpv h0).mp q)), bS, bS, add_n, hu, if_neg e]
    · rintro f a ha
      refine ⟨a, ?_, ha⟩
      show Taster_sameInAll_l1b (nI p) μ (Taster_sameInAll_l1 (nI p) μ f) a (nI (mT S p)) = _
      unfold Taster_sameInAll_l1b
      rw [rd_n (by omega) (by decide), (hO.1.pg.2.1 p hp).1, bS, if_neg (fun q => absurd ((lt_n (by omega) (by omega)).mp q) (by omega))]
  obtain ⟨⟨r', ν1⟩, b1, b2, b3⟩ : ∃ r, M_shared_l1 (nI p) FU (nI 0) (nI 0) ν = some r ∧ r.1 = nI (shr S p (mT S p)) ∧ MR S r.2 := by
    refine loopE (fun f k (s : Int32 × Mem) => M_shared_l1 (nI p) f s.1 k s.2) (mT S p) (fun c s => s.1 = nI (shr S p c) ∧ MR S s.2 ∧ Fnd S p s.2) (fun r => r.1 = nI (shr S p (mT S p)) ∧ MR S r.2) ?_ ?_ (mT S p) 0 (nI 0, ν) FU (by omega) (FU_lt (by omega)) ⟨rfl, hR, hF⟩
    · rintro f k ⟨a, ν⟩ hk ⟨ha, hR, hF⟩
      simp only at ha hR hF
      subst ha
      left
      obtain ⟨ν1, c1, c2, c3⟩ := alike_M W hR hF hp ht hk
      have cp := c2.pg.2 p hp
      have t1 := (wp.2.1 k hk).1
      have hal := alN_le (f := pvN S p k) (n := (dl S p).length)
      refine ⟨(nI (shr S p (k + 1)), ν1), ?_, rfl, c2, c3⟩
      show M_shared_l1b (nI p) (M_shared_l1 (nI p) f) (nI (shr S p k)) (nI k) ν = _
      unfold M_shared_l1b
      rw [rd_n (by omega) (by decide), (hR.pg.2 p hp).1, bS, if_pos ((lt_n (by omega) (by omega)).mpr hk), c1, bS]
      simp only []
      have hu : shr S p (k + 1) = if alN (pvN S p k) (dl S p).length = (dl S p).length then shr S p k ||| 2 ^ sN S 703 p k else shr S p k := rfl
      by_cases e : alN (pvN S p k) (dl S p).length = (dl S p).length
      · rw [c3.1, if_pos ((eq_n (by omega) (by omega)).mpr e), mul_n, add_n, rd_n (by omega) (by decide), (cp.2.1 k hk).1, bS, bit1 (by omega), bS, or_n, bS, bS, add_n, hu, if_pos e]
      · rw [c3.1, if_neg (fun q => e ((eq_n (by omega) (by omega)).mp q)), bS, or_n, bS, bS, add_n, hu, if_neg e, Nat.or_zero]
    · rintro f ⟨a, ν⟩ ⟨ha, hR, hF⟩
      refine ⟨(a, ν), ?_, ha, hR⟩
      show M_shared_l1b (nI p) (M_shared_l1 (nI p) f) a (nI (mT S p)) ν = _
      unfold M_shared_l1b
      rw [rd_n (by omega) (by decide), (hR.pg.2 p hp).1, bS, if_neg (fun q => absurd ((lt_n (by omega) (by omega)).mp q) (by omega))]
  simp only at b2 b3
  subst a2; subst b2
  unfold Taster_sameInAll
  simp only [a1, b1, bS]
  exact ⟨_, _, _, rfl, rfl, hO.1, b3⟩
/-- the place of the first least of alN -/
def bst (S : St) (p : Nat) : Nat → Nat
  | 0 => 0
  | k + 1 => if alN (pvN S p (k + 1)) (dl S p).length < alN (pvN S p (bst S p k)) (dl S p).length then k + 1 else bst S p k
theorem bst_le {S : St} {p : Nat} : ∀ {k : Nat}, bst S p k ≤ k := by
  intro k
  induction k with
  | zero => exact Nat.le_refl _
  | succ k ih => unfold bst; split <;> omega
theorem q_weigh (x : Int32) : Cmd (B_weigh x) (M_weigh x) := by
  intro S μ ν W C R
  unfold B_weigh M_weigh
  refine q_some (fC := fun μ2 => (Taster_mostTelling x μ2).bind fun (x3, μ4) => some (x3, μ4)) (fM := fun μ2 => (M_weigh_l1 x FU (nI 0) (nI 1) μ2).bind fun (x3, μ4) => (mRd μ4 1316 0 136 (((nI 8) * x) + x3)).bind fun x5 => some (x5, μ4)) W C R ?_
  rintro p μ ν hp rfl ht h0 hO hR hF
  have h5 := dl_le ht
  have h16 := W.pg.1
  have wp := W.pg.2.1 p hp
  have hm8 := wp.1.2
  have hm1 := wp.1.1
  have hal : ∀ k, alN (pvN S p k) (dl S p).length ≤ 5000 := fun k => Nat.le_trans alN_le h5
  obtain ⟨⟨r, μ1⟩, a1, a2, a3⟩ : ∃ r, Taster_mostTelling_l1 (nI p) FU (-1) (nI 5001) (nI 0) μ = some r ∧ r.1 = nI (sN S 703 p (bst S p (mT S p - 1))) ∧ On S p r.2 := by
    refine loopE (fun f k (s : Int32 × Int32 × Mem) => Taster_mostTelling_l1 (nI p) f s.1 s.2.1 k s.2.2) (mT S p) (fun c s => (0 < c → s.1 = nI (sN S 703 p (bst S p (c - 1))) ∧ s.2.1 = nI (alN (pvN S p (bst S p (c - 1))) (dl S p).length)) ∧ (c = 0 → s.2.1 = nI 5001) ∧ On S p s.2.2) (fun r => r.1 = nI (sN S 703 p (bst S p (mT S p - 1))) ∧ On S p r.2) ?_ ?_ (mT S p) 0 (-1, nI 5001, μ) FU (by omega) (FU_lt (by omega)) ⟨fun h => absurd h (by decide), fun _ => rfl, hO⟩
    · rintro f k ⟨a, b, μ⟩ hk ⟨h1, h2, hO⟩
      simp only at h1 h2 hO
      left
      obtain ⟨μ1, c1, c2⟩ := tally_C W hO ht hk
      have cp := c2.1.pg.2.1 p hp
      refine ⟨(nI (sN S 703 p (bst S p k)), nI (alN (pvN S p (bst S p k)) (dl S p).length), μ1), ?_, fun _ => ⟨rfl, rfl⟩, fun q => absurd q (by omega), c2⟩
      show Taster_mostTelling_l1b (nI p) (Taster_mostTelling_l1 (nI p) f) a b (nI k) μ = _
      unfold Taster_mostTelling_l1b
      rw [rd_n (by omega) (by decide), (hO.1.pg.2.1 p hp).1, bS, if_pos ((lt_n (by omega) (by omega)).mpr hk), c1, bS]
      simp only []
      have hk1 := hal k
      cases k with
      | zero =>
        rw [h2 rfl, if_pos ((lt_n (by omega) (by decide)).mpr (by omega)), ix_n (by omega) (by decide), bS, rd_n (by omega) (by decide), (cp.2.1 0 hk).1, bS, bS]
        simp only []
        rw [bS, add_n]
        rfl
      | succ k =>
        obtain ⟨q1, q2⟩ := h1 (by omega)
        rw [show k + 1 - 1 = k by omega] at q1 q2
        have hk2 := hal (bst S p k)
        have hu : bst S p (k + 1) = if alN (pvN S p (k + 1)) (dl S p).length < alN (pvN S p (bst S p k)) (dl S p).length then k + 1 else bst S p k := rfl
        rw [q1, q2]
        by_cases e : alN (pvN S p (k + 1)) (dl S p).length < alN (pvN S p (bst S p k)) (dl S p).length
        · rw [if_pos ((lt_n (by omega) (by omega)).mpr e), ix_n (by omega) (by decide), bS, rd_n (by omega) (by decide), (cp.2.1 (k + 1) hk).1, bS, bS]
          simp only []
          rw [bS, add_n, hu, if_pos e]
        · rw [if_neg (fun q => e ((lt_n (by omega) (by omega)).mp q)), bS]
          simp only []
          rw [bS, add_n, hu, if_neg e]
    · rintro f ⟨a, b, μ⟩ ⟨h1, h2, hO⟩
      simp only at h1 h2 hO
      refine ⟨(a, μ), ?_, (h1 (by omega)).1, hO⟩
      show Taster_mostTelling_l1b (nI p) (Taster_mostTelling_l1 (nI p) f) a b (nI (mT S p)) μ = _
      unfold Taster_mostTelling_l1b
      rw [rd_n (by omega) (by decide), (hO.1.pg.2.1 p hp).1, bS, if_neg (fun q => absurd ((lt_n (by omega) (by omega)).mp q) (by omega))]
  obtain ⟨⟨r', ν1⟩, b1, b2, b3⟩ : ∃ r, M_weigh_l1 (nI p) FU (nI 0) (nI 1) ν = some r ∧ r.1 = nI (bst S p (mT S p - 1)) ∧ MR S r.2 := by
    refine loopE (fun f k (s : Int32 × Mem) => M_weigh_l1 (nI p) f s.1 k s.2) (mT S p) (fun c s => s.1 = nI (bst S p (c - 1)) ∧ 0 < c ∧ MR S s.2 ∧ Fnd S p s.2) (fun r => r.1 = nI (bst S p (mT S p - 1)) ∧ MR S r.2) ?_ ?_ (mT S p - 1) 1 (nI 0, ν) FU (by omega) (FU_lt (by omega)) ⟨rfl, by decide, hR, hF⟩
    · rintro f k ⟨a, ν⟩ hk ⟨ha, hk0, hR, hF⟩
      simp only at ha hR hF
      subst ha
      left
      obtain ⟨k, rfl⟩ : ∃ j, k = j + 1 := ⟨k - 1, by omega⟩
      rw [show k + 1 - 1 = k by omega]
      have hb := bst_le (S := S) (p := p) (k := k)
      obtain ⟨ν1, c1, c2, c3⟩ := alike_M W hR hF hp ht hk
      obtain ⟨ν2, d1, d2, d3⟩ := alike_M (k := bst S p k) W c2 c3 hp ht (by omega)
      have hk1 := hal (k + 1)
      have hk2 := hal (bst S p k)
      refine ⟨(nI (bst S p (k + 1)), ν2), ?_, rfl, by omega, d2, d3⟩
      show M_weigh_l1b (nI p) (M_weigh_l1 (nI p) f) (nI (bst S p k)) (nI (k + 1)) ν = _
      unfold M_weigh_l1b
      rw [rd_n (by omega) (by decide), (hR.pg.2 p hp).1, bS, if_pos ((lt_n (by omega) (by omega)).mpr hk), c1, bS]
      simp only []
      rw [d1, bS]
      simp only []
      have hu : bst S p (k + 1) = if alN (pvN S p (k + 1)) (dl S p).length < alN (pvN S p (bst S p k)) (dl S p).length then k + 1 else bst S p k := rfl
      by_cases e : alN (pvN S p (k + 1)) (dl S p).length < alN (pvN S p (bst S p k)) (dl S p).length
      · rw [if_pos ((lt_n (by omega) (by omega)).mpr e), bS, bS, add_n, hu, if_pos e]
      · rw [if_neg (fun q => e ((lt_n (by omega) (by omega)).mp q)), bS, bS, add_n, hu, if_neg e]
    · rintro f ⟨a, ν⟩ ⟨ha, hk0, hR, hF⟩
      refine ⟨(a, ν), ?_, ha, hR⟩
      show M_weigh_l1b (nI p) (M_weigh_l1 (nI p) f) a (nI (mT S p)) ν = _
      unfold M_weigh_l1b
      rw [rd_n (by omega) (by decide), (hR.pg.2 p hp).1, bS, if_neg (fun q => absurd ((lt_n (by omega) (by omega)).mp q) (by omega))]
  simp only at a2 a3 b2 b3
  subst a2; subst b2
  have hb := bst_le (S := S) (p := p) (k := mT S p - 1)
  unfold Taster_mostTelling
  simp only [a1, b1, bS, mul_n, add_n]
  rw [rd_n (by omega) (by decide), ((b3.pg.2 p hp).2.1 _ (by omega)).1, bS]
  exact ⟨_, _, _, rfl, rfl, a3.1, b3⟩
