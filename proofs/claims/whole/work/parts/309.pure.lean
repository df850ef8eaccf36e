/-! PURE: stands, stand, range, span, shared, weigh -/
theorem sumK_le {f : Nat → Nat} {B : Nat} : ∀ {m : Nat}, (∀ k, k < m → f k ≤ B) → sumK f m ≤ m * B := by
  intro m
  induction m with
  | zero => intro _; exact Nat.zero_le _
  | succ m ih =>
    intro h
    show sumK f m + f m ≤ (m + 1) * B
    have h1 := ih fun k hk => h k (by omega)
    have h2 := h m (by omega)
    rw [Nat.succ_mul]
    omega
theorem cntA_le {S : St} {p a : Nat} : ∀ {i : Nat}, cntA S p a i ≤ i := by
  intro i
  induction i with
  | zero => exact Nat.le_refl _
  | succ i ih => unfold cntA; split <;> omega
theorem sum8 {f : Nat → Nat} {B m : Nat} (h : ∀ k, k < m → f k ≤ B) (hm : m ≤ 8) : sumK f m ≤ 8 * B := Nat.le_trans (sumK_le h) (Nat.mul_le_mul_right B hm)
theorem ltF_bd {S : St} {p : Nat} {f : Nat → Nat} (W : WF S) (hp : p < nPg S) (hf : ∀ k, k < mT S p → f k ≤ 99) : ∀ i, i < 9 → bd6 (ltF S p f i) := by
  intro i hi
  have wp := W.pg.2.1 p hp
  have hm := wp.1.2
  have hb : ∀ v, v = 800 ∨ v = 801 ∨ v = 802 → sumK (fun k => f k * sN S v 0 (sN S 703 p k)) (mT S p) ≤ 8 * (99 * 99) := by
    intro v hv
    refine sum8 (fun k hk => Nat.mul_le_mul (hf k hk) ?_) hm
    have := W.th.2.2.1 _ (wp.2.1 k hk).1
    rcases hv with rfl | rfl | rfl
    · exact this.1
    · exact this.2.1
    · exact this.2.2.1
  unfold ltF
  split
  · exact bd_nI (Nat.le_trans (hb 800 (by simp)) (by decide))
  · split
    · exact bd_nI (Nat.le_trans (hb 801 (by simp)) (by decide))
    · split
      · exact bd_nI (Nat.le_trans (hb 802 (by simp)) (by decide))
      · split
        · exact bd_nI (Nat.le_trans (sum8 hf hm) (by decide))
        · split
          · rename_i h4
            rw [wp.2.2.2.2.2.2.2.1 (i - 4) (by omega)]
            exact bd_nI (Nat.le_trans cntA_le (Nat.le_trans wp.2.2.2.2.2.1 (by decide)))
          · split
            · exact bd_nI (by decide)
            · exact bd_nI (by decide)
theorem wthF_bd {S : St} {p l : Nat} {f : Nat → Nat} (W : WF S) (hp : p < nPg S) (hl : l < nLw S) (hf : ∀ k, k < mT S p → f k ≤ 99) : bd6 (wthF S p f l) := lawV_bd (ltF_bd W hp hf) (W.lw.2 l hl).2
theorem wthP_bd {S : St} {p d l : Nat} (W : WF S) (hp : p < nPg S) (hl : l < nLw S) : bd6 (wthP S p d l) := wthF_bd W hp hl fun _ hk => (prt_bd W d hp hk).2
/-- trials -/
def upN (S : St) (l : Nat) (v : Int32) : Nat → Nat
  | 0 => 0
  | c + 1 => if upN S l v c = 1 then 1 else if sN S 1345 0 c = l ∧ sN S 1347 0 c = 1 ∧ sI S 1346 0 c ≤ v then 1 else 0
def dnN (S : St) (l : Nat) (v : Int32) : Nat → Nat
  | 0 => 0
  | c + 1 => if dnN S l v c = 1 then 1 else if sN S 1345 0 c = l ∧ sN S 1347 0 c = 0 ∧ v ≤ sI S 1346 0 c then 1 else 0
theorem upN_le {S : St} {l : Nat} {v : Int32} : ∀ c, upN S l v c ≤ 1 := by
  intro c
  cases c with
  | zero => exact Nat.zero_le _
  | succ c => unfold upN; split; omega; split <;> omega
theorem dnN_le {S : St} {l : Nat} {v : Int32} : ∀ c, dnN S l v c ≤ 1 := by
  intro c
  cases c with
  | zero => exact Nat.zero_le _
  | succ c => unfold dnN; split; omega; split <;> omega
theorem upN_iff {S : St} {l : Nat} {v : Int32} : ∀ {c : Nat}, upN S l v c = 1 ↔ ∃ k, k < c ∧ sN S 1345 0 k = l ∧ sN S 1347 0 k = 1 ∧ sI S 1346 0 k ≤ v := by
  intro c
  induction c with
  | zero => exact ⟨fun h => absurd (show (0 : Nat) = 1 from h) (by decide), fun ⟨k, h, _⟩ => absurd h (Nat.not_lt_zero k)⟩
  | succ c ih =>
    show (if upN S l v c = 1 then 1 else if sN S 1345 0 c = l ∧ sN S 1347 0 c = 1 ∧ sI S 1346 0 c ≤ v then 1 else 0) = 1 ↔ _
    by_cases h : upN S l v c = 1
    · rw [if_pos h]
      obtain ⟨k, h1, h2⟩ := ih.mp h
      exact ⟨fun _ => ⟨k, by omega, h2⟩, fun _ => rfl⟩
    · rw [if_neg h]
      by_cases h2 : sN S 1345 0 c = l ∧ sN S 1347 0 c = 1 ∧ sI S 1346 0 c ≤ v
      · rw [if_pos h2]; exact ⟨fun _ => ⟨c, by omega, h2⟩, fun _ => rfl⟩
      · rw [if_neg h2]
        refine ⟨fun q => absurd q (by decide), ?_⟩
        rintro ⟨k, k1, k2⟩
        by_cases e : k = c
        · subst e; exact absurd k2 h2
        · exact absurd (ih.mpr ⟨k, by omega, k2⟩) h
theorem dnN_iff {S : St} {l : Nat} {v : Int32} : ∀ {c : Nat}, dnN S l v c = 1 ↔ ∃ k, k < c ∧ sN S 1345 0 k = l ∧ sN S 1347 0 k = 0 ∧ v ≤ sI S 1346 0 k := by
  intro c
  induction c with
  | zero => exact ⟨fun h => absurd (show (0 : Nat) = 1 from h) (by decide), fun ⟨k, h, _⟩ => absurd h (Nat.not_lt_zero k)⟩
  | succ c ih =>
    show (if dnN S l v c = 1 then 1 else if sN S 1345 0 c = l ∧ sN S 1347 0 c = 0 ∧ v ≤ sI S 1346 0 c then 1 else 0) = 1 ↔ _
    by_cases h : dnN S l v c = 1
    · rw [if_pos h]
      obtain ⟨k, h1, h2⟩ := ih.mp h
      exact ⟨fun _ => ⟨k, by omega, h2⟩, fun _ => rfl⟩
    · rw [if_neg h]
      by_cases h2 : sN S 1345 0 c = l ∧ sN S 1347 0 c = 0 ∧ v ≤ sI S 1346 0 c
      · rw [if_pos h2]; exact ⟨fun _ => ⟨c, by omega, h2⟩, fun _ => rfl⟩
      · rw [if_neg h2]
        refine ⟨fun q => absurd q (by decide), ?_⟩
        rintro ⟨k, k1, k2⟩
        by_cases e : k = c
        · subst e; exact absurd k2 h2
        · exact absurd (ih.mpr ⟨k, by omega, k2⟩) h
def vrd (S : St) (l : Nat) (v : Int32) : Int32 := if upN S l v (nTr S) = dnN S l v (nTr S) then -1 else if upN S l v (nTr S) = 0 then nI 0 else nI 1
theorem not_lt_le {a b : Int32} : ¬ a < b ↔ b ≤ a := by rw [Int32.lt_iff_toInt_lt, Int32.le_iff_toInt_le]; omega
theorem verdict_C {S : St} {l : Nat} {v : Int32} {μ : Mem} (W : WF S) (C : C_tr S μ) (hl : l < nLw S) (hv : bd6 v) : Laws_verdict (nI l) v μ = some (vrd S l v) := by
  have h6 := W.lw.1
  obtain ⟨c1, c2⟩ := C.2 l (by omega)
  obtain ⟨w1, w2⟩ := W.tr.2.2 l v (by omega) hv
  have u : (if v < sI S 505 0 l then some (nI 0) else some (nI 1)) = some (nI (upN S l v (nTr S))) := by
    have h1 := upN_le (S := S) (l := l) (v := v) (nTr S)
    by_cases h : v < sI S 505 0 l
    · have : ¬ upN S l v (nTr S) = 1 := fun q => absurd (w1.mpr (upN_iff.mp q)) (by rw [Int32.le_iff_toInt_le]; rw [Int32.lt_iff_toInt_lt] at h; omega)
      rw [if_pos h, show upN S l v (nTr S) = 0 by omega]
    · rw [if_neg h, upN_iff.mpr (w1.mp (not_lt_le.mp h))]
  have dn : (if sI S 506 0 l < v then some (nI 0) else some (nI 1)) = some (nI (dnN S l v (nTr S))) := by
    have h1 := dnN_le (S := S) (l := l) (v := v) (nTr S)
    by_cases h : sI S 506 0 l < v
    · have : ¬ dnN S l v (nTr S) = 1 := fun q => absurd (w2.mpr (dnN_iff.mp q)) (by rw [Int32.le_iff_toInt_le]; rw [Int32.lt_iff_toInt_lt] at h; omega)
      rw [if_pos h, show dnN S l v (nTr S) = 0 by omega]
    · rw [if_neg h, dnN_iff.mpr (w2.mp (not_lt_le.mp h))]
  have h1 := upN_le (S := S) (l := l) (v := v) (nTr S)
  have h2 := dnN_le (S := S) (l := l) (v := v) (nTr S)
  unfold Laws_verdict vrd
  rw [rd_n (by omega) (by decide), c1, bS, u, bS, rd_n (by omega) (by decide), c2, bS, dn, bS]
  by_cases e : upN S l v (nTr S) = dnN S l v (nTr S)
  · rw [if_pos ((eq_n (by omega) (by omega)).mpr e), if_pos e]
  · rw [if_neg (fun q => e ((eq_n (by omega) (by omega)).mp q)), if_neg e]
    by_cases e2 : upN S l v (nTr S) = 0
    · rw [if_pos ((eq0_n (by omega)).mpr e2), if_pos e2]
    · rw [if_neg (fun q => e2 ((eq0_n (by omega)).mp q)), if_neg e2]
theorem standing_M {S : St} {l : Nat} {v : Int32} {ν : Mem} (W : WF S) (R : M_tr S ν) (hl : l < nLw S) : M_standing (nI l) v ν = some (vrd S l v) := by
  have h6 := W.lw.1
  have h20 := W.tr.1
  have hl1 := upN_le (S := S) (l := l) (v := v)
  have hl2 := dnN_le (S := S) (l := l) (v := v)
  obtain ⟨r, e, hr⟩ : ∃ r, M_standing_l1 (nI l) v ν FU (nI 0) (nI 0) (nI 0) = some r ∧ r = (nI (upN S l v (nTr S)), nI (dnN S l v (nTr S))) := by
    refine loopE (fun f k (s : Int32 × Int32) => M_standing_l1 (nI l) v ν f s.1 s.2 k) (nTr S) (fun c s => s = (nI (upN S l v c), nI (dnN S l v c))) (fun r => r = (nI (upN S l v (nTr S)), nI (dnN S l v (nTr S)))) ?_ ?_ (nTr S) 0 (nI 0, nI 0) FU (by omega) (FU_lt (by omega)) rfl
    · rintro f k s hk rfl
      left
      obtain ⟨c1, c2, c3⟩ := R.2 k hk
      obtain ⟨s1, s2⟩ := W.tr.2.1 k hk
      have e5 : mRd ν 1345 0 20 (nI k) = some (nI (sN S 1345 0 k)) := by rw [rd_n (by omega) (by decide), c1]
      have e6 : mRd ν 1346 0 20 (nI k) = some (sI S 1346 0 k) := by rw [rd_n (by omega) (by decide), c2]
      have e7 : mRd ν 1347 0 20 (nI k) = some (nI (sN S 1347 0 k)) := by rw [rd_n (by omega) (by decide), c3]
      have q0 : nI (sN S 1345 0 k) = nI l ↔ sN S 1345 0 k = l := eq_n (by omega) (by omega)
      have U : (if nI (upN S l v k) = 0 then ((mRd ν 1345 0 20 (nI k)).bind fun x1 => if x1 = nI l then ((mRd ν 1347 0 20 (nI k)).bind fun x2 => if x2 = 0 then some (nI 0) else (mRd ν 1346 0 20 (nI k)).bind fun x3 => if v < x3 then some (nI 0) else some (nI 1)) else some (nI 0)) else some (nI 1)) = some (nI (upN S l v (k + 1))) := by
        show _ = some (nI (if upN S l v k = 1 then 1 else if sN S 1345 0 k = l ∧ sN S 1347 0 k = 1 ∧ sI S 1346 0 k ≤ v then 1 else 0))
        have := hl1 k
        by_cases a : upN S l v k = 1
        · rw [if_pos a, a, if_neg (by decide)]
        · rw [if_neg a, show upN S l v k = 0 by omega, if_pos (show nI 0 = 0 from rfl), e5, bS]
          by_cases b : sN S 1345 0 k = l
          · rw [if_pos (q0.mpr b), e7, bS]
            by_cases c : sN S 1347 0 k = 1
            · rw [c, if_neg (show ¬ nI 1 = 0 by decide), e6, bS]
              by_cases d : v < sI S 1346 0 k
              · rw [if_pos d, if_neg (fun q => not_lt_le.mpr q.2.2 d)]
              · rw [if_neg d, if_pos ⟨b, rfl, not_lt_le.mp d⟩]
            · rw [show sN S 1347 0 k = 0 by omega, if_pos (show nI 0 = 0 from rfl), if_neg (fun q => absurd q.2.1 (by decide))]
          · rw [if_neg (fun q => b (q0.mp q)), if_neg (fun q => b q.1)]
      have D : (if nI (dnN S l v k) = 0 then ((mRd ν 1345 0 20 (nI k)).bind fun x5 => if x5 = nI l then ((mRd ν 1347 0 20 (nI k)).bind fun x6 => if x6 = 0 then ((mRd ν 1346 0 20 (nI k)).bind fun x7 => if x7 < v then some (nI 0) else some (nI 1)) else some (nI 0)) else some (nI 0)) else some (nI 1)) = some (nI (dnN S l v (k + 1))) := by
        show _ = some (nI (if dnN S l v k = 1 then 1 else if sN S 1345 0 k = l ∧ sN S 1347 0 k = 0 ∧ v ≤ sI S 1346 0 k then 1 else 0))
        have := hl2 k
        by_cases a : dnN S l v k = 1
        · rw [if_pos a, a, if_neg (by decide)]
        · rw [if_neg a, show dnN S l v k = 0 by omega, if_pos (show nI 0 = 0 from rfl), e5, bS]
          by_cases b : sN S 1345 0 k = l
          · rw [if_pos (q0.mpr b), e7, bS]
            by_cases c : sN S 1347 0 k = 0
            · rw [c, if_pos (show nI 0 = 0 from rfl), e6, bS]
              by_cases d : sI S 1346 0 k < v
              · rw [if_pos d, if_neg (fun q => not_lt_le.mpr q.2.2 d)]
              · rw [if_neg d, if_pos ⟨b, rfl, not_lt_le.mp d⟩]
            · rw [show sN S 1347 0 k = 1 by omega, if_neg (show ¬ nI 1 = 0 by decide), if_neg (fun q => absurd q.2.1 (by decide))]
          · rw [if_neg (fun q => b (q0.mp q)), if_neg (fun q => b q.1)]
      refine ⟨_, ?_, rfl⟩
      show M_standing_l1b (nI l) v ν (M_standing_l1 (nI l) v ν f) (nI (upN S l v k)) (nI (dnN S l v k)) (nI k) = _
      unfold M_standing_l1b
      rw [R.1, if_pos ((lt_n (by omega) (by omega)).mpr hk), U, bS, D, bS, bS, add_n]
    · rintro f s rfl
      refine ⟨_, ?_, rfl⟩
      show M_standing_l1b (nI l) v ν (M_standing_l1 (nI l) v ν f) _ _ (nI (nTr S)) = _
      unfold M_standing_l1b
      rw [R.1, if_neg (fun q => absurd ((lt_n (by omega) (by omega)).mp q) (by omega))]
  subst hr
  unfold M_standing vrd
  rw [e, bS]
  simp only []
  have h1 := hl1 (nTr S)
  have h2 := hl2 (nTr S)
  by_cases e : upN S l v (nTr S) = dnN S l v (nTr S)
  · rw [if_pos ((eq_n (by omega) (by omega)).mpr e), if_pos e]
  · rw [if_neg (fun q => e ((eq_n (by omega) (by omega)).mp q)), if_neg e]
    by_cases e2 : upN S l v (nTr S) = 0
    · rw [if_pos ((eq0_n (by omega)).mpr e2), if_pos e2]
    · rw [if_neg (fun q => e2 ((eq0_n (by omega)).mp q)), if_neg e2]
theorem q_stands (x y z : Int32) : Cmd (B_stands x y z) (M_stands x y z) := by
  intro S μ ν W C R
  unfold B_stands M_stands
  rcases law_arg W z with hz | ⟨l, hl, rfl⟩
  · rw [hasL0 C hz, isL0 W R hz, bS, bS, if_pos (by decide), if_pos (by decide)]; exact ⟨_, _, _, rfl, rfl, C, R⟩
  · rw [hasL1 W C hl, isL1 W R hl, bS, bS, if_neg (by decide), if_neg (by decide)]
    refine q_dish (fC := fun μ3 => (Laws_valueOf (nI l) μ3).bind fun (x4, μ5) => (Laws_verdict (nI l) x4 μ5).bind fun x6 => some (x6, μ5)) (fM := fun μ5 => (M_worthNow (nI l) μ5).bind fun (x6, μ7) => (M_standing (nI l) x6 μ7).bind fun x8 => some (x8, μ7)) W C R ?_
    rintro p i d μ ν hd hO hS hR hW
    obtain ⟨μ1, a1, a2, -⟩ := shw_val W hO hS hl
    obtain ⟨ν1, b1, b2, -⟩ := wnt_val W hR hW hl
    simp only [a1, b1, bS]
    rw [verdict_C W a2.1.tr hl (wthP_bd W hd.1 hl), standing_M W b2.tr hl, bS, bS]
    exact ⟨_, _, _, rfl, rfl, a2.1, b2⟩
theorem inT (w : Int32) : M_in w (nI 0) (nI 1) = some (nI 0) ∨ ∃ k, k ≤ 1 ∧ w = nI k ∧ M_in w (nI 0) (nI 1) = some (nI 1) := by
  rcases in_nat w 0 1 (by decide) (by decide) with h | ⟨k, -, h2, h3, h4⟩
  · exact Or.inl h
  · exact Or.inr ⟨k, h2, h3, h4⟩
theorem q_stand (x y z : Int32) : Cmd (B_stand x y z) (M_stand x y z) := by
  intro S μ ν W C R
  unfold B_stand M_stand
  rcases law_arg W y with hz | ⟨l, hl, rfl⟩
  · rw [hasL0 C hz, isL0 W R hz, bS, bS, if_pos (by decide), if_pos (by decide)]; exact ⟨_, _, _, rfl, rfl, C, R⟩
  · rw [hasL1 W C hl, isL1 W R hl, bS, bS, if_neg (by decide), if_neg (by decide), within_in]
    rcases inT z with hw | ⟨w, -, rfl, hw⟩
    · rw [hw, bS, bS, if_pos (by decide), if_pos (by decide)]; exact ⟨_, _, _, rfl, rfl, C, R⟩
    · rw [hw, bS, bS, if_neg (by decide), if_neg (by decide)]
      refine q_all (fC := fun μ4 => (Taster_judged (nI l) (nI w) μ4).bind fun (x5, μ6) => some (x5, μ6)) (fM := fun μ4 => (M_stand_l1 x (nI l) (nI w) FU (nI 0) (nI 0) μ4).bind fun (x5, μ6) => some (x5, μ6)) W C R ?_
      rintro p μ ν hp rfl ht hO hR hF
      have h5 := dl_le ht
      let g : Nat → Int32 → Int32 := fun i a => if vrd S l (wthP S p (dx S p i) l) = nI w then a + nI 1 else a
      obtain ⟨μ1, a1, a2, -⟩ := C_over (S := S) (p := p) (fun f i (s : Int32 × Mem) => Taster_judged_l1 (nI l) (nI w) f s.1 i s.2) g (fun a μ => (a, μ)) (fun _ _ _ => True) ht (by
        intro f i acc μ hi hd hO _
        obtain ⟨μ1, c1, c2, c3, -⟩ := show_eq W hO ht hd
        obtain ⟨μ2, d1, d2, -⟩ := shw_val W c2 c3 hl
        refine ⟨μ2, ?_, d2, trivial⟩
        show Taster_judged_l1b (nI l) (nI w) (Taster_judged_l1 (nI l) (nI w) f) acc (nI i) μ = _
        unfold Taster_judged_l1b
        rw [shown_n W hO ht, bS, if_pos ((lt_n (by omega) (by omega)).mpr hi), c1, bS, d1, bS]
        simp only []
        rw [verdict_C W d2.1.tr hl (wthP_bd W hp hl), bS]
        by_cases e : vrd S l (wthP S p (dx S p i) l) = nI w
        · rw [if_pos e, bS, bS, bS, add_n]; simp only [g, if_pos e]
        · rw [if_neg e, bS, bS, add_n]; simp only [g, if_neg e]) (by
        intro f acc μ hO
        show Taster_judged_l1b (nI l) (nI w) (Taster_judged_l1 (nI l) (nI w) f) acc (nI _) μ = _
        unfold Taster_judged_l1b
        rw [shown_n W hO ht, bS, if_neg (fun q => absurd ((lt_n (by omega) (by omega)).mp q) (by omega))]) (k := 0) (acc := nI 0) (Nat.zero_le _) hO trivial
      obtain ⟨ν1, b1, b2, -, -⟩ := M_over (S := S) (p := p) (fun f i (s : Int32 × Mem) => M_stand_l1 (nI p) (nI l) (nI w) f s.1 i s.2) g (fun a μ => (a, μ)) (fun _ _ _ => True) ht (by
        intro f i acc ν hi hd hR hF _
        obtain ⟨ν1, c1, c2, c3, c4, -⟩ := go_M W hR hp ht hF hd
        obtain ⟨ν2, d1, d2, d3⟩ := wnt_val W c2 c4 hl
        refine ⟨ν2, ?_, d2, ⟨by rw [d3.i 1342 (by decide)]; exact c3.1, by rw [d3.i 1341 (by decide)]; exact c3.2⟩, trivial⟩
        show M_stand_l1b (nI p) (nI l) (nI w) (M_stand_l1 (nI p) (nI l) (nI w) f) acc (nI i) ν = _
        unfold M_stand_l1b
        rw [hF.1, if_pos ((lt_n (by omega) (by omega)).mpr hi), c1, bS, d1, bS]
        simp only []
        rw [standing_M W d2.tr hl, bS]
        by_cases e : vrd S l (wthP S p (dx S p i) l) = nI w
        · rw [if_pos e, bS, bS, bS, add_n]; simp only [g, if_pos e]
        · rw [if_neg e, bS, bS, bS, add_n]; simp only [g, if_neg e]
          rw [show nI 0 = (0 : Int32) from rfl, Int32.add_zero]) (by
        intro f acc ν hR hF
        show M_stand_l1b (nI p) (nI l) (nI w) (M_stand_l1 (nI p) (nI l) (nI w) f) acc (nI _) ν = _
        unfold M_stand_l1b
        rw [hF.1, if_neg (fun q => absurd ((lt_n (by omega) (by omega)).mp q) (by omega))]) (k := 0) (acc := nI 0) (Nat.zero_le _) hR hF trivial
      unfold Taster_judged
      simp only [show Taster_judged_l1 (nI l) (nI w) FU (nI 0) (nI 0) μ = _ from a1, show M_stand_l1 (nI p) (nI l) (nI w) FU (nI 0) (nI 0) ν = _ from b1, bS]
      exact ⟨_, _, _, rfl, rfl, a2.1, b2⟩
/-! edges -/
def exI (w : Nat) (a b : Int32) : Int32 := if w = 0 then jMin a b else jMax a b
theorem further_eq {w : Nat} (hw : w ≤ 1) (a b : Int32) : Taster_further a b (nI w) = some (exI w a b) := by
  unfold Taster_further exI
  by_cases h : w = 0
  · rw [if_pos ((eq0_n (by omega)).mpr h), if_pos h]
  · rw [if_neg (fun q => h ((eq0_n (by omega)).mp q)), if_neg h]
theorem exI_n {w a b : Nat} (ha : a < 2147483648) (hb : b < 2147483648) : exI w (nI a) (nI b) = nI (if w = 0 then min a b else max a b) := by
  unfold exI
  split
  · exact jMin_n ha hb
  · exact jMax_n ha hb
theorem worthEdge_C {S : St} {p l w : Nat} {μ : Mem} (W : WF S) (hO : On S p μ) (ht : told S p) (h0 : 0 < (dl S p).length) (hl : l < nLw S) (hw : w ≤ 1) :
    ∃ μ', Taster_worthEdge (nI l) (nI w) μ = some (fo (fun i a => exI w a (wthP S p (dx S p i) l)) 1 ((dl S p).length - 1) (wthP S p (dx S p 0) l), μ') ∧ On S p μ' := by
  have h5 := dl_le ht
  obtain ⟨μ1, c1, c2, c3, -⟩ := show_eq W hO ht (dx_at h0)
  obtain ⟨μ2, d1, d2, -⟩ := shw_val W c2 c3 hl
  obtain ⟨μ3, a1, a2, -⟩ := C_over (S := S) (p := p) (fun f i (s : Int32 × Mem) => Taster_worthEdge_l1 (nI l) (nI w) f s.1 i s.2) (fun i a => exI w a (wthP S p (dx S p i) l)) (fun a μ => (a, μ)) (fun _ _ _ => True) ht (by
    intro f i acc μ hi hd hO _
    obtain ⟨μ1, c1, c2, c3, -⟩ := show_eq W hO ht hd
    obtain ⟨μ2, d1, d2, -⟩ := shw_val W c2 c3 hl
    refine ⟨μ2, ?_, d2, trivial⟩
    show Taster_worthEdge_l1b (nI l) (nI w) (Taster_worthEdge_l1 (nI l) (nI w) f) acc (nI i) μ = _
    unfold Taster_worthEdge_l1b
    rw [shown_n W hO ht, bS, if_pos ((lt_n (by omega) (by omega)).mpr hi), c1, bS, d1, bS]
    simp only []
    rw [further_eq hw, bS, bS, add_n]) (by
    intro f acc μ hO
    show Taster_worthEdge_l1b (nI l) (nI w) (Taster_worthEdge_l1 (nI l) (nI w) f) acc (nI _) μ = _
    unfold Taster_worthEdge_l1b
    rw [shown_n W hO ht, bS, if_neg (fun q => absurd ((lt_n (by omega) (by omega)).mp q) (by omega))]) (k := 1) (acc := wthP S p (dx S p 0) l) (μ := μ2) (by omega) d2 trivial
  refine ⟨μ3, ?_, a2⟩
  unfold Taster_worthEdge
  rw [c1, bS, d1, bS]
  simp only []
  rw [show Taster_worthEdge_l1 (nI l) (nI w) FU (wthP S p (dx S p 0) l) (nI 1) μ2 = _ from a1, bS]
theorem fo_s {A : Type} {g : Nat → A → A} {k n : Nat} {a : A} (h : 0 < n) : fo g k n a = fo g (k + 1) (n - 1) (g k a) := by
  cases n with
  | zero => omega
  | succ n => rfl
theorem q_range (x y z : Int32) : Cmd (B_range x y z) (M_range x y z) := by
  intro S μ ν W C R
  unfold B_range M_range
  rcases law_arg W y with hz | ⟨l, hl, rfl⟩
  · rw [hasL0 C hz, isL0 W R hz, bS, bS, if_pos (by decide), if_pos (by decide)]; exact ⟨_, _, _, rfl, rfl, C, R⟩
  · rw [hasL1 W C hl, isL1 W R hl, bS, bS, if_neg (by decide), if_neg (by decide), within_in]
    rcases inT z with hw | ⟨w, hw1, rfl, hw⟩
    · rw [hw, bS, bS, if_pos (by decide), if_pos (by decide)]; exact ⟨_, _, _, rfl, rfl, C, R⟩
    · rw [hw, bS, bS, if_neg (by decide), if_neg (by decide)]
      refine q_some (fC := fun μ4 => (Taster_worthEdge (nI l) (nI w) μ4).bind fun (x5, μ6) => some (x5, μ6)) (fM := fun μ4 => (M_range_l1 x (nI l) (nI w) FU (nI 0) (nI 0) μ4).bind fun (x5, μ6) => some (x5, μ6)) W C R ?_
      rintro p μ ν hp rfl ht h0 hO hR hF
      have h5 := dl_le ht
      obtain ⟨μ1, a1, a2⟩ := worthEdge_C W hO ht h0 hl hw1
      let g : Nat → Int32 → Int32 := fun i a => if i = 0 then wthP S p (dx S p i) l else exI w a (wthP S p (dx S p i) l)
      obtain ⟨ν1, b1, b2, -, -⟩ := M_over (S := S) (p := p) (fun f i (s : Int32 × Mem) => M_range_l1 (nI p) (nI l) (nI w) f s.1 i s.2) g (fun a μ => (a, μ)) (fun _ _ _ => True) ht (by
        intro f i acc ν hi hd hR hF _
        obtain ⟨ν1, c1, c2, c3, c4, -⟩ := go_M W hR hp ht hF hd
        obtain ⟨ν2, d1, d2, d3⟩ := wnt_val W c2 c4 hl
        refine ⟨ν2, ?_, d2, ⟨by rw [d3.i 1342 (by decide)]; exact c3.1, by rw [d3.i 1341 (by decide)]; exact c3.2⟩, trivial⟩
        show M_range_l1b (nI p) (nI l) (nI w) (M_range_l1 (nI p) (nI l) (nI w) f) acc (nI i) ν = _
        unfold M_range_l1b
        rw [hF.1, if_pos ((lt_n (by omega) (by omega)).mpr hi), c1, bS, d1, bS]
        simp only []
        by_cases e : i = 0
        · rw [if_pos ((eq0_n (by omega)).mpr e), bS, bS, add_n]; simp only [g, if_pos e]
        · rw [if_neg (fun q => e ((eq0_n (by omega)).mp q))]
          by_cases e2 : w = 0
          · rw [if_pos ((eq0_n (by omega)).mpr e2), bS, bS, add_n]; simp only [g, if_neg e, exI, if_pos e2]
          · rw [if_neg (fun q => e2 ((eq0_n (by omega)).mp q)), bS, bS, add_n]; simp only [g, if_neg e, exI, if_neg e2]) (by
        intro f acc ν hR hF
        show M_range_l1b (nI p) (nI l) (nI w) (M_range_l1 (nI p) (nI l) (nI w) f) acc (nI _) ν = _
        unfold M_range_l1b
        rw [hF.1, if_neg (fun q => absurd ((lt_n (by omega) (by omega)).mp q) (by omega))]) (k := 0) (acc := nI 0) (Nat.zero_le _) hR hF trivial
      have hg : fo g 0 ((dl S p).length - 0) (nI 0) = fo (fun i a => exI w a (wthP S p (dx S p i) l)) 1 ((dl S p).length - 1) (wthP S p (dx S p 0) l) := by
        rw [Nat.sub_zero, fo_s h0]
        refine fo_congr (fun _ _ => True) trivial fun i a h1 _ _ => ⟨?_, trivial⟩
        simp only [g, if_neg (show ¬ i = 0 by omega)]
      rw [hg] at b1
      simp only [a1, show M_range_l1 (nI p) (nI l) (nI w) FU (nI 0) (nI 0) ν = _ from b1, bS]
      exact ⟨_, _, _, rfl, rfl, a2.1, b2⟩
/-- parts of the i-th dish at place k -/
def pvN (S : St) (p k i : Nat) : Nat := prtP S p (dx S p i) k
theorem edge_C {S : St} {p k w : Nat} {μ : Mem} (W : WF S) (hO : On S p μ) (ht : told S p) (h0 : 0 < (dl S p).length) (hk : k < mT S p) (hw : w ≤ 1) :
    Taster_edge (nI k) (nI w) μ = some (fo (fun i a => exI w a (nI (pvN S p k i))) 1 ((dl S p).length - 1) (nI (pvN S p k 0))) := by
  have h5 := dl_le ht
  have hm8 := (W.pg.2.1 p hO.2.1).1.2
  obtain ⟨μ3, a1, -, -⟩ := C_over (S := S) (p := p) (fun f i (s : Int32 × Mem) => Taster_edge_l1 (nI k) (nI w) s.2 f s.1 i) (fun i a => exI w a (nI (pvN S p k i))) (fun a _ => a) (fun _ _ _ => True) ht (by
    intro f i acc μ hi hd hO _
    refine ⟨μ, ?_, hO, trivial⟩
    show Taster_edge_l1b (nI k) (nI w) μ (Taster_edge_l1 (nI k) (nI w) μ f) acc (nI i) = _
    unfold Taster_edge_l1b
    rw [shown_n W hO ht, bS, if_pos ((lt_n (by omega) (by omega)).mpr hi), partsAt_eq W hO ht hd hk, bS, further_eq hw, bS, bS, add_n]
    rfl) (by
    intro f acc μ hO
    show Taster_edge_l1b (nI k) (nI w) μ (Taster_edge_l1 (nI k) (nI w) μ f) acc (nI _) = _
    unfold Taster_edge_l1b
    rw [shown_n W hO ht, bS, if_neg (fun q => absurd ((lt_n (by omega) (by omega)).mp q) (by omega))]) (k := 1) (acc := nI (pvN S p k 0)) (μ := μ) (by omega) hO trivial
  unfold Taster_edge
  rw [partsAt_eq W hO ht (dx_at h0) hk, bS, show Taster_edge_l1 (nI k) (nI w) μ FU (nI (prtP S p (dx S p 0) k)) (nI 1) = _ from a1, bS]
/-- the loop of the reference's that begins with none -/
theorem none_first {w : Nat} {n : Nat} {v : Nat → Nat} (hv : ∀ i, v i < 2147483648) (h0 : 0 < n) : fo (fun i a => if a = -1 then nI (v i) else exI w a (nI (v i))) 0 n (-1) = fo (fun i a => exI w a (nI (v i))) 1 (n - 1) (nI (v 0)) := by
  rw [fo_s h0]
  refine fo_congr (fun _ a => ∃ b, b < 2147483648 ∧ a = nI b) ⟨v 0, hv 0, if_pos rfl⟩ ?_
  rintro i a h1 h2 ⟨b, hb, rfl⟩
  refine ⟨if_neg (fun q => (m1_n hb).mp q), ?_⟩
  rw [if_neg (fun q => (m1_n hb).mp q), exI_n hb (hv i)]
  refine ⟨_, ?_, rfl⟩
  have := hv i
  split <;> omega
theorem q_span (x y z : Int32) : Cmd (B_span x y z) (M_span x y z) := by
  intro S μ ν W C R
  unfold B_span M_span
  rw [within_in]
  rcases inT z with hw | ⟨w, hw1, rfl, hw⟩
  · rw [hw, bS, bS, if_pos (by decide), if_pos (by decide)]; exact ⟨_, _, _, rfl, rfl, C, R⟩
  · rw [hw, bS, bS, if_neg (by decide), if_neg (by decide)]
    -- the reference, where it refuses
    have hM : ∀ e : Int32, (outN x (nPg S) ∨ (∃ p, p < nPg S ∧ x = nI p ∧ ∀ k, k < mT S p → ¬ y = nI (sN S 703 p k))) → ∃ ν', ((M_isThing y ν).bind fun x2 => if x2 = 0 then some (-1, ν) else (M_isTold x ν).bind fun (x3, μ4) => if x3 = 0 then some (-1, μ4) else if mI μ4 1342 0 0 = 0 then some (-1, μ4) else (M_onPage x y μ4).bind fun x5 => if x5 = -1 then some (-1, μ4) else (M_onPage x y μ4).bind fun x6 => (M_span_l1 x (nI w) x6 FU (-1) (nI 0) μ4).bind fun (x7, μ8) => some (x7, μ8)) = some ((-1 : Int32), ν') ∧ MR S ν' := by
      intro e hx
      rcases th_arg W y with hy | ⟨t, hy, rfl⟩
      · rw [isT0 W R hy, bS, if_pos (by decide)]; exact ⟨ν, rfl, R⟩
      · rw [isT1 W R hy, bS, if_neg (by decide)]
        rcases hx with hx | ⟨p, hp, rfl, hx⟩
        · rw [told_out W R hx, bS]; simp only []; rw [if_pos (by decide)]; exact ⟨ν, rfl, R⟩
        · by_cases ht : told S p
          · obtain ⟨ν1, b1, b2, b3, -⟩ := told_yes W R hp ht
            rw [b1, bS]; simp only []; rw [if_neg (by decide)]
            by_cases hz : mI ν1 1342 0 0 = 0
            · rw [if_pos hz]; exact ⟨ν1, rfl, b2⟩
            · obtain ⟨o, o1, o2⟩ := place_M W b2.pg hp (nI t)
              rw [if_neg hz, o1, bS, plc_one W hp o2 (Or.inl ⟨rfl, hx⟩), if_pos rfl]; exact ⟨ν1, rfl, b2⟩
          · obtain ⟨ν1, b1, b2⟩ := told_not W R hp ht
            rw [b1, bS]; simp only []; rw [if_pos (by decide)]; exact ⟨ν1, rfl, b2⟩
    rcases pg_arg W x with hx | ⟨p, hp, rfl⟩
    · obtain ⟨ν', h1, h2⟩ := hM 0 (Or.inl hx)
      rw [hasP0 C hx, bS, if_pos (by decide)]
      exact ⟨_, _, ν', rfl, h1, C, h2⟩
    · rw [hasP1 W C hp, bS, if_neg (by decide)]
      obtain ⟨o, o1, o3⟩ := place_C W C.pg hp y
      rw [o1, bS]
      rcases o3 with ⟨rfl, ho⟩ | ⟨k, hk, rfl, rfl⟩
      · obtain ⟨ν', h1, h2⟩ := hM 0 (Or.inr ⟨p, hp, rfl, ho⟩)
        rw [if_pos rfl]
        exact ⟨_, _, ν', rfl, h1, C, h2⟩
      · have hm8 := (W.pg.2.1 p hp).1.2
        have hth := ((W.pg.2.1 p hp).2.1 k hk).1
        rw [if_neg (fun q => (m1_n (by omega)).mp q), isT1 W R hth, bS, if_neg (by decide)]
        have hpl : plcR S p (nI (sN S 703 p k)) (nI k) := Or.inr ⟨k, hk, rfl, rfl⟩
        refine q_some (fC := fun μ5 => (Pages_placeOf (nI p) (nI (sN S 703 p k)) μ5).bind fun x6 => (Taster_edge x6 (nI w) μ5).bind fun x7 => some (x7, μ5)) (fM := fun μ4 => (M_onPage (nI p) (nI (sN S 703 p k)) μ4).bind fun x5 => if x5 = -1 then some (-1, μ4) else (M_onPage (nI p) (nI (sN S 703 p k)) μ4).bind fun x6 => (M_span_l1 (nI p) (nI w) x6 FU (-1) (nI 0) μ4).bind fun (x7, μ8) => some (x7, μ8)) W C R ?_
        rintro p' μ ν hp' hpp ht h0 hO hR hF
        have : p' = p := ((eq_n (by have := W.pg.1; omega) (by have := W.pg.1; omega)).mp hpp).symm
        subst this
        have h5 := dl_le ht
        obtain ⟨o, e1, e2⟩ := place_C W hO.1.pg hp (nI (sN S 703 p' k))
        rw [plc_one W hp e2 hpl] at e1
        obtain ⟨o, e3, e4⟩ := place_M W hR.pg hp (nI (sN S 703 p' k))
        rw [plc_one W hp e4 hpl] at e3
        have a1 := edge_C W hO ht h0 hk hw1
        let g : Nat → Int32 → Int32 := fun i a => if a = -1 then nI (pvN S p' k i) else exI w a (nI (pvN S p' k i))
        obtain ⟨ν1, b1, b2, -, -⟩ := M_over (S := S) (p := p') (fun f i (s : Int32 × Mem) => M_span_l1 (nI p') (nI w) (nI k) f s.1 i s.2) g (fun a μ => (a, μ)) (fun _ _ _ => True) ht (by
          intro f i acc ν hi hd hR hF _
          obtain ⟨ν1, c1, c2, c3, c4, -⟩ := go_M W hR hp ht hF hd
          refine ⟨ν1, ?_, c2, c3, trivial⟩
          show M_span_l1b (nI p') (nI w) (nI k) (M_span_l1 (nI p') (nI w) (nI k) f) acc (nI i) ν = _
          unfold M_span_l1b
          rw [hF.1, if_pos ((lt_n (by omega) (by omega)).mpr hi), c1, bS, rd_n (by omega) (by decide), c4.1 k hk, bS, bS, bS]
          by_cases e : acc = -1
          · rw [if_pos e, bS, bS, add_n]; simp only [g, if_pos e]; rfl
          · rw [if_neg e]
            by_cases e2 : w = 0
            · rw [if_pos ((eq0_n (by omega)).mpr e2), bS, bS, add_n]; simp only [g, if_neg e, exI, if_pos e2]; rfl
            · rw [if_neg (fun q => e2 ((eq0_n (by omega)).mp q)), bS, bS, add_n]; simp only [g, if_neg e, exI, if_neg e2]; rfl) (by
          intro f acc ν hR hF
          show M_span_l1b (nI p') (nI w) (nI k) (M_span_l1 (nI p') (nI w) (nI k) f) acc (nI _) ν = _
          unfold M_span_l1b
          rw [hF.1, if_neg (fun q => absurd ((lt_n (by omega) (by omega)).mp q) (by omega))]) (k := 0) (acc := -1) (Nat.zero_le _) hR hF trivial
        have hg := none_first (w := w) (v := pvN S p' k) (fun i => Nat.lt_of_le_of_lt (prt_bd W _ hp hk).2 (by decide)) h0
        rw [Nat.sub_zero, show fo g 0 (dl S p').length (-1) = _ from hg] at b1
        simp only [e1, e3, bS]
        rw [a1, if_neg (fun q => (m1_n (by omega)).mp q), show M_span_l1 (nI p') (nI w) (nI k) FU (-1) (nI 0) ν = _ from b1, bS, bS]
        exact ⟨_, _, _, rfl, rfl, hO.1, b2⟩
