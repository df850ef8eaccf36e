/-! PURE: a menu is tried and weighed in the reference -/
theorem isMenu_M {S : St} {d a K : Nat} {x : Nat → Nat} {ν : Mem} (W : WF S) (R : MR S ν) (hd : d < nDy S) (h5 : mm S a ≤ 5) (hG : mG S a < 4096) (hK : K ≤ 99) (L : R_mn S d a ν) (X : R_x S a x ν) (hx : ∀ i, i < mm S a → x i ≤ 9) : M_isMenu (nI d) (nI K) ν = some (nI (isMn S d a K x).toNat) := by
  have h12 := W.th.1
  have h10 := W.dy.1
  obtain ⟨r, e1, e2⟩ : ∃ r, M_isMenu_l1 (nI d) (nI K) ν FU (nI 0) = some r ∧ r = nI (isMn S d a K x).toNat := by
    refine loopE (fun f v (_ : Unit) => M_isMenu_l1 (nI d) (nI K) ν f v) (nTh S) (fun c _ => ∀ t, t < c → (mG S a).testBit t = true → usN S d a x t (mm S a) ≤ sN S 105 d t ∧ sN S 105 d t - usN S d a x t (mm S a) ≤ K) (fun r => r = nI (isMn S d a K x).toNat) ?_ ?_ (nTh S) 0 () FU (by omega) (FU_lt (by omega)) (fun t h => absurd h (by omega))
    · rintro f t - ht hI
      have hu := us_le (d := d) (t := t) W (Nat.le_refl (mm S a)) hx
      have hB := W.dy.2.2 d t (by omega) (by omega)
      have e2 : M_isMenu_l2 (nI d) (nI K) (nI t) ν FU (nI 0) (nI 0) = some (nI (usN S d a x t (mm S a))) := by
        obtain ⟨r, e1, e2⟩ : ∃ r, M_isMenu_l2 (nI d) (nI K) (nI t) ν FU (nI 0) (nI 0) = some r ∧ r = nI (usN S d a x t (mm S a)) := by
          refine loopE (fun f v s => M_isMenu_l2 (nI d) (nI K) (nI t) ν f s v) (mm S a) (fun c s => s = nI (usN S d a x t c)) (fun r => r = nI (usN S d a x t (mm S a))) ?_ ?_ (mm S a) 0 (nI 0) FU (by omega) (FU_lt (by omega)) rfl
          · rintro f k s hk rfl
            left
            refine ⟨nI (usN S d a x t (k + 1)), ?_, rfl⟩
            show M_isMenu_l2b (nI d) (nI K) (nI t) ν (M_isMenu_l2 (nI d) (nI K) (nI t) ν f) (nI (usN S d a x t k)) (nI k) = _
            unfold M_isMenu_l2b
            rw [L.1, if_pos ((lt_n (by omega) (by omega)).mpr hk), mul_n, add_n, rd_n (by omega) (by decide), (L.2.2 k hk).2.2 t (by omega), bS, rd_n (by omega) (by decide), X k hk, bS, mul_n, add_n, bS, bS, add_n]
            rfl
          · rintro f s hs
            refine ⟨s, ?_, hs⟩
            show M_isMenu_l2b (nI d) (nI K) (nI t) ν (M_isMenu_l2 (nI d) (nI K) (nI t) ν f) s (nI (mm S a)) = _
            unfold M_isMenu_l2b
            rw [L.1, if_neg (fun z => absurd ((lt_n (by omega) (by omega)).mp z) (by omega))]
        rw [e1, e2]
      have step : M_isMenu_l1 (nI d) (nI K) ν (f + 1) (nI t) = if (mG S a).testBit t = true ∧ ¬ (usN S d a x t (mm S a) ≤ sN S 105 d t ∧ sN S 105 d t - usN S d a x t (mm S a) ≤ K) then some (nI 0) else M_isMenu_l1 (nI d) (nI K) ν f (nI (t + 1)) := by
        show M_isMenu_l1b (nI d) (nI K) ν (M_isMenu_l1 (nI d) (nI K) ν f) (nI t) = _
        unfold M_isMenu_l1b
        rw [R.th.1, if_pos ((lt_n (by omega) (by omega)).mpr ht), e2, bS, L.2.1, mhas (by omega) (by omega), bS]
        cases hb : (mG S a).testBit t with
        | false => rw [if_pos (show nI false.toNat = 0 from rfl), bS, add_n, if_neg (fun z => nomatch z.1)]
        | true =>
          rw [if_neg (show ¬ nI true.toNat = 0 from n10), mul_n, add_n, rd_n (by omega) (by decide), R.dy.2.2 d t (by omega) (by omega), bS, in_sub (by omega) (by omega) (by omega), bS]
          by_cases hc : usN S d a x t (mm S a) ≤ sN S 105 d t ∧ sN S 105 d t - usN S d a x t (mm S a) ≤ K
          · rw [decide_eq_true hc.1, decide_eq_true hc.2, if_neg (show ¬ nI (true && true).toNat = 0 from n10), bS, add_n, if_neg (fun z => z.2 hc)]
          · have : (decide (usN S d a x t (mm S a) ≤ sN S 105 d t) && decide (sN S 105 d t - usN S d a x t (mm S a) ≤ K)) = false := by
              cases h1 : decide (usN S d a x t (mm S a) ≤ sN S 105 d t) with
              | false => rfl
              | true => rw [Bool.true_and]; exact decide_eq_false fun z => hc ⟨of_decide_eq_true h1, z⟩
            rw [this, if_pos (show nI false.toNat = 0 from rfl), rz_0, if_pos ⟨rfl, hc⟩]
      show (∃ s', M_isMenu_l1 (nI d) (nI K) ν (f + 1) (nI t) = _ ∧ _) ∨ (∃ r, M_isMenu_l1 (nI d) (nI K) ν (f + 1) (nI t) = _ ∧ _)
      rw [step]
      by_cases hc : (mG S a).testBit t = true ∧ ¬ (usN S d a x t (mm S a) ≤ sN S 105 d t ∧ sN S 105 d t - usN S d a x t (mm S a) ≤ K)
      · right
        rw [if_pos hc]
        refine ⟨_, rfl, ?_⟩
        have : isMn S d a K x = false := by
          cases hm : isMn S d a K x with
          | false => rfl
          | true => exact absurd (isMn_iff.mp hm t ht hc.1) hc.2
        rw [this]; rfl
      · left
        rw [if_neg hc]
        refine ⟨(), rfl, fun u hu hb => ?_⟩
        by_cases e : u = t
        · subst e
          exact Classical.byContradiction fun z => hc ⟨hb, z⟩
        · exact hI u (by omega) hb
    · rintro f - hI
      refine ⟨nI 1, ?_, ?_⟩
      · show M_isMenu_l1b (nI d) (nI K) ν (M_isMenu_l1 (nI d) (nI K) ν f) (nI (nTh S)) = _
        unfold M_isMenu_l1b
        rw [R.th.1, if_neg (fun z => absurd ((lt_n (by omega) (by omega)).mp z) (by omega)), rz_1]
      · rw [isMn_iff.mpr hI]; rfl
  unfold M_isMenu
  rw [e1, e2]
