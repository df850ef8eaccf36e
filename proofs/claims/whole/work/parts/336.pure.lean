/-! PURE: what a menu leaves, in the reference -/
theorem waste_M {S : St} {d a K : Nat} {x : Nat → Nat} {ν : Mem} (W : WF S) (R : MR S ν) (hd : d < nDy S) (h5 : mm S a ≤ 5) (hG : mG S a < 4096) (L : R_mn S d a ν) (h72 : mI ν 1372 0 0 = nI d) (X : R_x S a x ν) (hx : ∀ i, i < mm S a → x i ≤ 9) (hm : isMn S d a K x = true) : M_wasteNow ν = some (nI (wsN S d a x (nTh S))) := by
  have h12 := W.th.1
  have h10 := W.dy.1
  have hmn := isMn_iff.mp hm
  obtain ⟨r, e1, e2⟩ : ∃ r, M_wasteNow_l1 ν FU (nI 0) (nI 0) = some r ∧ r = nI (wsN S d a x (nTh S)) := by
    refine loopE (fun f v s => M_wasteNow_l1 ν f s v) (nTh S) (fun c s => s = nI (wsN S d a x c)) (fun r => r = nI (wsN S d a x (nTh S))) ?_ ?_ (nTh S) 0 (nI 0) FU (by omega) (FU_lt (by omega)) rfl
    · rintro f t s ht rfl
      left
      have hB := W.dy.2.2 d t (by omega) (by omega)
      have hw := ws_le (x := x) (a := a) W (show d < 10 by omega) (show t ≤ 12 by omega)
      refine ⟨nI (wsN S d a x (t + 1)), ?_, rfl⟩
      have hu : wsN S d a x (t + 1) = wsN S d a x t + (if (mG S a).testBit t then sN S 105 d t - usN S d a x t (mm S a) else 0) := rfl
      show M_wasteNow_l1b ν (M_wasteNow_l1 ν f) (nI (wsN S d a x t)) (nI t) = _
      unfold M_wasteNow_l1b
      rw [R.th.1, if_pos ((lt_n (by omega) (by omega)).mpr ht), L.2.1, mhas (by omega) (by omega), bS, hu]
      cases hb : (mG S a).testBit t with
      | false => rw [if_pos (show nI false.toNat = 0 from rfl), bS, bS, add_n, if_neg (by decide)]; rfl
      | true =>
        have hle := (hmn t ht hb).1
        have e2 : M_wasteNow_l2 (nI t) ν FU (nI (wsN S d a x t + sN S 105 d t)) (nI 0) = some (nI (wsN S d a x t + (sN S 105 d t - usN S d a x t (mm S a)))) := by
          obtain ⟨r, e1, e2⟩ : ∃ r, M_wasteNow_l2 (nI t) ν FU (nI (wsN S d a x t + sN S 105 d t)) (nI 0) = some r ∧ r = nI (wsN S d a x t + (sN S 105 d t - usN S d a x t (mm S a))) := by
            refine loopE (fun f v s => M_wasteNow_l2 (nI t) ν f s v) (mm S a) (fun c s => s = nI (wsN S d a x t + (sN S 105 d t - usN S d a x t c))) (fun r => r = nI (wsN S d a x t + (sN S 105 d t - usN S d a x t (mm S a)))) ?_ ?_ (mm S a) 0 _ FU (by omega) (FU_lt (by omega)) rfl
            · rintro f k s hk rfl
              left
              refine ⟨nI (wsN S d a x t + (sN S 105 d t - usN S d a x t (k + 1))), ?_, rfl⟩
              have hk1 : usN S d a x t (k + 1) ≤ usN S d a x t (mm S a) := us_mono (by omega)
              have hk2 : usN S d a x t (k + 1) = usN S d a x t k + mN S d a k t * x k := rfl
              show M_wasteNow_l2b (nI t) ν (M_wasteNow_l2 (nI t) ν f) (nI (wsN S d a x t + (sN S 105 d t - usN S d a x t k))) (nI k) = _
              unfold M_wasteNow_l2b
              rw [L.1, if_pos ((lt_n (by omega) (by omega)).mpr hk), mul_n, add_n, rd_n (by omega) (by decide), (L.2.2 k hk).2.2 t (by omega), bS, rd_n (by omega) (by decide), X k hk, bS, mul_n]
              generalize mN S d a k t * x k = y at hk2
              rw [sub_n (by omega), bS, bS, add_n, hk2, show wsN S d a x t + (sN S 105 d t - usN S d a x t k) - y = wsN S d a x t + (sN S 105 d t - (usN S d a x t k + y)) by omega]
            · rintro f s hs
              refine ⟨s, ?_, hs⟩
              show M_wasteNow_l2b (nI t) ν (M_wasteNow_l2 (nI t) ν f) s (nI (mm S a)) = _
              unfold M_wasteNow_l2b
              rw [L.1, if_neg (fun z => absurd ((lt_n (by omega) (by omega)).mp z) (by omega))]
          rw [e1, e2]
        rw [if_neg (show ¬ nI true.toNat = 0 from n10), h72, mul_n, add_n, rd_n (by omega) (by decide), R.dy.2.2 d t (by omega) (by omega), bS, add_n, bS, e2, bS, bS, bS, add_n, if_pos rfl]
    · rintro f s hs
      refine ⟨s, ?_, hs⟩
      show M_wasteNow_l1b ν (M_wasteNow_l1 ν f) s (nI (nTh S)) = _
      unfold M_wasteNow_l1b
      rw [R.th.1, if_neg (fun z => absurd ((lt_n (by omega) (by omega)).mp z) (by omega))]
  unfold M_wasteNow
  rw [e1, bS, e2]
