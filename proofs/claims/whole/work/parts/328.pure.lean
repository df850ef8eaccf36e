/-! PURE: thing -/
def mnT (u v : Nat) : Nat := nv ((B_monthsBetween (nI u) (nI v)).getD 0)
def mnK (u v : Nat) : Bool := decide (mnT u v < 4096) && decide (B_monthsBetween (nI u) (nI v) = some (nI (mnT u v))) && decide (M_thing_l1 (nI v) FU (nI 1 <<< ((nI u - nI 1) &&& 31)) (nI u) = some (nI (mnT u v)))
theorem mn_all : ((List.range 12).all fun u => (List.range 12).all fun v => mnK (u + 1) (v + 1)) = true := by decide +kernel
theorem mn_at {u v : Nat} (hu : 1 ≤ u) (hu2 : u ≤ 12) (hv : 1 ≤ v) (hv2 : v ≤ 12) : ∃ m, m < 4096 ∧ B_monthsBetween (nI u) (nI v) = some (nI m) ∧ M_thing_l1 (nI v) FU (nI 1 <<< ((nI u - nI 1) &&& 31)) (nI u) = some (nI m) := by
  have h := mn_all
  rw [List.all_eq_true] at h
  have h1 := h (u - 1) (List.mem_range.mpr (by omega))
  rw [List.all_eq_true] at h1
  have h2 := h1 (v - 1) (List.mem_range.mpr (by omega))
  rw [show u - 1 + 1 = u by omega, show v - 1 + 1 = v by omega] at h2
  unfold mnK at h2
  simp only [Bool.and_eq_true, decide_eq_true_eq] at h2
  exact ⟨mnT u v, h2.1.1, h2.1.2, h2.2⟩
theorem q_thing (x y z : Int32) (b : Nat) (hb : b ≤ 1) (f g : Int32) : Mut (B_thing x y z (nI b) f g) (M_thing x y z (nI b) f g) := by
  intro S μ ν W C R h9
  have h12 := W.th.1
  have same : Same1 S μ ν := same1 W C R
  unfold B_thing M_thing
  rw [within_in]
  rcases in_nat x 0 99 (by decide) (by decide) with h | ⟨x, -, x2, rfl, h⟩
  · rw [h, bS, bS, if_pos z00, if_pos z00]; exact same
  rw [h, bS, bS, if_neg n10, if_neg n10]
  clear h
  rcases in_nat y 0 99 (by decide) (by decide) with h | ⟨y, -, y2, rfl, h⟩
  · rw [h, bS, bS, if_pos z00, if_pos z00]; exact same
  rw [h, bS, bS, if_neg n10, if_neg n10]
  clear h
  rcases in_nat z 0 99 (by decide) (by decide) with h | ⟨z, -, z2, rfl, h⟩
  · rw [h, bS, bS, if_pos z00, if_pos z00]; exact same
  rw [h, bS, bS, if_neg n10, if_neg n10]
  clear h
  rcases in_nat f 1 12 (by decide) (by decide) with h | ⟨u, u1, u2, rfl, h⟩
  · rw [h, bS, bS, if_pos z00, if_pos z00]; exact same
  rw [h, bS, bS, if_neg n10, if_neg n10]
  clear h
  rcases in_nat g 1 12 (by decide) (by decide) with h | ⟨v, v1, v2, rfl, h⟩
  · rw [h, bS, bS, if_pos z00, if_pos z00]; exact same
  rw [h, bS, bS, if_neg n10, if_neg n10, C.th.1, R.th.1]
  clear h
  by_cases h : nTh S = 12
  · rw [h, if_neg (by decide), if_pos rfl]; exact same
  rw [if_pos ((lt_n (by omega) (by decide)).mpr (by omega)), if_neg (fun z => h ((eq_n (by omega) (by decide)).mp z))]
  obtain ⟨m, hm, eB, eM⟩ := mn_at u1 u2 v1 v2
  have hbb : nI b = 0 ∨ nI b = 1 := by
    rcases (show b = 0 ∨ b = 1 by omega) with rfl | rfl
    · exact Or.inl rfl
    · exact Or.inr rfl
  have hr : sN S 807 0 0 < 2 ^ nTh S := W.th.2.1
  have hr2 : sN S 807 0 0 < 2 ^ 12 := Nat.lt_of_lt_of_le hr (Nat.pow_le_pow_right (by decide) (by omega))
  have hp2 : 2 ^ nTh S < 4096 := Nat.pow_lt_pow_right (by decide) (show nTh S < 12 by omega)
  let rw' := if b = 0 then sN S 807 0 0 else sN S 807 0 0 ||| 2 ^ nTh S
  have hrw : rw' < 2 ^ (nTh S + 1) := by
    show (if b = 0 then _ else _) < _
    have e1 : 2 ^ nTh S < 2 ^ (nTh S + 1) := Nat.pow_lt_pow_right (by decide) (by omega)
    split
    · omega
    · exact Nat.or_lt_two_pow (by omega) e1
  let μ1 := mSI (mSI (mSI (mSI (mSI μ 800 0 (nTh S) (nI x)) 801 0 (nTh S) (nI y)) 802 0 (nTh S) (nI z)) 803 0 (nTh S) (nI m)) 808 0 0 (nI (nTh S + 1))
  let μ2 := if b = 0 then μ1 else mSI μ1 807 0 0 (nI rw')
  have eP : Pantry_put (nI x) (nI y) (nI z) (nI m) μ = some μ1 := by
    have b1 : mI (mSI μ 800 0 (nTh S) (nI x)) 808 0 0 = nI (nTh S) := (iS_v (by decide)).trans C.th.1
    have b2 : mI (mSI (mSI μ 800 0 (nTh S) (nI x)) 801 0 (nTh S) (nI y)) 808 0 0 = nI (nTh S) := (iS_v (by decide)).trans b1
    have b3 : mI (mSI (mSI (mSI μ 800 0 (nTh S) (nI x)) 801 0 (nTh S) (nI y)) 802 0 (nTh S) (nI z)) 808 0 0 = nI (nTh S) := (iS_v (by decide)).trans b2
    have b4 : mI (mSI (mSI (mSI (mSI μ 800 0 (nTh S) (nI x)) 801 0 (nTh S) (nI y)) 802 0 (nTh S) (nI z)) 803 0 (nTh S) (nI m)) 808 0 0 = nI (nTh S) := (iS_v (by decide)).trans b3
    unfold Pantry_put
    rw [C.th.1, wr_n (by omega) (by decide), bS, b1, wr_n (by omega) (by decide), bS, b2, wr_n (by omega) (by decide), bS, b3, wr_n (by omega) (by decide), bS, bS, b4, add_n]
  have n8 : mI μ1 808 0 0 = nI (nTh S + 1) := iS_eq
  have n8' : mI μ2 808 0 0 = nI (nTh S + 1) := by
    show mI (if b = 0 then _ else _) 808 0 0 = _
    split
    · exact n8
    · exact (iS_v (by decide)).trans n8
  have n7 : mI μ1 807 0 0 = nI (sN S 807 0 0) := (iS_v (by decide)).trans ((iS_v (by decide)).trans ((iS_v (by decide)).trans ((iS_v (by decide)).trans ((iS_v (by decide)).trans C.th.2.1))))
  have eR : (if nI b = 0 then some μ1 else (some (mSI μ1 807 0 0 ((mI μ1 807 0 0) ||| ((nI 1) <<< (((mI μ1 808 0 0) - (nI 1)) &&& 31))))).bind fun μ8 => some μ8) = some μ2 := by
    rcases (show b = 0 ∨ b = 1 by omega) with h0 | h0
    · rw [if_pos (by rw [h0]; rfl)]
      show _ = some (if b = 0 then _ else _)
      rw [if_pos h0]
    · rw [if_neg (by rw [h0]; exact n10), bS, n7, n8, sub_n (by omega), Nat.add_sub_cancel, shl_n (by omega) (by omega), Nat.one_mul, or_n]
      show _ = some (if b = 0 then _ else mSI μ1 807 0 0 (nI (if b = 0 then _ else _)))
      rw [if_neg (c := b = 0) (by omega), if_neg (c := b = 0) (by omega)]
  rw [eB, bS, eP, bS, eR, bS, n8', sub_n (by omega), Nat.add_sub_cancel]
  let ν1 := mSI (mSI (mSI (mSI (mSI (mSI ν 1306 0 (nTh S) (nI x)) 1307 0 (nTh S) (nI y)) 1308 0 (nTh S) (nI z)) 1309 0 (nTh S) (nI b)) 1310 0 (nTh S) (nI m)) 1314 0 0 (nI (nTh S + 1))
  have d1 : mI (mSI ν 1306 0 (nTh S) (nI x)) 1314 0 0 = nI (nTh S) := (iS_v (by decide)).trans R.th.1
  have d2 : mI (mSI (mSI ν 1306 0 (nTh S) (nI x)) 1307 0 (nTh S) (nI y)) 1314 0 0 = nI (nTh S) := (iS_v (by decide)).trans d1
  have d3 : mI (mSI (mSI (mSI ν 1306 0 (nTh S) (nI x)) 1307 0 (nTh S) (nI y)) 1308 0 (nTh S) (nI z)) 1314 0 0 = nI (nTh S) := (iS_v (by decide)).trans d2
  have d4 : mI (mSI (mSI (mSI (mSI ν 1306 0 (nTh S) (nI x)) 1307 0 (nTh S) (nI y)) 1308 0 (nTh S) (nI z)) 1309 0 (nTh S) (nI b)) 1314 0 0 = nI (nTh S) := (iS_v (by decide)).trans d3
  have d5 : mI (mSI (mSI (mSI (mSI (mSI ν 1306 0 (nTh S) (nI x)) 1307 0 (nTh S) (nI y)) 1308 0 (nTh S) (nI z)) 1309 0 (nTh S) (nI b)) 1310 0 (nTh S) (nI m)) 1314 0 0 = nI (nTh S) := (iS_v (by decide)).trans d4
  rw [wr_n (by omega) (by decide), bS, d1, wr_n (by omega) (by decide), bS, d2, wr_n (by omega) (by decide), bS, d3, wz_n (by omega) (by decide) hbb, bS, bS, eM, bS, d4, wr_n (by omega) (by decide), bS, bS, d5, add_n, iS_eq, sub_n (by omega), Nat.add_sub_cancel]
  let S' := stN (stN (stN (stN (stN (stN (stN S 800 0 (nTh S) x) 801 0 (nTh S) y) 802 0 (nTh S) z) 803 0 (nTh S) m) 809 0 (nTh S) b) 807 0 0 rw') 808 0 0 (nTh S + 1)
  have a : Ag [800, 801, 802, 803, 807, 808, 809] S S' := Ag.sn (by simp) (Ag.sn (by simp) (Ag.sn (by simp) (Ag.sn (by simp) (Ag.sn (by simp) (Ag.sn (by simp) (Ag.sn (by simp) Ag.rfl))))))
  have F1 : Fr [800, 801, 802, 803, 807, 808] μ μ1 := fr_si (by simp) (fr_si (by simp) (fr_si (by simp) (fr_si (by simp) (fr_si (by simp) Fr.refl))))
  have FC : Fr [800, 801, 802, 803, 807, 808] μ μ2 := by
    show Fr _ μ (if b = 0 then _ else _)
    split
    · exact F1
    · exact fr_si (by simp) F1
  have FM : Fr [1306, 1307, 1308, 1309, 1310, 1314] ν ν1 := fr_si (by simp) (fr_si (by simp) (fr_si (by simp) (fr_si (by simp) (fr_si (by simp) (fr_si (by simp) Fr.refl)))))
  have kn : nTh S' = nTh S + 1 := n_eq
  have k7 : sN S' 807 0 0 = rw' := (n_v (by decide)).trans n_eq
  have k0 : ∀ t, sN S' 800 0 t = if t = nTh S then x else sN S 800 0 t := fun t => by
    refine (n_v (by decide)).trans ((n_v (by decide)).trans ((n_v (by decide)).trans ((n_v (by decide)).trans ((n_v (by decide)).trans ((n_v (by decide)).trans ?_)))))
    by_cases e : t = nTh S
    · subst e; rw [if_pos rfl]; exact n_eq
    · rw [if_neg e]; exact n_c e
  have k1 : ∀ t, sN S' 801 0 t = if t = nTh S then y else sN S 801 0 t := fun t => by
    refine (n_v (by decide)).trans ((n_v (by decide)).trans ((n_v (by decide)).trans ((n_v (by decide)).trans ((n_v (by decide)).trans ?_))))
    by_cases e : t = nTh S
    · subst e; rw [if_pos rfl]; exact n_eq
    · rw [if_neg e]; exact (n_c e).trans (n_v (by decide))
  have k2 : ∀ t, sN S' 802 0 t = if t = nTh S then z else sN S 802 0 t := fun t => by
    refine (n_v (by decide)).trans ((n_v (by decide)).trans ((n_v (by decide)).trans ((n_v (by decide)).trans ?_)))
    by_cases e : t = nTh S
    · subst e; rw [if_pos rfl]; exact n_eq
    · rw [if_neg e]; exact (n_c e).trans ((n_v (by decide)).trans (n_v (by decide)))
  have k3 : ∀ t, sN S' 803 0 t = if t = nTh S then m else sN S 803 0 t := fun t => by
    refine (n_v (by decide)).trans ((n_v (by decide)).trans ((n_v (by decide)).trans ?_))
    by_cases e : t = nTh S
    · subst e; rw [if_pos rfl]; exact n_eq
    · rw [if_neg e]; exact (n_c e).trans ((n_v (by decide)).trans ((n_v (by decide)).trans (n_v (by decide))))
  have k9 : ∀ t, sN S' 809 0 t = if t = nTh S then b else sN S 809 0 t := fun t => by
    refine (n_v (by decide)).trans ((n_v (by decide)).trans ?_)
    by_cases e : t = nTh S
    · subst e; rw [if_pos rfl]; exact n_eq
    · rw [if_neg e]; exact (n_c e).trans ((n_v (by decide)).trans ((n_v (by decide)).trans ((n_v (by decide)).trans (n_v (by decide)))))
  have kk := fun v hv r c => a.n (L := [804, 805, 806]) (by decide) v hv r c
  have bitN : (sN S 807 0 0).testBit (nTh S) = false := Nat.testBit_lt_two_pow hr
  have bit' : ∀ t, t < nTh S → rw'.testBit t = (sN S 807 0 0).testBit t := fun t ht => by
    show (if b = 0 then _ else _ : Nat).testBit t = _
    split
    · rfl
    · rw [Nat.testBit_or, Nat.testBit_two_pow_of_ne (by omega), Bool.or_false]
  have h_th : W_th S' := by
    obtain ⟨w1, w2, w3, w4, w5⟩ := W.th
    unfold W_th
    rw [kn, k7]
    simp only [kk 804 (by decide), kk 805 (by decide), kk 806 (by decide)]
    refine ⟨by omega, hrw, fun t ht => ?_, w4, fun t ht => w5 t (by omega)⟩
    rw [k0, k1, k2, k3, k9]
    by_cases e : t = nTh S
    · rw [if_pos e, if_pos e, if_pos e, if_pos e, if_pos e]
      refine ⟨x2, y2, z2, hm, ?_, hb⟩
      rw [e]
      show (if b = 0 then _ else _ : Nat).testBit _ = _
      rcases (show b = 0 ∨ b = 1 by omega) with h0 | h0
      · rw [if_pos h0, bitN, h0]; rfl
      · rw [if_neg (by omega), Nat.testBit_or, Nat.testBit_two_pow_self, Bool.or_true, h0]; rfl
    · rw [if_neg e, if_neg e, if_neg e, if_neg e, if_neg e, bit' t (by omega)]
      exact w3 t (by omega)
  have c_th : C_th S' μ2 := by
    obtain ⟨w1, w2, w3, w4⟩ := C.th
    unfold C_th
    rw [kn, k7]
    simp only [kk 804 (by decide), kk 805 (by decide), kk 806 (by decide), FC.i 804 (by decide), FC.i 805 (by decide), FC.i 806 (by decide)]
    have r7 : mI μ2 807 0 0 = nI rw' := by
      show mI (if b = 0 then _ else _) 807 0 0 = nI (if b = 0 then _ else _)
      split
      · exact n7
      · rename_i h0
        refine iS_eq.trans ?_
        show nI (if b = 0 then _ else _) = _
        rw [if_neg h0]
    have m2 : ∀ w, w ≠ 807 → ∀ t, mI μ2 w 0 t = mI μ1 w 0 t := fun w hw t => by
      show mI (if b = 0 then _ else _) w 0 t = _
      split
      · rfl
      · exact iS_v hw
    refine ⟨n8', r7, fun t ht => ?_, w4⟩
    rw [k0, k1, k2, k3, m2 800 (by decide), m2 801 (by decide), m2 802 (by decide), m2 803 (by decide)]
    by_cases e : t = nTh S
    · subst e
      rw [if_pos rfl, if_pos rfl, if_pos rfl, if_pos rfl]
      exact ⟨(iS_v (by decide)).trans ((iS_v (by decide)).trans ((iS_v (by decide)).trans ((iS_v (by decide)).trans iS_eq))), (iS_v (by decide)).trans ((iS_v (by decide)).trans ((iS_v (by decide)).trans iS_eq)), (iS_v (by decide)).trans ((iS_v (by decide)).trans iS_eq), (iS_v (by decide)).trans iS_eq⟩
    · rw [if_neg e, if_neg e, if_neg e, if_neg e]
      obtain ⟨g1, g2, g3, g4⟩ := w3 t (by omega)
      exact ⟨(iS_v (by decide)).trans ((iS_v (by decide)).trans ((iS_v (by decide)).trans ((iS_v (by decide)).trans ((iS_c e).trans g1)))), (iS_v (by decide)).trans ((iS_v (by decide)).trans ((iS_v (by decide)).trans ((iS_c e).trans ((iS_v (by decide)).trans g2)))), (iS_v (by decide)).trans ((iS_v (by decide)).trans ((iS_c e).trans ((iS_v (by decide)).trans ((iS_v (by decide)).trans g3)))), (iS_v (by decide)).trans ((iS_c e).trans ((iS_v (by decide)).trans ((iS_v (by decide)).trans ((iS_v (by decide)).trans g4))))⟩
  have m_th : M_th S' ν1 := by
    obtain ⟨w1, w3, w4⟩ := R.th
    unfold M_th
    rw [kn]
    simp only [kk 804 (by decide), kk 805 (by decide), kk 806 (by decide), FM.i 1311 (by decide), FM.i 1312 (by decide), FM.i 1313 (by decide)]
    refine ⟨iS_eq, fun t ht => ?_, w4⟩
    rw [k0, k1, k2, k3, k9]
    by_cases e : t = nTh S
    · subst e
      rw [if_pos rfl, if_pos rfl, if_pos rfl, if_pos rfl, if_pos rfl]
      exact ⟨(iS_v (by decide)).trans ((iS_v (by decide)).trans ((iS_v (by decide)).trans ((iS_v (by decide)).trans ((iS_v (by decide)).trans iS_eq)))), (iS_v (by decide)).trans ((iS_v (by decide)).trans ((iS_v (by decide)).trans ((iS_v (by decide)).trans iS_eq))), (iS_v (by decide)).trans ((iS_v (by decide)).trans ((iS_v (by decide)).trans iS_eq)), (iS_v (by decide)).trans iS_eq, (iS_v (by decide)).trans ((iS_v (by decide)).trans iS_eq)⟩
    · rw [if_neg e, if_neg e, if_neg e, if_neg e, if_neg e]
      obtain ⟨g1, g2, g3, g4, g5⟩ := w3 t (by omega)
      exact ⟨(iS_v (by decide)).trans ((iS_v (by decide)).trans ((iS_v (by decide)).trans ((iS_v (by decide)).trans ((iS_v (by decide)).trans ((iS_c e).trans g1))))), (iS_v (by decide)).trans ((iS_v (by decide)).trans ((iS_v (by decide)).trans ((iS_v (by decide)).trans ((iS_c e).trans ((iS_v (by decide)).trans g2))))), (iS_v (by decide)).trans ((iS_v (by decide)).trans ((iS_v (by decide)).trans ((iS_c e).trans ((iS_v (by decide)).trans ((iS_v (by decide)).trans g3))))), (iS_v (by decide)).trans ((iS_c e).trans ((iS_v (by decide)).trans ((iS_v (by decide)).trans ((iS_v (by decide)).trans ((iS_v (by decide)).trans g4))))), (iS_v (by decide)).trans ((iS_v (by decide)).trans ((iS_c e).trans ((iS_v (by decide)).trans ((iS_v (by decide)).trans ((iS_v (by decide)).trans g5)))))⟩
  have kp : nPg S' = nPg S := a.n (L := [712]) (by decide) 712 (by decide) 0 0
  have kt : mT S' = mT S := funext fun p => a.n (L := [702]) (by decide) 702 (by decide) 0 p
  have h_pg : W_pg S' := by
    have hc : ∀ q b n, cntA S' q b n = cntA S q b n := fun q b n => cntA_ag (fun i => a.n (L := [708]) (by decide) 708 (by decide) q i) n
    have ka := fun v hv r c => a.n (L := [703, 704, 705, 706, 707, 708, 709, 710, 711]) (by decide) v hv r c
    unfold W_pg W_p1
    rw [kp, kn, kt]
    simp only [ka 703 (by decide), ka 704 (by decide), ka 705 (by decide), ka 706 (by decide), ka 707 (by decide), ka 708 (by decide), ka 709 (by decide), ka 710 (by decide), ka 711 (by decide), hc]
    obtain ⟨w1, w2, w3⟩ := W.pg
    refine ⟨w1, fun p hp => ?_, w3⟩
    obtain ⟨q1, q2, q3⟩ := w2 p hp
    exact ⟨q1, fun k hk => ⟨by have := (q2 k hk).1; omega, (q2 k hk).2⟩, q3⟩
  have c_ca : C_ca S' μ2 := by
    refine (C_ca.ag W C.ca (by omega) (a.n (L := [908]) (by decide) 908 (by decide) 0 0) (by omega) (by have := W.pg.1; omega) fun p hp => ?_).fr fun v hv => FC.i v (nIn_of (L := [908, 909, 910, 911, 912, 913, 914, 915, 916, 918]) (by decide) hv)
    have ka := fun v hv r c => a.n (L := [702, 703, 704, 705, 706, 710, 903, 905]) (by decide) v hv r c
    have ki := fun v hv r c => a.i (L := [906, 907]) (by decide) v hv r c
    have wp := W.pg.2.1 p hp
    refine ⟨ka 702 (by decide) 0 p, fun k => ⟨ka 703 (by decide) p k, ka 704 (by decide) p k, ka 705 (by decide) p k⟩, ka 706 (by decide) 0 p, fun i => ka 710 (by decide) p i, ka 903 (by decide) 0 0, ka 905 (by decide) 0 p, fun l => ⟨ki 906 (by decide) p l, ki 907 (by decide) p l⟩, fun k hk => ?_, ?_, fun l _ => rfl⟩
    · have := (wp.2.1 k hk).1
      rw [k0, k1, k2, if_neg (by omega), if_neg (by omega), if_neg (by omega)]
      exact ⟨rfl, rfl, rfl⟩
    · have e6 : sN S 706 0 p &&& rw' = sN S 706 0 p &&& sN S 807 0 0 := by
        refine Nat.eq_of_testBit_eq fun t => ?_
        rw [Nat.testBit_and, Nat.testBit_and]
        by_cases ht : t < nTh S
        · rw [bit' t ht]
        · have : (sN S 706 0 p).testBit t = false := by
            cases hb : (sN S 706 0 p).testBit t with
            | false => rfl
            | true =>
              obtain ⟨k, hk, h3⟩ := (wp.2.2.2.1.2 t).mp hb
              have := (wp.2.1 k hk).1
              omega
          rw [this, Bool.false_and, Bool.false_and]
      rw [k7, e6]
  exact ⟨_, S', _, _, rfl, rfl, ⟨W.tp.ag a (by decide), h_th, h_pg, W.lw.ag a (by decide) (fun _ _ => rfl), W.tr.ag a (by decide), W.ho.ag a (by decide), W.bk.ag a (by decide), W.dy.ag a (by decide)⟩, ⟨C.tp.mv a (by decide) FC (by decide), c_th, C.pg.mv a (by decide) FC (by decide), C.lw.mv a (by decide) rfl FC (by decide), C.tr.mv a (by decide) FC (by decide), C.ho.mv a (by decide) FC (by decide), C.bk.mv a (by decide) FC (by decide), C.dy.mv a (by decide) FC (by decide), c_ca, C.kn.mv a (by decide) FC (by decide)⟩, ⟨R.tp.mv a (by decide) FM (by decide), m_th, R.pg.mv a (by decide) FM (by decide), R.lw.mv a (by decide) rfl FM (by decide), R.tr.mv a (by decide) FM (by decide), R.ho.mv a (by decide) FM (by decide), R.bk.mv a (by decide) FM (by decide), R.dy.mv a (by decide) FM (by decide)⟩, Nat.le_succ _⟩
