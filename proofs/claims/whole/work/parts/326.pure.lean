/-! PURE: holds -/
theorem dec_in {x a b : Int32} (h : a ≤ x ∧ x ≤ b) : M_in x a b = some (nI 1) := by rw [in_if, if_pos h]
theorem dec_out {x a b : Int32} (h : ¬ (a ≤ x ∧ x ≤ b)) : M_in x a b = some (nI 0) := by rw [in_if, if_neg h]
theorem c6 : (nI 1000000).toInt = 1000000 := nI_toInt (by decide)
theorem cm6 : (-1000000 : Int32).toInt = -1000000 := by decide
theorem q_hold (x y lo hi : Int32) : Mut (B_hold x y lo hi) (M_hold x y lo hi) := by
  intro S μ ν W C R h9
  have h16 := W.pg.1
  have h6 := W.lw.1
  have h20 := W.ho.2.1
  have same : Same1 S μ ν := same1 W C R
  unfold B_hold M_hold
  rw [within_in]
  rcases pg_arg W x with hx | ⟨p, hp, rfl⟩
  · rw [hasP0 C hx, isP0 W R hx, bS, bS, if_pos z00, if_pos z00]; exact same
  rw [hasP1 W C hp, isP1 W R hp, bS, bS, if_neg n10, if_neg n10]
  rcases law_arg W y with hy | ⟨l, hl, rfl⟩
  · rw [hasL0 C hy, isL0 W R hy, bS, bS, if_pos z00, if_pos z00]; exact same
  rw [hasL1 W C hl, isL1 W R hl, bS, bS, if_neg n10, if_neg n10]
  have q6 := c6
  have qm := cm6
  by_cases hg : -1000000 ≤ lo ∧ lo ≤ hi ∧ hi ≤ nI 1000000
  case neg =>
    have eC : (if hi < lo then some ((-1 : Int32), μ) else (M_in lo (-1000000) (nI 1000000)).bind fun x3 => if x3 = 0 then some ((-1), μ) else (M_in hi (-1000000) (nI 1000000)).bind fun x4 => if x4 = 0 then some ((-1), μ) else (Pot_tellHold (nI p) (nI l) lo hi μ).bind fun (x5, μ6) => some (x5, μ6)) = some (-1, μ) := by
      by_cases c1 : hi < lo
      · rw [if_pos c1]
      rw [if_neg c1]
      by_cases c2 : -1000000 ≤ lo ∧ lo ≤ nI 1000000
      · rw [dec_in c2, bS, if_neg n10]
        by_cases c3 : -1000000 ≤ hi ∧ hi ≤ nI 1000000
        · exfalso
          apply hg
          simp only [Int32.le_iff_toInt_le, Int32.lt_iff_toInt_lt] at *
          omega
        · rw [dec_out c3, bS, if_pos z00]
      · rw [dec_out c2, bS, if_pos z00]
    have eM : ∀ k : Mem → Option (Int32 × Mem), ((M_in lo (-1000000) (nI 1000000)).bind fun x3 => if x3 = 0 then some ((-1 : Int32), ν) else (M_in hi lo (nI 1000000)).bind fun x4 => if x4 = 0 then some ((-1), ν) else k ν) = some (-1, ν) := by
      intro k
      by_cases c2 : -1000000 ≤ lo ∧ lo ≤ nI 1000000
      · rw [dec_in c2, bS, if_neg n10]
        by_cases c3 : lo ≤ hi ∧ hi ≤ nI 1000000
        · exfalso
          apply hg
          simp only [Int32.le_iff_toInt_le, Int32.lt_iff_toInt_lt] at *
          omega
        · rw [dec_out c3, bS, if_pos z00]
      · rw [dec_out c2, bS, if_pos z00]
    rw [eC]
    refine ⟨_, S, _, _, rfl, ?_, W, C, R, by omega⟩
    exact eM fun ν => if (mI ν 1338 0 0) = (nI 20) then some ((-1), ν) else (mWr ν 1334 0 20 (mI ν 1338 0 0) (nI p)).bind fun μ5 => (mWr μ5 1335 0 20 (mI μ5 1338 0 0) (nI l)).bind fun μ6 => (mWr μ6 1336 0 20 (mI μ6 1338 0 0) lo).bind fun μ7 => (mWr μ7 1337 0 20 (mI μ7 1338 0 0) hi).bind fun μ8 => (some (mSI μ8 1338 0 0 ((mI μ8 1338 0 0) + (nI 1)))).bind fun μ9 => some ((mI μ9 1338 0 0), μ9)
  have g1 : -1000000 ≤ lo ∧ lo ≤ nI 1000000 := by simp only [Int32.le_iff_toInt_le] at *; omega
  have g2 : -1000000 ≤ hi ∧ hi ≤ nI 1000000 := by simp only [Int32.le_iff_toInt_le] at *; omega
  rw [dec_in g1, dec_in g2, dec_in hg.2, bS, bS, bS, bS, if_neg n10, if_neg n10, if_neg n10, if_neg n10, if_neg (c := hi < lo) (by have := hg.2.1; rw [Int32.lt_iff_toInt_lt]; rw [Int32.le_iff_toInt_le] at this; omega)]
  unfold Pot_tellHold
  rw [C.ho.2.1, R.ho.2.1]
  by_cases h : nHo S = 20
  · rw [h, if_neg (by decide), if_pos rfl, bS]; exact same
  rw [if_pos ((lt_n (by omega) (by decide)).mpr (by omega)), if_neg (fun z => h ((eq_n (by omega) (by decide)).mp z))]
  let n := nHo S
  let bt := (sN S 905 0 p).testBit l
  let vl := if bt then jMax (sI S 906 p l) lo else lo
  let vh := if bt then jMin (sI S 907 p l) hi else hi
  have w5 := W.ho.2.2.1 p (by omega)
  have w5' : sN S 905 0 p < 2 ^ 31 := Nat.lt_of_lt_of_le w5 (Nat.pow_le_pow_right (by decide) (by omega))
  have o5 : sN S 905 0 p ||| 2 ^ l < 2 ^ nLw S := Nat.or_lt_two_pow w5 (Nat.pow_lt_pow_right (by decide) hl)
  have hp2 : 2 ^ l < 64 := Nat.pow_lt_pow_right (by decide) (show l < 6 by omega)
  obtain ⟨p5, p67⟩ := C.ho.2.2 p (by omega)
  obtain ⟨p6, p7⟩ := p67 l (by omega)
  let μ1 := mSI μ 906 p l vl
  let μ2 := mSI μ1 907 p l vh
  let μ3 := mSI μ2 905 0 p (nI (sN S 905 0 p ||| 2 ^ l))
  let μ4 := mSI μ3 904 0 0 (nI (nHo S + 1))
  let μ5 := mSI μ4 908 0 0 (nI (sN S 908 0 0 + 1))
  have eC : ((mRd μ 905 0 16 (nI p)).bind fun x1 => (B_holdsBit x1 (nI l)).bind fun x2 => (if x2 = 0 then some (nI 1) else some (nI 0)).bind fun x3 => (mIx (nI p) 16).bind fun r4 => (if x3 = 0 then ((mIx (nI p) 16).bind fun r5 => (mRd μ 906 r5 6 (nI l)).bind fun x6 => some (jMax x6 lo)) else some lo).bind fun x7 => (mWr μ 906 r4 6 (nI l) x7).bind fun μ8 => (mIx (nI p) 16).bind fun r9 => (if x3 = 0 then ((mIx (nI p) 16).bind fun r10 => (mRd μ8 907 r10 6 (nI l)).bind fun x11 => some (jMin x11 hi)) else some hi).bind fun x12 => (mWr μ8 907 r9 6 (nI l) x12).bind fun μ13 => (mRd μ13 905 0 16 (nI p)).bind fun x14 => (mWr μ13 905 0 16 (nI p) (x14 ||| ((nI 1) <<< ((nI l) &&& 31)))).bind fun μ15 => (some (mSI μ15 904 0 0 ((mI μ15 904 0 0) + (nI 1)))).bind fun μ16 => (some (mSI μ16 908 0 0 ((mI μ16 908 0 0) + (nI 1)))).bind fun μ17 => some ((mI μ17 904 0 0), μ17)) = some (nI (nHo S + 1), μ5) := by
    have f1 : mI μ1 907 p l = sI S 907 p l := (iS_v (by decide)).trans p7
    have f2 : mI μ2 905 0 p = nI (sN S 905 0 p) := (iS_v (by decide)).trans ((iS_v (by decide)).trans p5)
    have f3 : mI μ3 904 0 0 = nI (nHo S) := (iS_v (by decide)).trans ((iS_v (by decide)).trans ((iS_v (by decide)).trans C.ho.2.1))
    have f4 : mI μ4 908 0 0 = nI (sN S 908 0 0) := (iS_v (by decide)).trans ((iS_v (by decide)).trans ((iS_v (by decide)).trans ((iS_v (by decide)).trans C.ca.1)))
    have f5 : mI μ5 904 0 0 = nI (nHo S + 1) := (iS_v (by decide)).trans iS_eq
    have tail : ∀ x12, x12 = vh → ((mWr μ1 907 p 6 (nI l) x12).bind fun μ13 => (mRd μ13 905 0 16 (nI p)).bind fun x14 => (mWr μ13 905 0 16 (nI p) (x14 ||| ((nI 1) <<< ((nI l) &&& 31)))).bind fun μ15 => (some (mSI μ15 904 0 0 ((mI μ15 904 0 0) + (nI 1)))).bind fun μ16 => (some (mSI μ16 908 0 0 ((mI μ16 908 0 0) + (nI 1)))).bind fun μ17 => some ((mI μ17 904 0 0), μ17)) = some (nI (nHo S + 1), μ5) := by
      rintro _ rfl
      rw [wr_n (by omega) (by decide), bS, rd_n (by omega) (by decide), f2, bS, shl_n (by omega) (by omega), Nat.one_mul, or_n, wr_n (by omega) (by decide), bS, bS, f3, add_n, bS, f4, add_n, f5]
    have e1 : mWr μ 906 p 6 (nI l) vl = some μ1 := wr_n (by omega) (by decide)
    rw [rd_n (by omega) (by decide), p5, bS, hbit (by omega) (by omega), bS]
    cases hb : (sN S 905 0 p).testBit l with
    | false =>
      have hl0 : vl = lo := by show (if bt = true then _ else _) = _; rw [show bt = false from hb]; rfl
      have hh0 : vh = hi := by show (if bt = true then _ else _) = _; rw [show bt = false from hb]; rfl
      rw [hl0] at e1
      rw [if_pos (show nI false.toNat = 0 from rfl), bS, ix_n (by omega) (by decide), bS, if_neg n10, bS, e1, bS, bS, if_neg n10, bS]
      exact tail hi hh0.symm
    | true =>
      have hl0 : vl = jMax (sI S 906 p l) lo := by show (if bt = true then _ else _) = _; rw [show bt = true from hb]; rfl
      have hh0 : vh = jMin (sI S 907 p l) hi := by show (if bt = true then _ else _) = _; rw [show bt = true from hb]; rfl
      rw [hl0] at e1
      rw [if_neg (show ¬ nI true.toNat = 0 from n10), bS, ix_n (by omega) (by decide), bS, if_pos z00, bS, rd_n (by omega) (by decide), p6, bS, bS, e1, bS, bS, if_pos z00, bS, rd_n (by omega) (by decide), f1, bS, bS]
      exact tail _ hh0.symm
  rw [eC, bS]
  have d1 : mI (mSI ν 1334 0 (nHo S) (nI p)) 1338 0 0 = nI (nHo S) := (iS_v (by decide)).trans R.ho.2.1
  have d2 : mI (mSI (mSI ν 1334 0 (nHo S) (nI p)) 1335 0 (nHo S) (nI l)) 1338 0 0 = nI (nHo S) := (iS_v (by decide)).trans d1
  have d3 : mI (mSI (mSI (mSI ν 1334 0 (nHo S) (nI p)) 1335 0 (nHo S) (nI l)) 1336 0 (nHo S) lo) 1338 0 0 = nI (nHo S) := (iS_v (by decide)).trans d2
  have d4 : mI (mSI (mSI (mSI (mSI ν 1334 0 (nHo S) (nI p)) 1335 0 (nHo S) (nI l)) 1336 0 (nHo S) lo) 1337 0 (nHo S) hi) 1338 0 0 = nI (nHo S) := (iS_v (by decide)).trans d3
  rw [wr_n (by omega) (by decide), bS, d1, wr_n (by omega) (by decide), bS, d2, wr_n (by omega) (by decide), bS, d3, wr_n (by omega) (by decide), bS, bS, d4, add_n, iS_eq]
  let S' := stN (stN (stN (stN (stN (stI (stI (stI (stI S 1337 0 (nHo S) hi) 1336 0 (nHo S) lo) 907 p l vh) 906 p l vl) 1335 0 (nHo S) l) 1334 0 (nHo S) p) 905 0 p (sN S 905 0 p ||| 2 ^ l)) 904 0 0 (nHo S + 1)) 908 0 0 (sN S 908 0 0 + 1)
  have a : Ag [904, 905, 906, 907, 908, 1334, 1335, 1336, 1337] S S' := Ag.sn (by simp) (Ag.sn (by simp) (Ag.sn (by simp) (Ag.sn (by simp) (Ag.sn (by simp) (Ag.si (by simp) (Ag.si (by simp) (Ag.si (by simp) (Ag.si (by simp) Ag.rfl))))))))
  have FC : Fr [904, 905, 906, 907, 908] μ μ5 := fr_si (by simp) (fr_si (by simp) (fr_si (by simp) (fr_si (by simp) (fr_si (by simp) Fr.refl))))
  have FM : Fr [1334, 1335, 1336, 1337, 1338] ν (mSI (mSI (mSI (mSI (mSI ν 1334 0 (nHo S) (nI p)) 1335 0 (nHo S) (nI l)) 1336 0 (nHo S) lo) 1337 0 (nHo S) hi) 1338 0 0 (nI (nHo S + 1))) := fr_si (by simp) (fr_si (by simp) (fr_si (by simp) (fr_si (by simp) (fr_si (by simp) Fr.refl))))
  have k3 : sN S' 903 0 0 = sN S 903 0 0 := a.n (L := [903]) (by decide) 903 (by decide) 0 0
  have kp : nPg S' = nPg S := a.n (L := [712]) (by decide) 712 (by decide) 0 0
  have kl : nLw S' = nLw S := a.n (L := [504]) (by decide) 504 (by decide) 0 0
  have kn : nHo S' = nHo S + 1 := (n_v (by decide)).trans n_eq
  have k5 : ∀ q, sN S' 905 0 q = if q = p then sN S 905 0 p ||| 2 ^ l else sN S 905 0 q := fun q => by
    by_cases e : q = p
    · subst e; rw [if_pos rfl]; exact (n_v (by decide)).trans ((n_v (by decide)).trans n_eq)
    · rw [if_neg e]; exact (n_v (by decide)).trans ((n_v (by decide)).trans ((n_c e).trans ((n_v (by decide)).trans (n_v (by decide)))))
  have k34 : ∀ k, sN S' 1334 0 k = if k = nHo S then p else sN S 1334 0 k := fun k => by
    by_cases e : k = nHo S
    · subst e; rw [if_pos rfl]; exact (n_v (by decide)).trans ((n_v (by decide)).trans ((n_v (by decide)).trans n_eq))
    · rw [if_neg e]; exact (n_v (by decide)).trans ((n_v (by decide)).trans ((n_v (by decide)).trans ((n_c e).trans (n_v (by decide)))))
  have k35 : ∀ k, sN S' 1335 0 k = if k = nHo S then l else sN S 1335 0 k := fun k => by
    by_cases e : k = nHo S
    · subst e; rw [if_pos rfl]; exact (n_v (by decide)).trans ((n_v (by decide)).trans ((n_v (by decide)).trans ((n_v (by decide)).trans n_eq)))
    · rw [if_neg e]; exact (n_v (by decide)).trans ((n_v (by decide)).trans ((n_v (by decide)).trans ((n_v (by decide)).trans (n_c e))))
  have k36 : ∀ k, sI S' 1336 0 k = if k = nHo S then lo else sI S 1336 0 k := fun k => by
    by_cases e : k = nHo S
    · subst e; rw [if_pos rfl]; exact (i_v (by decide)).trans ((i_v (by decide)).trans i_eq)
    · rw [if_neg e]; exact (i_v (by decide)).trans ((i_v (by decide)).trans ((i_c e).trans (i_v (by decide))))
  have k37 : ∀ k, sI S' 1337 0 k = if k = nHo S then hi else sI S 1337 0 k := fun k => by
    by_cases e : k = nHo S
    · subst e; rw [if_pos rfl]; exact (i_v (by decide)).trans ((i_v (by decide)).trans ((i_v (by decide)).trans i_eq))
    · rw [if_neg e]; exact (i_v (by decide)).trans ((i_v (by decide)).trans ((i_v (by decide)).trans (i_c e)))
  have k6 : ∀ q m, sI S' 906 q m = if q = p ∧ m = l then vl else sI S 906 q m := fun q m => by
    by_cases e : q = p ∧ m = l
    · rw [if_pos e, e.1, e.2]; exact i_eq
    · rw [if_neg e]
      exact (sI_I.trans (if_neg (fun z => e z.2))).trans ((i_v (by decide)).trans ((i_v (by decide)).trans (i_v (by decide))))
  have k7 : ∀ q m, sI S' 907 q m = if q = p ∧ m = l then vh else sI S 907 q m := fun q m => by
    by_cases e : q = p ∧ m = l
    · rw [if_pos e, e.1, e.2]; exact (i_v (by decide)).trans i_eq
    · rw [if_neg e]
      exact (i_v (by decide)).trans ((sI_I.trans (if_neg (fun z => e z.2))).trans ((i_v (by decide)).trans (i_v (by decide))))
  have h_ho : W_ho S' := by
    obtain ⟨w1, w2, w3, w4, w6⟩ := W.ho
    unfold W_ho
    rw [k3, kn, kl, kp]
    refine ⟨w1, by omega, fun q hq => ?_, fun k hk => ?_, fun q m v hq hm => ?_⟩
    · rw [k5]
      split
      · exact o5
      · exact w3 q hq
    · rw [k34, k35]
      by_cases e : k = nHo S
      · rw [if_pos e, if_pos e]; exact ⟨hp, hl⟩
      · rw [if_neg e, if_neg e]; exact w4 k (by omega)
    · have w := w6 q m v hq hm
      have x1 : (∀ k, k < nHo S → sN S' 1334 0 k = q → sN S' 1335 0 k = m → sI S' 1336 0 k ≤ v ∧ v ≤ sI S' 1337 0 k) ↔ ∀ k, k < nHo S → sN S 1334 0 k = q → sN S 1335 0 k = m → sI S 1336 0 k ≤ v ∧ v ≤ sI S 1337 0 k := by
        constructor
        · intro h k hk
          have := h k hk
          rw [k34, k35, k36, k37, if_neg (by omega), if_neg (by omega), if_neg (by omega), if_neg (by omega)] at this
          exact this
        · intro h k hk
          rw [k34, k35, k36, k37, if_neg (by omega), if_neg (by omega), if_neg (by omega), if_neg (by omega)]
          exact h k hk
      rw [all_succ, x1, ← w, k34, k35, k36, k37, if_pos rfl, if_pos rfl, if_pos rfl, if_pos rfl, k5, k6, k7]
      by_cases e : q = p ∧ m = l
      · obtain ⟨rfl, rfl⟩ := e
        rw [if_pos rfl, if_pos ⟨rfl, rfl⟩, if_pos ⟨rfl, rfl⟩, Nat.testBit_or, Nat.testBit_two_pow_self, Bool.or_true]
        cases hb : (sN S 905 0 q).testBit m with
        | false =>
          have hl0 : vl = lo := by show (if bt = true then _ else _) = _; rw [show bt = false from hb]; rfl
          have hh0 : vh = hi := by show (if bt = true then _ else _) = _; rw [show bt = false from hb]; rfl
          rw [hl0, hh0]
          exact ⟨fun h => ⟨fun z => (nomatch z), fun _ _ => h rfl⟩, fun h _ => h.2 rfl rfl⟩
        | true =>
          have hl0 : vl = jMax (sI S 906 q m) lo := by show (if bt = true then _ else _) = _; rw [show bt = true from hb]; rfl
          have hh0 : vh = jMin (sI S 907 q m) hi := by show (if bt = true then _ else _) = _; rw [show bt = true from hb]; rfl
          rw [hl0, hh0, max_le, le_min]
          exact ⟨fun h => ⟨fun _ => ⟨(h rfl).1.1, (h rfl).2.1⟩, fun _ _ => ⟨(h rfl).1.2, (h rfl).2.2⟩⟩, fun h _ => ⟨⟨(h.1 rfl).1, (h.2 rfl rfl).1⟩, ⟨(h.1 rfl).2, (h.2 rfl rfl).2⟩⟩⟩
      · rw [if_neg e, if_neg e]
        have hb : (if q = p then sN S 905 0 p ||| 2 ^ l else sN S 905 0 q).testBit m = (sN S 905 0 q).testBit m := by
          by_cases e1 : q = p
          · subst e1
            rw [if_pos rfl, Nat.testBit_or, Nat.testBit_two_pow_of_ne (fun z => e ⟨rfl, z.symm⟩), Bool.or_false]
          · rw [if_neg e1]
        rw [hb]
        exact ⟨fun h => ⟨h, fun z1 z2 => absurd ⟨z1.symm, z2.symm⟩ e⟩, fun h => h.1⟩
  have c_ho : C_ho S' μ5 := by
    unfold C_ho
    rw [k3, kn]
    refine ⟨by rw [FC.i 903 (by decide)]; exact C.ho.1, (iS_v (by decide)).trans iS_eq, fun q hq => ?_⟩
    obtain ⟨u1, u2⟩ := C.ho.2.2 q hq
    refine ⟨?_, fun m hm => ?_⟩
    · rw [k5]
      by_cases e : q = p
      · subst e; rw [if_pos rfl]; exact (iS_v (by decide)).trans ((iS_v (by decide)).trans iS_eq)
      · rw [if_neg e]; exact (iS_v (by decide)).trans ((iS_v (by decide)).trans ((iS_c e).trans ((iS_v (by decide)).trans ((iS_v (by decide)).trans u1))))
    · obtain ⟨u3, u4⟩ := u2 m hm
      rw [k6, k7]
      have r6 : mI μ5 906 q m = if q = p ∧ m = l then vl else mI μ 906 q m := by
        refine (iS_v (by decide)).trans ((iS_v (by decide)).trans ((iS_v (by decide)).trans ((iS_v (by decide)).trans ?_)))
        rw [I_SI]
        by_cases e : q = p ∧ m = l
        · rw [if_pos ⟨rfl, e⟩, if_pos e]
        · rw [if_neg (fun z => e z.2), if_neg e]
      have r7 : mI μ5 907 q m = if q = p ∧ m = l then vh else mI μ 907 q m := by
        refine (iS_v (by decide)).trans ((iS_v (by decide)).trans ((iS_v (by decide)).trans ?_))
        rw [I_SI]
        by_cases e : q = p ∧ m = l
        · rw [if_pos ⟨rfl, e⟩, if_pos e]
        · rw [if_neg (fun z => e z.2), if_neg e]; exact iS_v (by decide)
      rw [r6, r7, u3, u4]
      exact ⟨rfl, rfl⟩
  have m_ho : M_ho S' (mSI (mSI (mSI (mSI (mSI ν 1334 0 (nHo S) (nI p)) 1335 0 (nHo S) (nI l)) 1336 0 (nHo S) lo) 1337 0 (nHo S) hi) 1338 0 0 (nI (nHo S + 1))) := by
    unfold M_ho
    rw [k3, kn]
    refine ⟨by rw [FM.i 1339 (by decide)]; exact R.ho.1, iS_eq, fun k hk => ?_⟩
    rw [k34, k35, k36, k37]
    by_cases e : k = nHo S
    · subst e
      rw [if_pos rfl, if_pos rfl, if_pos rfl, if_pos rfl]
      exact ⟨(iS_v (by decide)).trans ((iS_v (by decide)).trans ((iS_v (by decide)).trans ((iS_v (by decide)).trans iS_eq))), (iS_v (by decide)).trans ((iS_v (by decide)).trans ((iS_v (by decide)).trans iS_eq)), (iS_v (by decide)).trans ((iS_v (by decide)).trans iS_eq), (iS_v (by decide)).trans iS_eq⟩
    · rw [if_neg e, if_neg e, if_neg e, if_neg e]
      obtain ⟨u1, u2, u3, u4⟩ := R.ho.2.2 k (by omega)
      exact ⟨(iS_v (by decide)).trans ((iS_v (by decide)).trans ((iS_v (by decide)).trans ((iS_v (by decide)).trans ((iS_c e).trans u1)))), (iS_v (by decide)).trans ((iS_v (by decide)).trans ((iS_v (by decide)).trans ((iS_c e).trans ((iS_v (by decide)).trans u2)))), (iS_v (by decide)).trans ((iS_v (by decide)).trans ((iS_c e).trans ((iS_v (by decide)).trans ((iS_v (by decide)).trans u3)))), (iS_v (by decide)).trans ((iS_c e).trans ((iS_v (by decide)).trans ((iS_v (by decide)).trans ((iS_v (by decide)).trans u4))))⟩
  have c0 : C_ca S μ4 := C.ca.fr fun v hv => by
    have F4 : Fr [904, 905, 906, 907] μ μ4 := fr_si (by simp) (fr_si (by simp) (fr_si (by simp) (fr_si (by simp) Fr.refl)))
    refine F4.i v (fun e => ?_)
    revert hv e; simp; omega
  have c_ca : C_ca S' μ5 := c0.up (by omega) n_eq kp h16
  exact ⟨_, S', _, _, rfl, rfl, ⟨W.tp.ag a (by decide), W.th.ag a (by decide), W.pg.ag a (by decide), W.lw.ag a (by decide) (fun _ _ => rfl), W.tr.ag a (by decide), h_ho, W.bk.ag a (by decide), W.dy.ag a (by decide)⟩, ⟨C.tp.mv a (by decide) FC (by decide), C.th.mv a (by decide) FC (by decide), C.pg.mv a (by decide) FC (by decide), C.lw.mv a (by decide) rfl FC (by decide), C.tr.mv a (by decide) FC (by decide), c_ho, C.bk.mv a (by decide) FC (by decide), C.dy.mv a (by decide) FC (by decide), c_ca, C.kn.mv a (by decide) FC (by decide)⟩, ⟨R.tp.mv a (by decide) FM (by decide), R.th.mv a (by decide) FM (by decide), R.pg.mv a (by decide) FM (by decide), R.lw.mv a (by decide) rfl FM (by decide), R.tr.mv a (by decide) FM (by decide), m_ho, R.bk.mv a (by decide) FM (by decide), R.dy.mv a (by decide) FM (by decide)⟩, Nat.le_of_eq n_eq⟩
