/-! PURE: books in the reference; cost, ways, first -/
def adr (r : Nat) : Nat := if r = 0 then 12 else r - 1
theorem adr_le {r : Nat} (h : r ≤ 12) : adr r ≤ 12 := by unfold adr; split <;> omega
theorem adr_in {r r' w w' : Nat} (h : r ≤ 12) (h' : r' ≤ 12) (hw : w < 8) (hw' : w' < 8) (he : 8 * adr r + w = 8 * adr r' + w') : r = r' ∧ w = w' := by
  unfold adr at he
  split at he <;> split at he <;> omega
theorem hg_congr {S : St} {al al' : Nat → Nat → Bool} {X Y : KPt} {b w : Nat} (h : ∀ v, v < 8 → al b v = al' b v) (h2 : ∀ v, v < 8 → X.1 (b + 1) v = Y.1 (b + 1) v ∧ X.2 (b + 1) v = Y.2 (b + 1) v) : ∀ {v : Nat}, v ≤ 8 → hgB S al X b w v = hgB S al' Y b w v := by
  intro v
  induction v with
  | zero => intro _; rfl
  | succ v ih =>
    intro hv
    have hm : mskB al X.1 b v = mskB al' Y.1 b v := by unfold mskB; rw [h v (by omega), (h2 v (by omega)).1]
    unfold hgB
    rw [ih (by omega), hm, (h2 v (by omega)).2]
theorem dp_congr {S : St} {al al' : Nat → Nat → Bool} (n : Nat) (h : ∀ b v, nBk S - n ≤ b → b < nBk S → v < 8 → al b v = al' b v) : ∀ {j : Nat}, j ≤ n → n ≤ nBk S → dpB S al j = dpB S al' j := by
  intro j
  induction j with
  | zero => intro _ _; rfl
  | succ j ih =>
    intro hj hn
    show stB S al (nBk S - 1 - j) (dpB S al j) = stB S al' (nBk S - 1 - j) (dpB S al' j)
    rw [ih (by omega) hn]
    have hg : ∀ w, hgB S al (dpB S al' j) (nBk S - 1 - j) w 8 = hgB S al' (dpB S al' j) (nBk S - 1 - j) w 8 := fun w => hg_congr (fun v hv => h _ v (by omega) (by omega) hv) (fun v hv => ⟨rfl, rfl⟩) (Nat.le_refl 8)
    unfold stB
    simp only [hg]
theorem al_none {S : St} {fw b v : Nat} (hb : b < 1000000) : alB S (-1) fw b v = rdB S b v := by
  unfold alB
  rw [decide_eq_false (fun q => (m1_n (show b < 2147483648 by omega)).mp q)]
  simp
def stA (S : St) (al : Nat → Nat → Bool) (b : Nat) (X : KPt) (c : Nat) : KPt := (fun r w => if r = parR S b ∧ w < c then (stB S al b X).1 r w else X.1 r w, fun r w => if r = parR S b ∧ w < c then (stB S al b X).2 r w else X.2 r w)
def MKr (X : KPt) (c : Nat) (ν : Mem) : Prop := ∀ r w, r ≤ c → w < 8 → mI ν 1352 0 (8 * adr r + w) = nI (X.1 r w) ∧ mL ν 1353 0 (8 * adr r + w) = X.2 r w
def Mrow (al : Nat → Nat → Bool) (X : KPt) (b : Nat) (ν : Mem) : Prop := ∀ v, v < 8 → mI ν 1352 0 (8 * b + v) = nI (mskB al X.1 b v) ∧ mL ν 1353 0 (8 * b + v) = X.2 (b + 1) v
theorem hang_M {S : St} {al : Nat → Nat → Bool} {X : KPt} {b w B : Nat} {ν : Mem} (W : WF S) (R : M_bk S ν) (hb : b < nBk S) (hw : w < 8) (hs : smal X.1 B) (hB : 2 * B + 99 < FAr) (hK : MKr (stA S al b X w) b ν) (hR : Mrow al X b ν) :
    ∃ ν', M_hang (nI (adr (parR S b))) (nI b) (nI w) ν = some ν' ∧ Fr [1352, 1353] ν ν' ∧ MKr (stA S al b X (w + 1)) b ν' ∧ Mrow al X b ν' := by
  have h12 := W.bk.1
  have hpl := par_le W hb
  have hal := adr_le (show parR S b ≤ 12 by omega)
  have hfa : FAr = 100000000 := rfl
  have hsm : ∀ v, v ≤ 8 → (hgB S al X b w v).1 ≤ FAr := fun v hv => by
    have := hg_sm (al := al) (b := b) (v := v) W hw hs (by omega) hv
    omega
  have hmk : ∀ v, v < 8 → mskB al X.1 b v ≤ FAr := fun v hv => by
    unfold mskB
    have := hs (b + 1) v hv
    split <;> omega
  obtain ⟨r, e1, hr⟩ : ∃ r, M_hang_l1 (nI (adr (parR S b))) (nI b) (nI w) ν FU (nI FAr) 0 (nI 0) = some r ∧ r = (nI (hgB S al X b w 8).1, (hgB S al X b w 8).2) := by
    refine loopE (fun f v (s : Int32 × Int64) => M_hang_l1 (nI (adr (parR S b))) (nI b) (nI w) ν f s.1 s.2 v) 8 (fun c s => s = (nI (hgB S al X b w c).1, (hgB S al X b w c).2)) (fun r => r = (nI (hgB S al X b w 8).1, (hgB S al X b w 8).2)) ?_ ?_ 8 0 (nI FAr, 0) FU rfl (FU_lt (by decide)) rfl
    · rintro f v s hv rfl
      left
      have hsl := sl_le W hw hv
      have hm := hmk v hv
      have hx := hsm v (by omega)
      obtain ⟨r1, r2⟩ := hR v hv
      refine ⟨(nI (hgB S al X b w (v + 1)).1, (hgB S al X b w (v + 1)).2), ?_, rfl⟩
      show M_hang_l1b (nI (adr (parR S b))) (nI b) (nI w) ν (M_hang_l1 (nI (adr (parR S b))) (nI b) (nI w) ν f) (nI _) _ (nI v) = _
      unfold M_hang_l1b
      have hu : hgB S al X b w (v + 1) = if mskB al X.1 b v < FAr then (if (hgB S al X b w v).1 < slB S w v + mskB al X.1 b v then hgB S al X b w v else (slB S w v + mskB al X.1 b v, if slB S w v + mskB al X.1 b v < (hgB S al X b w v).1 then X.2 (b + 1) v else (hgB S al X b w v).2 + X.2 (b + 1) v)) else hgB S al X b w v := rfl
      have d1 : mRd ν 1349 0 64 (nI 8 * nI w + nI v) = some (nI (slB S w v)) := by rw [mul_n, add_n, rd_n (by omega) (by decide), R.2.2 w v hw hv]; rfl
      have d2 : mRd ν 1352 0 104 (nI 8 * nI b + nI v) = some (nI (mskB al X.1 b v)) := by rw [mul_n, add_n, rd_n (by omega) (by decide), r1]
      have d3 : mRl ν 1353 0 104 (nI 8 * nI b + nI v) = some (X.2 (b + 1) v) := by rw [mul_n, add_n, rl_n (by omega) (by decide), r2]
      rw [if_pos ((lt_n (by omega) (by decide)).mpr hv), d1, bS, d2, bS, bS, bS, d3, add_n, show nI 100000000 = nI FAr from rfl]
      by_cases q : mskB al X.1 b v < FAr
      · rw [if_pos ((lt_n (by omega) (by omega)).mpr q)]
        by_cases q2 : (hgB S al X b w v).1 < slB S w v + mskB al X.1 b v
        · have hv : hgB S al X b w (v + 1) = hgB S al X b w v := by rw [hu, if_pos q, if_pos q2]
          rw [if_pos ((lt_n (by omega) (by omega)).mpr q2), bS, hv]
          simp only []
          rw [bS, add_n]
        · rw [if_neg (fun z => q2 ((lt_n (by omega) (by omega)).mp z))]
          by_cases q3 : slB S w v + mskB al X.1 b v < (hgB S al X b w v).1
          · have hv : hgB S al X b w (v + 1) = (slB S w v + mskB al X.1 b v, X.2 (b + 1) v) := by rw [hu, if_pos q, if_neg q2, if_pos q3]
            rw [if_pos ((lt_n (by omega) (by omega)).mpr q3), bS, bS, bS, hv]
            simp only []
            rw [bS, add_n]
          · have hv : hgB S al X b w (v + 1) = (slB S w v + mskB al X.1 b v, (hgB S al X b w v).2 + X.2 (b + 1) v) := by rw [hu, if_pos q, if_neg q2, if_neg q3]
            rw [if_neg (fun z => q3 ((lt_n (by omega) (by omega)).mp z)), bS, bS, bS, hv]
            simp only []
            rw [bS, add_n]
      · have hv : hgB S al X b w (v + 1) = hgB S al X b w v := by rw [hu, if_neg q]
        rw [if_neg (fun z => q ((lt_n (by omega) (by omega)).mp z)), bS, hv]
        simp only []
        rw [bS, add_n]
    · rintro f s rfl
      refine ⟨_, ?_, rfl⟩
      show M_hang_l1b (nI (adr (parR S b))) (nI b) (nI w) ν (M_hang_l1 (nI (adr (parR S b))) (nI b) (nI w) ν f) (nI _) _ (nI 8) = _
      unfold M_hang_l1b
      rw [if_neg (by decide)]
  subst hr
  have hpw := hK (parR S b) w hpl hw
  have g1 : (stA S al b X w).1 (parR S b) w = X.1 (parR S b) w := if_neg (fun q => by omega)
  have g2 : (stA S al b X w).2 (parR S b) w = X.2 (parR S b) w := if_neg (fun q => by omega)
  rw [g1, g2] at hpw
  have hp2 := hs (parR S b) w hw
  have hx := hsm 8 (Nat.le_refl 8)
  have ne_row : ∀ v, v < 8 → ¬ 8 * b + v = 8 * adr (parR S b) + w := by
    intro v hv q
    have h1 : 8 * adr (b + 1) + v = 8 * adr (parR S b) + w := by unfold adr at *; rw [if_neg (by omega), Nat.add_sub_cancel]; exact q
    have := (adr_in (by omega) (by omega) hv hw h1).1
    omega
  refine ⟨mSL (mSI ν 1352 0 (8 * adr (parR S b) + w) (nI (min FAr (X.1 (parR S b) w + (hgB S al X b w 8).1)))) 1353 0 (8 * adr (parR S b) + w) (X.2 (parR S b) w * (hgB S al X b w 8).2), ?_, fr_sl (by simp) (fr_si (by simp) Fr.refl), fun r v hr hv => ?_, fun v hv => ?_⟩
  · unfold M_hang
    rw [show nI 100000000 = nI FAr from rfl, e1, bS]
    simp only []
    rw [mul_n, add_n, rd_n (by omega) (by decide), hpw.1, bS, add_n, jMin_n (by omega) (by omega), wr_n (by omega) (by decide), bS, rl_n (by omega) (by decide), L_SI', hpw.2, bS, wl_n (by omega) (by decide), bS]
  · rw [I_SL', L_SL', L_SI']
    by_cases h1 : r = parR S b ∧ v = w
    · obtain ⟨rfl, rfl⟩ := h1
      have h3 : parR S b = parR S b ∧ v < v + 1 := ⟨rfl, by omega⟩
      have f1 : (stA S al b X (v + 1)).1 (parR S b) v = min FAr (X.1 (parR S b) v + (hgB S al X b v 8).1) := by
        show (if parR S b = parR S b ∧ v < v + 1 then (if parR S b = parR S b then _ else _) else _) = _
        rw [if_pos h3, if_pos rfl]
      have f2 : (stA S al b X (v + 1)).2 (parR S b) v = X.2 (parR S b) v * (hgB S al X b v 8).2 := by
        show (if parR S b = parR S b ∧ v < v + 1 then (if parR S b = parR S b then _ else _) else _) = _
        rw [if_pos h3, if_pos rfl]
      rw [f1, f2, iS_eq, if_pos ⟨rfl, rfl, rfl⟩]
      exact ⟨rfl, rfl⟩
    · have hne : ¬ 8 * adr r + v = 8 * adr (parR S b) + w := fun q => h1 (adr_in (by omega) (by omega) hv hw q)
      have f1 : (stA S al b X (w + 1)).1 r v = (stA S al b X w).1 r v := by
        show (if r = parR S b ∧ v < w + 1 then _ else _) = (if r = parR S b ∧ v < w then _ else _)
        by_cases h2 : r = parR S b ∧ v < w
        · rw [if_pos h2, if_pos ⟨h2.1, by omega⟩]
        · rw [if_neg h2, if_neg (fun q => h2 ⟨q.1, by omega⟩)]
      have f2 : (stA S al b X (w + 1)).2 r v = (stA S al b X w).2 r v := by
        show (if r = parR S b ∧ v < w + 1 then _ else _) = (if r = parR S b ∧ v < w then _ else _)
        by_cases h2 : r = parR S b ∧ v < w
        · rw [if_pos h2, if_pos ⟨h2.1, by omega⟩]
        · rw [if_neg h2, if_neg (fun q => h2 ⟨q.1, by omega⟩)]
      rw [f1, f2, iS_c hne, if_neg (fun q => hne q.2.2)]
      exact hK r v hr hv
  · rw [I_SL', L_SL', L_SI', iS_c (ne_row v hv), if_neg (fun q => ne_row v hv q.2.2)]
    exact hR v hv
theorem price_M {S : St} {fx : Int32} {fw : Nat} {ν0 : Mem} (W : WF S) (R : M_bk S ν0) (hfw : fw < 8) : ∃ ν', M_price fx (nI fw) ν0 = some ν' ∧ Fr [1352, 1353] ν0 ν' ∧ MKr (dpB S (alB S fx fw) (nBk S)) 0 ν' := by
  have h12 := W.bk.1
  have hfa : FAr = 100000000 := rfl
  obtain ⟨ν1, e1, F1, K1⟩ : ∃ s, M_price_l1 fx (nI fw) FU (nI 0) ν0 = some s ∧ Fr [1352, 1353] ν0 s ∧ ∀ k, k < 104 → mI s 1352 0 k = nI 0 ∧ mL s 1353 0 k = 1 := by
    refine loopE (fun f v s => M_price_l1 fx (nI fw) f v s) 104 (fun c s => Fr [1352, 1353] ν0 s ∧ ∀ k, k < c → mI s 1352 0 k = nI 0 ∧ mL s 1353 0 k = 1) (fun s => Fr [1352, 1353] ν0 s ∧ ∀ k, k < 104 → mI s 1352 0 k = nI 0 ∧ mL s 1353 0 k = 1) ?_ ?_ 104 0 ν0 FU rfl (FU_lt (by decide)) ⟨Fr.refl, fun k h => absurd h (by omega)⟩
    · rintro f k s hk ⟨F, i1⟩
      left
      refine ⟨mSL (mSI s 1352 0 k (nI 0)) 1353 0 k 1, ?_, fr_sl (by simp) (fr_si (by simp) F), fun w hw => ?_⟩
      · show M_price_l1b fx (nI fw) (M_price_l1 fx (nI fw) f) (nI k) s = _
        unfold M_price_l1b
        rw [if_pos ((lt_n (by omega) (by decide)).mpr hk), wr_n hk (by decide), bS, wl_n hk (by decide), bS, bS, add_n]
      · rw [I_SL', L_SL', L_SI']
        by_cases e : w = k
        · subst e; rw [iS_eq, if_pos ⟨rfl, rfl, rfl⟩]; exact ⟨rfl, rfl⟩
        · rw [iS_c e, if_neg (fun z => e z.2.2)]; exact i1 w (by omega)
    · rintro f s ⟨F, i1⟩
      refine ⟨s, ?_, F, i1⟩
      show M_price_l1b fx (nI fw) (M_price_l1 fx (nI fw) f) (nI 104) s = _
      unfold M_price_l1b
      rw [if_neg (by decide)]
  obtain ⟨ν2, e2, F2, K2⟩ : ∃ s, M_price_l2 fx (nI fw) FU (dI (nBk S)) ν1 = some s ∧ Fr [1352, 1353] ν0 s ∧ MKr (dpB S (alB S fx fw) (nBk S)) 0 s := by
    refine loopD (fun f v s => M_price_l2 fx (nI fw) f v s) (fun c s => c ≤ nBk S ∧ Fr [1352, 1353] ν0 s ∧ MKr (dpB S (alB S fx fw) (nBk S - c)) c s) (fun s => Fr [1352, 1353] ν0 s ∧ MKr (dpB S (alB S fx fw) (nBk S)) 0 s) ?_ ?_ (nBk S) ν1 FU (FU_lt (by omega)) ⟨Nat.le_refl _, F1, by
      rw [Nat.sub_self]
      intro r w hr hw
      have := adr_le (show r ≤ 12 by omega)
      exact K1 _ (by omega)⟩
    · rintro f b s ⟨hb, F, K⟩
      left
      have hb : b < nBk S := by omega
      have hs := dp_sm (al := alB S fx fw) W (show nBk S - (b + 1) ≤ 12 by omega)
      have hbn := bnd_12 (show nBk S - (b + 1) ≤ 12 by omega)
      have Rs : M_bk S s := R.fr fun v hv => F.i v (nIn_of (by decide) hv)
      have hab : adr (b + 1) = b := by unfold adr; rw [if_neg (by omega)]; omega
      obtain ⟨s1, a1, a2, a3, a4⟩ : ∃ s1, M_price_l3 fx (nI fw) (nI b) FU (nI 0) s = some s1 ∧ Fr [1352, 1353] ν0 s1 ∧ MKr (dpB S (alB S fx fw) (nBk S - (b + 1))) b s1 ∧ Mrow (alB S fx fw) (dpB S (alB S fx fw) (nBk S - (b + 1))) b s1 := by
        refine loopE (fun f v s => M_price_l3 fx (nI fw) (nI b) f v s) 8 (fun c s1 => Fr [1352, 1353] ν0 s1 ∧ MKr (dpB S (alB S fx fw) (nBk S - (b + 1))) b s1 ∧ (∀ v, v < 8 → mL s1 1353 0 (8 * b + v) = (dpB S (alB S fx fw) (nBk S - (b + 1))).2 (b + 1) v) ∧ (∀ v, c ≤ v → v < 8 → mI s1 1352 0 (8 * b + v) = nI ((dpB S (alB S fx fw) (nBk S - (b + 1))).1 (b + 1) v)) ∧ ∀ v, v < c → mI s1 1352 0 (8 * b + v) = nI (mskB (alB S fx fw) (dpB S (alB S fx fw) (nBk S - (b + 1))).1 b v)) (fun s1 => Fr [1352, 1353] ν0 s1 ∧ MKr (dpB S (alB S fx fw) (nBk S - (b + 1))) b s1 ∧ Mrow (alB S fx fw) (dpB S (alB S fx fw) (nBk S - (b + 1))) b s1) ?_ ?_ 8 0 s FU rfl (FU_lt (by decide)) ⟨F, fun r w hr hw => K r w (by omega) hw, fun v hv => ?_, fun v _ hv => ?_, fun v h => absurd h (by omega)⟩
        · rintro f v s hv ⟨F, i1, i2, i3, i4⟩
          left
          have Rs : M_bk S s := R.fr fun v hv => F.i v (nIn_of (by decide) hv)
          refine ⟨mSI s 1352 0 (8 * b + v) (nI (mskB (alB S fx fw) (dpB S (alB S fx fw) (nBk S - (b + 1))).1 b v)), ?_, fr_si (by simp) F, fun r w hr hw => ?_, fun w hw => i2 w hw, fun w h1 h2 => ?_, fun w h1 => ?_⟩
          · show M_price_l3b fx (nI fw) (nI b) (M_price_l3 fx (nI fw) (nI b) f) (nI v) s = _
            unfold M_price_l3b
            have hx : (if sI S 201 0 b = (-1) then (if nI b = fx then (if nI v = nI fw then some (nI 1) else some (nI 0)) else some (nI 1)) else (some (sI S 201 0 b)).bind fun x2 => if x2 = nI v then (if nI b = fx then (if nI v = nI fw then some (nI 1) else some (nI 0)) else some (nI 1)) else some (nI 0)) = some (nI (alB S fx fw b v).toNat) := by
              have hfx : (if nI b = fx then (if nI v = nI fw then some (nI 1) else some (nI 0)) else some (nI 1)) = some (nI (!decide (nI b = fx) || decide (v = fw)).toNat) := by
                by_cases q : nI b = fx
                · rw [if_pos q, decide_eq_true q]
                  by_cases q2 : v = fw
                  · rw [if_pos (by rw [q2]), decide_eq_true q2]; rfl
                  · rw [if_neg (fun z => q2 ((eq_n (by omega) (by omega)).mp z)), decide_eq_false q2]; rfl
                · rw [if_neg q, decide_eq_false q]; rfl
              rw [hfx]
              unfold alB rdB
              by_cases h : sI S 201 0 b = -1
              · rw [if_pos h, decide_eq_true h, Bool.true_or, Bool.true_and]
              · rw [if_neg h, bS, decide_eq_false h, Bool.false_or]
                by_cases h2 : sI S 201 0 b = nI v
                · rw [if_pos h2, decide_eq_true h2, Bool.true_and]
                · rw [if_neg h2, decide_eq_false h2, Bool.false_and]; rfl
            have d1 : mRd s 1351 0 12 (nI b) = some (sI S 201 0 b) := by rw [rd_n (by omega) (by decide), (Rs.2.1 b hb).2]
            rw [if_pos ((lt_n (by omega) (by decide)).mpr hv), d1, bS, hx, bS, mul_n, add_n]
            have hm : mskB (alB S fx fw) (dpB S (alB S fx fw) (nBk S - (b + 1))).1 b v = if alB S fx fw b v = true then (dpB S (alB S fx fw) (nBk S - (b + 1))).1 (b + 1) v else FAr := rfl
            cases ha : alB S fx fw b v with
            | false => rw [if_pos (show nI false.toNat = 0 from rfl), bS, wr_n (by omega) (by decide), bS, bS, add_n, hm, ha, if_neg (by decide)]; rfl
            | true => rw [if_neg (show ¬ nI true.toNat = 0 by decide), rd_n (by omega) (by decide), i3 v (Nat.le_refl _) hv, bS, bS, wr_n (by omega) (by decide), bS, bS, add_n, hm, ha, if_pos rfl]
          · have hne : ¬ 8 * adr r + w = 8 * b + v := fun q => by
              have := (adr_in (r := r) (r' := b + 1) (by omega) (by omega) hw hv (by rw [hab]; exact q)).1
              omega
            rw [iS_c hne]; exact i1 r w hr hw
          · rw [iS_c (by omega)]; exact i3 w (by omega) h2
          · by_cases e : w = v
            · subst e; rw [iS_eq]
            · rw [iS_c (by omega)]; exact i4 w (by omega)
        · rintro f s ⟨F, i1, i2, i3, i4⟩
          refine ⟨s, ?_, F, i1, fun v hv => ⟨i4 v hv, i2 v hv⟩⟩
          show M_price_l3b fx (nI fw) (nI b) (M_price_l3 fx (nI fw) (nI b) f) (nI 8) s = _
          unfold M_price_l3b
          rw [if_neg (by decide)]
        · have := (K (b + 1) v (Nat.le_refl _) hv).2
          rw [hab] at this; exact this
        · have := (K (b + 1) v (Nat.le_refl _) hv).1
          rw [hab] at this; exact this
      obtain ⟨s2, c1, c2, c3⟩ : ∃ s2, M_price_l4 fx (nI fw) (nI b) (nI (adr (parR S b))) FU (nI 0) s1 = some s2 ∧ Fr [1352, 1353] ν0 s2 ∧ MKr (stA S (alB S fx fw) b (dpB S (alB S fx fw) (nBk S - (b + 1))) 8) b s2 := by
        refine loopE (fun f v s => M_price_l4 fx (nI fw) (nI b) (nI (adr (parR S b))) f v s) 8 (fun c s => Fr [1352, 1353] ν0 s ∧ MKr (stA S (alB S fx fw) b (dpB S (alB S fx fw) (nBk S - (b + 1))) c) b s ∧ Mrow (alB S fx fw) (dpB S (alB S fx fw) (nBk S - (b + 1))) b s) (fun s => Fr [1352, 1353] ν0 s ∧ MKr (stA S (alB S fx fw) b (dpB S (alB S fx fw) (nBk S - (b + 1))) 8) b s) ?_ ?_ 8 0 s1 FU rfl (FU_lt (by decide)) ⟨a2, fun r w hr hw => ?_, a4⟩
        · rintro f w s hw ⟨F, i1, i2⟩
          left
          obtain ⟨s3, d1, d2, d3, d4⟩ := hang_M W (R.fr fun v hv => F.i v (nIn_of (by decide) hv)) hb hw hs (by omega) i1 i2
          refine ⟨s3, ?_, F.trans d2, d3, d4⟩
          show M_price_l4b fx (nI fw) (nI b) (nI (adr (parR S b))) (M_price_l4 fx (nI fw) (nI b) (nI (adr (parR S b))) f) (nI w) s = _
          unfold M_price_l4b
          rw [if_pos ((lt_n (by omega) (by decide)).mpr hw), d1, bS, bS, add_n]
        · rintro f s ⟨F, i1, i2⟩
          refine ⟨s, ?_, F, i1⟩
          show M_price_l4b fx (nI fw) (nI b) (nI (adr (parR S b))) (M_price_l4 fx (nI fw) (nI b) (nI (adr (parR S b))) f) (nI 8) s = _
          unfold M_price_l4b
          rw [if_neg (by decide)]
        · have f1 : (stA S (alB S fx fw) b (dpB S (alB S fx fw) (nBk S - (b + 1))) 0).1 r w = (dpB S (alB S fx fw) (nBk S - (b + 1))).1 r w := if_neg (fun q => by omega)
          have f2 : (stA S (alB S fx fw) b (dpB S (alB S fx fw) (nBk S - (b + 1))) 0).2 r w = (dpB S (alB S fx fw) (nBk S - (b + 1))).2 r w := if_neg (fun q => by omega)
          rw [f1, f2]; exact a3 r w hr hw
      have Rs1 : M_bk S s1 := R.fr fun v hv => a2.i v (nIn_of (by decide) hv)
      refine ⟨s2, ?_, by omega, c2, ?_⟩
      · show M_price_l2b fx (nI fw) (M_price_l2 fx (nI fw) f) (nI b) s = _
        unfold M_price_l2b
        have d1 : mRd s1 1350 0 12 (nI b) = some (sI S 200 0 b) := by rw [rd_n (by omega) (by decide), (Rs1.2.1 b hb).1]
        have hup : (if sI S 200 0 b = (-1) then some (nI 12) else (some (sI S 200 0 b)).bind fun x3 => some x3) = some (nI (adr (parR S b))) := by
          unfold parR adr
          rcases (W.bk.2.1 b hb).1 with h1 | ⟨a, ha, h1⟩
          · rw [if_pos h1, if_pos h1, if_pos rfl]
          · have hn : ¬ sI S 200 0 b = -1 := by rw [h1]; exact fun q => (m1_n (by omega)).mp q
            rw [if_neg hn, if_neg hn, if_neg (by omega), bS, h1, nv_nI (by omega), Nat.add_sub_cancel]
        rw [if_neg (nI_pos (by omega)), a1, bS, d1, bS, hup, bS, c1, bS, bS]
        rfl
      · have e : dpB S (alB S fx fw) (nBk S - b) = stB S (alB S fx fw) b (dpB S (alB S fx fw) (nBk S - (b + 1))) := by
          rw [show nBk S - b = (nBk S - (b + 1)) + 1 by omega]
          show stB S (alB S fx fw) (nBk S - 1 - (nBk S - (b + 1))) _ = _
          rw [show nBk S - 1 - (nBk S - (b + 1)) = b by omega]
        rw [e]
        intro r w hr hw
        have f1 : (stA S (alB S fx fw) b (dpB S (alB S fx fw) (nBk S - (b + 1))) 8).1 r w = (stB S (alB S fx fw) b (dpB S (alB S fx fw) (nBk S - (b + 1)))).1 r w := by
          show (if r = parR S b ∧ w < 8 then _ else _) = _
          by_cases q : r = parR S b
          · rw [if_pos ⟨q, hw⟩]
          · rw [if_neg (fun z => q z.1)]; exact (if_neg q).symm
        have f2 : (stA S (alB S fx fw) b (dpB S (alB S fx fw) (nBk S - (b + 1))) 8).2 r w = (stB S (alB S fx fw) b (dpB S (alB S fx fw) (nBk S - (b + 1)))).2 r w := by
          show (if r = parR S b ∧ w < 8 then _ else _) = _
          by_cases q : r = parR S b
          · rw [if_pos ⟨q, hw⟩]
          · rw [if_neg (fun z => q z.1)]; exact (if_neg q).symm
        rw [← f1, ← f2]
        exact c3 r w hr hw
    · rintro f s ⟨hb, F, K⟩
      refine ⟨s, ?_, F, K⟩
      show M_price_l2b fx (nI fw) (M_price_l2 fx (nI fw) f) (-1) s = _
      unfold M_price_l2b
      rw [if_pos (by decide)]
  refine ⟨ν2, ?_, F2, K2⟩
  unfold M_price
  rw [e1, bS, F1.i 1354 (by decide), R.1, sub1, bS, e2, bS]
theorem dp_none {S : St} (W : WF S) {fw : Nat} : dpB S (alB S (-1) fw) (nBk S) = dpB S (rdB S) (nBk S) := dp_congr (nBk S) (fun b v _ hb _ => al_none (by have := W.bk.1; omega)) (Nat.le_refl _) (Nat.le_refl _)
def chB (f : Nat → Nat) : Nat → Nat
  | 0 => 0
  | v + 1 => if f (v + 1) < f (chB f v) then v + 1 else chB f v
theorem chB_le {f : Nat → Nat} : ∀ {v : Nat}, chB f v ≤ v := by
  intro v
  induction v with
  | zero => exact Nat.le_refl _
  | succ v ih => unfold chB; split <;> omega
theorem chB_min {f : Nat → Nat} : ∀ {v i : Nat}, i ≤ v → f (chB f v) ≤ f i := by
  intro v
  induction v with
  | zero => intro i h; rw [show i = 0 by omega]; exact Nat.le_refl _
  | succ v ih =>
    intro i h
    unfold chB
    split
    · rename_i q
      by_cases e : i = v + 1
      · subst e; exact Nat.le_refl _
      · have := ih (i := i) (by omega); omega
    · rename_i q
      by_cases e : i = v + 1
      · subst e; omega
      · exact ih (by omega)
theorem cheap_C {S : St} {X : KPt} {μ : Mem} (hK : CK S X μ) (hs : ∀ w, w < 8 → X.1 0 w ≤ FAr) : Copies_cheapest μ = some (nI (chB (X.1 0) 7)) := by
  have hfa : FAr = 100000000 := rfl
  obtain ⟨r, e, hr⟩ : ∃ r, Copies_cheapest_l1 μ FU (nI 0) (nI 1) = some r ∧ r = nI (chB (X.1 0) 7) := by
    refine loopE (fun f v (s : Int32) => Copies_cheapest_l1 μ f s v) 8 (fun c s => 0 < c ∧ s = nI (chB (X.1 0) (c - 1))) (fun r => r = nI (chB (X.1 0) 7)) ?_ ?_ 7 1 (nI 0) FU rfl (FU_lt (by decide)) ⟨by decide, rfl⟩
    · rintro f v s hv ⟨h0, rfl⟩
      left
      obtain ⟨v, rfl⟩ : ∃ u, v = u + 1 := ⟨v - 1, by omega⟩
      have hc := chB_le (f := X.1 0) (v := v)
      have h1 := hs (v + 1) hv
      have h2 := hs (chB (X.1 0) v) (by omega)
      refine ⟨nI (chB (X.1 0) (v + 1)), ?_, by omega, rfl⟩
      show Copies_cheapest_l1b μ (Copies_cheapest_l1 μ f) (nI (chB (X.1 0) v)) (nI (v + 1)) = _
      unfold Copies_cheapest_l1b
      have hu : chB (X.1 0) (v + 1) = if X.1 0 (v + 1) < X.1 0 (chB (X.1 0) v) then v + 1 else chB (X.1 0) v := rfl
      rw [if_pos ((lt_n (by omega) (by decide)).mpr hv), ix_n (by decide) (by decide), bS, rd_n hv (by decide), (hK 0 (v + 1) (Nat.zero_le _) hv).1, bS, bS, rd_n (by omega) (by decide), (hK 0 (chB (X.1 0) v) (Nat.zero_le _) (by omega)).1, bS]
      by_cases q : X.1 0 (v + 1) < X.1 0 (chB (X.1 0) v)
      · rw [if_pos ((lt_n (by omega) (by omega)).mpr q), bS, bS, add_n, hu, if_pos q]
      · rw [if_neg (fun z => q ((lt_n (by omega) (by omega)).mp z)), bS, bS, add_n, hu, if_neg q]
    · rintro f s ⟨h0, rfl⟩
      refine ⟨_, ?_, rfl⟩
      show Copies_cheapest_l1b μ (Copies_cheapest_l1 μ f) (nI _) (nI 8) = _
      unfold Copies_cheapest_l1b
      rw [if_neg (by decide)]
  unfold Copies_cheapest
  rw [e, bS, hr]
theorem lf_M {X : KPt} {ν : Mem} (hK : MKr X 0 ν) (hs : ∀ w, w < 8 → X.1 0 w ≤ FAr) : M_leastFirst ν = some (nI (chB (X.1 0) 7)) := by
  have hfa : FAr = 100000000 := rfl
  have hk : ∀ w, w < 8 → mI ν 1352 0 (96 + w) = nI (X.1 0 w) := fun w hw => (hK 0 w (Nat.le_refl _) hw).1
  obtain ⟨r, e, hr⟩ : ∃ r, M_leastFirst_l1 ν FU (nI 0) (nI 1) = some r ∧ r = nI (chB (X.1 0) 7) := by
    refine loopE (fun f v (s : Int32) => M_leastFirst_l1 ν f s v) 8 (fun c s => 0 < c ∧ s = nI (chB (X.1 0) (c - 1))) (fun r => r = nI (chB (X.1 0) 7)) ?_ ?_ 7 1 (nI 0) FU rfl (FU_lt (by decide)) ⟨by decide, rfl⟩
    · rintro f v s hv ⟨h0, rfl⟩
      left
      obtain ⟨v, rfl⟩ : ∃ u, v = u + 1 := ⟨v - 1, by omega⟩
      have hc := chB_le (f := X.1 0) (v := v)
      have h1 := hs (v + 1) hv
      have h2 := hs (chB (X.1 0) v) (by omega)
      refine ⟨nI (chB (X.1 0) (v + 1)), ?_, by omega, rfl⟩
      show M_leastFirst_l1b ν (M_leastFirst_l1 ν f) (nI (chB (X.1 0) v)) (nI (v + 1)) = _
      unfold M_leastFirst_l1b
      have hu : chB (X.1 0) (v + 1) = if X.1 0 (v + 1) < X.1 0 (chB (X.1 0) v) then v + 1 else chB (X.1 0) v := rfl
      rw [if_pos ((lt_n (by omega) (by decide)).mpr hv), add_n, rd_n (by omega) (by decide), hk _ hv, bS, add_n, rd_n (by omega) (by decide), hk _ (by omega), bS]
      by_cases q : X.1 0 (v + 1) < X.1 0 (chB (X.1 0) v)
      · rw [if_pos ((lt_n (by omega) (by omega)).mpr q), bS, bS, add_n, hu, if_pos q]
      · rw [if_neg (fun z => q ((lt_n (by omega) (by omega)).mp z)), bS, bS, add_n, hu, if_neg q]
    · rintro f s ⟨h0, rfl⟩
      refine ⟨_, ?_, rfl⟩
      show M_leastFirst_l1b ν (M_leastFirst_l1 ν f) (nI _) (nI 8) = _
      unfold M_leastFirst_l1b
      rw [if_neg (by decide)]
  unfold M_leastFirst
  rw [e, bS, hr]
theorem dp_far {S : St} {al : Nat → Nat → Bool} (W : WF S) : ∀ w, w < 8 → (dpB S al (nBk S)).1 0 w ≤ FAr := by
  intro w hw
  have := dp_sm (al := al) W W.bk.1 0 w hw
  have := bnd_12 W.bk.1
  have hfa : FAr = 100000000 := rfl
  omega
def CmdL (B M : Mem → Option (Int64 × Mem)) : Prop := ∀ (S : St) (μ ν : Mem), WF S → CR S μ → MR S ν → ∃ r μ' ν', B μ = some (r, μ') ∧ M ν = some (r, ν') ∧ CR S μ' ∧ MR S ν'
theorem word_arg (x : Int32) : (B_isWord x = some (nI 0) ∧ M_isWord x = some (nI 0)) ∨ ∃ w, w < 8 ∧ x = nI w ∧ B_isWord x = some (nI 1) ∧ M_isWord x = some (nI 1) := by
  unfold B_isWord M_isWord
  rw [within_in]
  rcases in_nat x 0 7 (by decide) (by decide) with h | ⟨y, h1, h2, h3, h4⟩
  · left; rw [h, bS]; exact ⟨rfl, rfl⟩
  · right; refine ⟨y, by omega, h3, ?_⟩; rw [h4, bS]; exact ⟨rfl, rfl⟩
theorem q_cost (x : Int32) : Cmd (B_cost x) (M_cost x) := by
  intro S μ ν W C R
  unfold B_cost M_cost
  rcases word_arg x with ⟨h1, h2⟩ | ⟨w, hw, rfl, h1, h2⟩
  · rw [h1, h2, bS, bS, if_pos (by decide), if_pos (by decide)]; exact ⟨_, _, _, rfl, rfl, C, R⟩
  · obtain ⟨μ1, a1, a2, a3⟩ := reckon_C W C.bk
    obtain ⟨ν1, b1, b2, b3⟩ := price_M (fx := -1) (fw := 0) W R.bk (by decide)
    rw [dp_none W] at b3
    rw [h1, h2, bS, bS, if_neg (by decide), if_neg (by decide), a1, b1, bS, bS, ix_n (by decide) (by decide), bS, rd_n hw (by decide), (a3 0 w (Nat.zero_le _) hw).1, bS, add_n, rd_n (by omega) (by decide), show mI ν1 1352 0 (96 + w) = _ from (b3 0 w (Nat.le_refl _) hw).1, bS]
    exact ⟨_, _, _, rfl, rfl, C.fr a2 (by decide), R.fr b2 (by decide)⟩
theorem q_ways (x : Int32) : CmdL (B_ways x) (M_ways x) := by
  intro S μ ν W C R
  unfold B_ways M_ways
  rcases word_arg x with ⟨h1, h2⟩ | ⟨w, hw, rfl, h1, h2⟩
  · rw [h1, h2, bS, bS, if_pos (by decide), if_pos (by decide)]; exact ⟨_, _, _, rfl, rfl, C, R⟩
  · obtain ⟨μ1, a1, a2, a3⟩ := reckon_C W C.bk
    obtain ⟨ν1, b1, b2, b3⟩ := price_M (fx := -1) (fw := 0) W R.bk (by decide)
    rw [dp_none W] at b3
    rw [h1, h2, bS, bS, if_neg (by decide), if_neg (by decide), a1, b1, bS, bS, ix_n (by decide) (by decide), bS, rl_n hw (by decide), (a3 0 w (Nat.zero_le _) hw).2, bS, add_n, rl_n (by omega) (by decide), show mL ν1 1353 0 (96 + w) = _ from (b3 0 w (Nat.le_refl _) hw).2, bS]
    exact ⟨_, _, _, rfl, rfl, C.fr a2 (by decide), R.fr b2 (by decide)⟩
theorem q_first : Cmd B_first M_first := by
  intro S μ ν W C R
  unfold B_first M_first
  obtain ⟨μ1, a1, a2, a3⟩ := reckon_C W C.bk
  obtain ⟨ν1, b1, b2, b3⟩ := price_M (fx := -1) (fw := 0) W R.bk (by decide)
  rw [dp_none W] at b3
  rw [a1, b1, bS, bS, cheap_C a3 (dp_far W), lf_M b3 (dp_far W), bS, bS]
  exact ⟨_, _, _, rfl, rfl, C.fr a2 (by decide), R.fr b2 (by decide)⟩
