/-! PURE: a clause that is read, in both -/
theorem encC_snoc : ∀ (L : LawT) (a : Nat) (q : List Nat × List Nat), encC a (L ++ [q]) = encC a L ++ blkC (a + (encC a L).length) q.1 q.2 := by
  intro L
  induction L with
  | nil => intro a q; obtain ⟨c, s⟩ := q; show blkC a c s ++ [] = [] ++ blkC (a + 0) c s; simp
  | cons r t ih =>
    intro a q
    obtain ⟨c, s⟩ := r
    show blkC a c s ++ encC (a + (blkC a c s).length) (t ++ [q]) = (blkC a c s ++ encC (a + (blkC a c s).length) t) ++ blkC (a + (blkC a c s ++ encC (a + (blkC a c s).length) t).length) q.1 q.2
    rw [ih, List.length_append, List.append_assoc, Nat.add_assoc]
def endM (x2 : Int32) (μ40 : Mem) : Option Mem := (mRd μ40 1325 0 7 (mI μ40 1331 0 0)).bind fun x42 => (mWr μ40 1329 0 420 x2 x42).bind fun μ43 => (mRd μ43 1326 0 7 (mI μ43 1331 0 0)).bind fun x44 => (mWr μ43 1326 0 7 (mI μ43 1331 0 0) (x44 + (nI 1))).bind fun μ45 => some μ45
theorem end_any {p m : Nat} {ν : Mem} (hp : p < 7) (hm : m < 60) (e31 : mI ν 1331 0 0 = nI p) (e26 : mI ν 1326 0 p = nI m) : endM (nI (60 * p + m)) ν = some (mSI (mSI ν 1329 0 (60 * p + m) (mI ν 1325 0 p)) 1326 0 p (nI (m + 1))) := by
  unfold endM
  rw [e31, rd_n (by omega) (by decide), bS, wr_n (by omega) (by decide), bS, iS_v (show (1331 : Nat) ≠ 1329 by decide), e31, rd_n (by omega) (by decide), iS_v (show (1326 : Nat) ≠ 1329 by decide), e26, bS, add_n, wr_n (by omega) (by decide), bS]
def XCl (p v r c : Nat) : Prop := XLM p v r c ∨ (v = 1326 ∧ r = 0 ∧ c = p) ∨ ((v = 1327 ∨ v = 1328 ∨ v = 1329) ∧ r = 0 ∧ 60 * p ≤ c ∧ c < 60 * p + 60)
def ClM (p : Nat) (L : LawT) (Y : List Nat) (ν : Mem) : Prop := mI ν 1326 0 p = nI L.length ∧ ∀ j c s, L[j]? = some (c, s) → ∃ a, mI ν 1327 0 (60 * p + j) = nI a ∧ mI ν 1328 0 (60 * p + j) = nI (a + c.length) ∧ mI ν 1329 0 (60 * p + j) = nI (a + c.length + s.length) ∧ a + c.length + s.length ≤ Y.length ∧ RowM ν (260 * p + a) (c ++ s)
def GoodC (L : LawT) : Prop := ∀ q, q ∈ L → Frag 30 false q.2 ∧ (q.1 = [] ∨ Frag 30 true q.1)
/-- what the reference does with a clause's end -/
def doneM (x2 : Int32) (x29 : Int32) (μ30 : Mem) : Option Mem :=
  (mRd μ30 1327 0 420 x2).bind fun x31 => (mWr μ30 1328 0 420 x2 x31).bind fun μ32 => if x29 = 0 then endM x2 μ32 else if (mI μ32 1304 0 0) = (-1) then ((M_look μ32).bind fun (x33, μ34) => if x33 = (nI 63) then ((some (mSI μ34 1303 0 0 ((mI μ34 1303 0 0) + (nI 1)))).bind fun μ35 => (mRd μ35 1325 0 7 (mI μ35 1331 0 0)).bind fun x36 => (mWr μ35 1328 0 420 x2 x36).bind fun μ37 => (M_sum RF μ37).bind fun μ38 => endM x2 μ38) else (M_bad μ34).bind fun μ39 => some μ39) else endM x2 μ32
theorem clause_split (ν : Mem) : M_clause ν = (mRd ν 1326 0 7 (mI ν 1331 0 0)).bind fun x1 => (some (((nI 60) * (mI ν 1331 0 0)) + x1)).bind fun x2 => (if (mI ν 1304 0 0) = (-1) then ((M_look ν).bind fun (x3, μ4) => if x3 = (nI 121) then some μ4 else (M_bad μ4).bind fun μ5 => some μ5) else some ν).bind fun μ6 => (some (mSI μ6 1303 0 0 ((mI μ6 1303 0 0) + (nI 1)))).bind fun μ7 => (if (mI μ7 1304 0 0) = (-1) then ((M_look μ7).bind fun (x8, μ9) => if x8 = (nI 58) then some μ9 else (M_bad μ9).bind fun μ10 => some μ10) else some μ7).bind fun μ11 => (some (mSI μ11 1303 0 0 ((mI μ11 1303 0 0) + (nI 1)))).bind fun μ12 => if (mI μ12 1304 0 0) = (-1) then ((mRd μ12 1325 0 7 (mI μ12 1331 0 0)).bind fun x13 => (mWr μ12 1327 0 420 x2 x13).bind fun μ14 => (restM μ14).bind fun (x29, μ30) => doneM x2 x29 μ30) else some μ12 := by
  have key : ∀ (μ14 : Mem) (x2 : Int32), ((M_look μ14).bind fun (x15, μ16) => (if x15 = (nI 33) then some ((nI 1), μ16) else (M_look μ16).bind fun (x17, μ18) => if x17 = (nI 40) then some ((nI 1), μ18) else some ((nI 0), μ18)).bind fun (x19, μ20) => (if x19 = 0 then ((M_sum RF μ20).bind fun μ21 => (if (mI μ21 1304 0 0) = (-1) then ((M_look μ21).bind fun (x22, μ23) => (M_isSign x22).bind fun x24 => if x24 = 0 then some ((nI 0), μ23) else some ((nI 1), μ23)) else some ((nI 0), μ21)).bind fun (x25, μ26) => if x25 = 0 then some (x25, μ26) else (M_goOn μ26).bind fun μ27 => some (x25, μ27)) else (M_condition RF μ20).bind fun μ28 => some (x19, μ28)).bind fun (x29, μ30) => doneM x2 x29 μ30) = (restM μ14).bind fun (x29, μ30) => doneM x2 x29 μ30 := by
    intro μ14 x2
    unfold restM
    cases M_look μ14 with
    | none => rfl
    | some q =>
      obtain ⟨x15, μ16⟩ := q
      rw [bS, bS]
      simp only []
      generalize (if x15 = (nI 33) then some ((nI 1), μ16) else (M_look μ16).bind fun (x17, μ18) => if x17 = (nI 40) then some ((nI 1), μ18) else some ((nI 0), μ18)) = o
      cases o with
      | none => rfl
      | some q => obtain ⟨x19, μ20⟩ := q; rw [bS, bS]
  unfold M_clause kj
  simp only [← key]
  rfl
theorem RowM_ft {Z : Nat → Nat → Nat → Prop} {ν ν' : Mem} {a : Nat} {c : List Nat} (h : RowM ν a c) (F : Ft Z ν ν') (hz : ∀ i, a ≤ i → i < a + c.length → ¬ Z 1323 0 i ∧ ¬ Z 1324 0 i) : RowM ν' a c := RowM_keep h fun i h1 h2 => ⟨F _ _ _ (hz i h1 h2).1, F _ _ _ (hz i h1 h2).2⟩
/-- clauses stand while codes are put behind them -/
theorem ClM_app {p : Nat} {L : LawT} {Y : List Nat} {ν ν' : Mem} {c : List Nat} (h : ClM p L Y ν) (hY : LM p Y ν) (h' : LM p (Y ++ c) ν') (e : ∀ v i, v = 1326 ∨ v = 1327 ∨ v = 1328 ∨ v = 1329 → mI ν' v 0 i = mI ν v 0 i) : ClM p L (Y ++ c) ν' := by
  refine ⟨by rw [e 1326 _ (by decide)]; exact h.1, fun j x s hj => ?_⟩
  obtain ⟨a, h1, h2, h3, h4, h5⟩ := h.2 j x s hj
  refine ⟨a, by rw [e 1327 _ (by decide)]; exact h1, by rw [e 1328 _ (by decide)]; exact h2, by rw [e 1329 _ (by decide)]; exact h3, by rw [List.length_append]; omega, ?_⟩
  -- the codes below lie as before
  have k1 := (RowM_app.mp h'.2).1
  have same : ∀ (Z : List Nat) (b : Nat), RowM ν b Z → RowM ν' b Z → ∀ i, b ≤ i → i < b + Z.length → mI ν' 1323 0 i = mI ν 1323 0 i ∧ mI ν' 1324 0 i = mI ν 1324 0 i := by
    intro Z
    induction Z with
    | nil => intro b _ _ i h1 h2; simp at h2; omega
    | cons z t ih =>
      intro b g1 g2 i i1 i2
      by_cases e : i = b
      · subst e; exact ⟨g2.1.trans g1.1.symm, g2.2.1.trans g1.2.1.symm⟩
      · exact ih (b + 1) g1.2.2 g2.2.2 i (by omega) (by simp at i2; omega)
  refine RowM_keep h5 fun i i1 i2 => same Y (260 * p) hY.2 k1 i (by omega) ?_
  rw [List.length_append] at i2
  omega
theorem cond_fault {x1 : Int32} {μ μ' : Mem} (h : LawReader_conditioned μ = some (nI 0, μ')) : condC μ = some (nI 0, μ') := by
  unfold condC
  rw [h, bS]
  simp only []
  rw [if_pos z00, rz_0, bS]
theorem cond_one {μ μ' : Mem} (h : LawReader_conditioned μ = some (nI 1, μ')) : condC μ = some (nI 1, μ') := by
  unfold condC
  rw [h, bS]
  simp only []
  rw [if_neg n10, rz_1, bS]
/-- the class behind a condition; the reference too -/
theorem done_L {S : St} {l p i m : Nat} {X Y c : List Nat} {μ ν : Mem} (W : W_tp S) (hl : l < 7) (hp : p < 7) (KC : K_C S i μ) (KM : K_M S i ν) (hi : i ≤ nTp S) (e4 : mI μ 504 0 0 = nI l) (e31 : mI ν 1331 0 0 = nI p) (e5 : mI ν 1305 0 0 = nI 0) (hX : LC l (X ++ c) μ) (hY : LM p (Y ++ c) ν) (hXi : X.length + c.length + 2 ≤ i) (hYi : Y.length + c.length ≤ i) (hF : Frag 18 true c) (hm : m < 60) (e26 : mI ν 1326 0 p = nI m) (e27 : mI ν 1327 0 (60 * p + m) = nI Y.length) :
    (∃ j μ' ν', j ≤ nTp S ∧ condC μ = some (nI 0, μ') ∧ mI μ' 1003 0 0 = nI j ∧ Ft (XL l) μ μ' ∧ doneM (nI (60 * p + m)) (nI 1) ν = some ν' ∧ mI ν' 1304 0 0 = nI j ∧ Ft (XCl p) ν ν') ∨
    ∃ s i' μ' ν', Frag 15 false s ∧ i + s.length + 1 ≤ i' ∧ i' ≤ nTp S ∧ condC μ = some (nI 1, μ') ∧ K_C S i' μ' ∧ LC l (X ++ blkC X.length c s) μ' ∧ Ft (XL l) μ μ' ∧ doneM (nI (60 * p + m)) (nI 1) ν = some ν' ∧ K_M S i' ν' ∧ mI ν' 1305 0 0 = nI 0 ∧ LM p (Y ++ (c ++ s)) ν' ∧ Ft (XCl p) ν ν' ∧ mI ν' 1326 0 p = nI (m + 1) ∧ mI ν' 1327 0 (60 * p + m) = nI Y.length ∧ mI ν' 1328 0 (60 * p + m) = nI (Y.length + c.length) ∧ mI ν' 1329 0 (60 * p + m) = nI (Y.length + c.length + s.length) ∧ ∀ v k, v = 1326 ∨ v = 1327 ∨ v = 1328 ∨ v = 1329 → k < 60 * p + m → v ≠ 1326 → mI ν' v 0 k = mI ν v 0 k := by
  have hn := W.1
  have hsk := skp_le hi
  have hcne : c ≠ [] := hF.1
  obtain ⟨μ1, t1, t2, t3⟩ := takes_C (c := 63) W KC hi (by decide)
  have F28 : Ft (XCl p) ν (mSI ν 1328 0 (60 * p + m) (nI Y.length)) := Ft.refl.si (Or.inr (Or.inr ⟨Or.inr (Or.inl rfl), rfl, by omega, by omega⟩))
  obtain ⟨ν1, h1⟩ : ∃ z, z = mSI ν 1328 0 (60 * p + m) (nI Y.length) := ⟨_, rfl⟩
  rw [← h1] at F28
  have K1 : K_M S i ν1 := by rw [h1]; exact KM.wr (by decide)
  obtain ⟨ν2, q1, q2, q3⟩ := look_M W K1 hi
  have F12 : Ft (fun v r c => v = 1328 ∧ r = 0 ∧ c = 60 * p + m) ν ν1 := by rw [h1]; exact Ft.refl.si ⟨rfl, rfl, rfl⟩
  have ref : doneM (nI (60 * p + m)) (nI 1) ν = if lkI S i = (nI 63) then ((some (mSI ν2 1303 0 0 ((mI ν2 1303 0 0) + (nI 1)))).bind fun μ35 => (mRd μ35 1325 0 7 (mI μ35 1331 0 0)).bind fun x36 => (mWr μ35 1328 0 420 (nI (60 * p + m)) x36).bind fun μ37 => (M_sum RF μ37).bind fun μ38 => endM (nI (60 * p + m)) μ38) else (M_bad ν2).bind fun μ39 => some μ39 := by
    unfold doneM
    rw [rd_n (by omega) (by decide), e27, bS, wr_n (by omega) (by decide), bS, ← h1, if_neg n10, K1.2.2, if_pos rfl, q1, bS]
  have F2 : Ft (XCl p) ν ν2 := F28.trans ((xlm_fr q3 (by decide)).mono fun v r c z => Or.inl z)
  by_cases h63 : lkI S i = nI 63
  · rw [if_pos h63] at t1 t2 ref
    have hin := lk_in (by decide) h63
    have hlen0 : (X ++ c).length < 120 := by rw [List.length_append]; omega
    obtain ⟨μ2, a1, a2, a3⟩ := emit_C (s := 10110) hl hlen0 (show mI μ1 504 0 0 = nI l by rw [t3.i 504 (by decide)]; exact e4) (hX.fr t3 (by decide))
    have f4 : mI μ2 504 0 0 = nI l := by rw [a3 504 0 0 (by omega), t3.i 504 (by decide)]; exact e4
    have hlen1 : (X ++ c ++ [10110]).length = X.length + c.length + 1 := by rw [List.length_append, List.length_append, List.length_singleton]
    have elen : Laws_length μ2 = some (nI (X.length + c.length + 1)) := by
      unfold Laws_length
      rw [f4, rd_n (by omega) (by decide), a2.1, hlen1, bS]
    obtain ⟨μ3, b1, b2, b3⟩ := emit_C (s := 0) hl (show (X ++ c ++ [10110]).length < 120 by omega) f4 a2
    have KC3 : K_C S (skp S i + 1) μ3 := (t2.ft a3 (fun r c => by omega)).ft b3 (fun r c => by omega)
    have FC3 : Ft (XL l) μ μ3 := ((xl_fr t3 (by decide)).trans (a3.mono fun v r c => em_XL)).trans (b3.mono fun v r c => em_XL)
    -- the reference up to the sum
    obtain ⟨ν3, h3⟩ : ∃ z, z = mSI (mSI ν2 1303 0 0 (nI (skp S i + 1))) 1328 0 (60 * p + m) (nI (Y.length + c.length)) := ⟨_, rfl⟩
    have K3 : K_M S (skp S i + 1) ν3 := by rw [h3]; exact (q2.at).wr (by decide)
    have F23 : Ft (fun v r c => v = 1303 ∨ (v = 1328 ∧ r = 0 ∧ c = 60 * p + m)) ν2 ν3 := by rw [h3]; exact (Ft.refl.si (Or.inl rfl)).si (Or.inr ⟨rfl, rfl, rfl⟩)
    have hY2 : LM p (Y ++ c) ν2 := (hY.ft F12 (fun v r c hv => by omega)).fr q3 (by decide)
    have hY3 : LM p (Y ++ c) ν3 := hY2.ft F23 (fun v r c hv => by omega)
    have g31 : mI ν2 1331 0 0 = nI p := by rw [q3.i 1331 (by decide), F12 1331 0 0 (by omega)]; exact e31
    have g31' : mI ν3 1331 0 0 = nI p := by rw [F23 1331 0 0 (by omega)]; exact g31
    have g5 : mI ν3 1305 0 0 = nI 0 := by rw [F23 1305 0 0 (by omega), q3.i 1305 (by decide), F12 1305 0 0 (by omega)]; exact e5
    have g25 : mI ν2 1325 0 p = nI (Y.length + c.length) := by rw [hY2.1, List.length_append]
    have F3 : Ft (XCl p) ν ν3 := F2.trans (F23.mono fun v r c z => by
      rcases z with z | ⟨z, z1, z2⟩
      · exact Or.inl (Or.inl z)
      · exact Or.inr (Or.inr ⟨Or.inr (Or.inl z), z1, by omega, by omega⟩))
    rw [q2.2.1, add_n, bS, iS_v (show (1331 : Nat) ≠ 1303 by decide), g31, rd_n (by omega) (by decide), iS_v (show (1325 : Nat) ≠ 1303 by decide), g25, bS, wr_n (by omega) (by decide), bS, ← h3] at ref
    have g26 : mI ν3 1326 0 p = nI m := by rw [F23 1326 0 p (by omega), q3.i 1326 (by decide), F12 1326 0 p (by omega)]; exact e26
    have g27 : mI ν3 1327 0 (60 * p + m) = nI Y.length := by rw [F23 1327 0 _ (by omega), q3.i 1327 (by decide), F12 1327 0 _ (by omega)]; exact e27
    have g28 : mI ν3 1328 0 (60 * p + m) = nI (Y.length + c.length) := by rw [h3]; exact iS_eq
    have cls : ∀ (x : Int32) (μ7 : Mem), LawReader_sum RF (nI 0) μ3 = some (x, μ7) → LawReader_conditioned μ = if x = 0 then (mRz (nI 0)).bind fun z => some (z, μ7) else (Laws_emit (nI 10111) μ7).bind fun μ8 => (Laws_aim (nI (X.length + c.length + 1)) μ8).bind fun μ9 => (mRz (nI 1)).bind fun z => some (z, μ9) := fun x μ7 h => by
      unfold LawReader_conditioned
      rw [t1, bS]
      simp only []
      rw [if_neg n10, a1, bS, elen, bS, b1, bS, h, bS]
    have hlen2 : (X ++ c ++ [10110] ++ [0]).length = X.length + c.length + 2 := by rw [List.length_append, hlen1, List.length_singleton]
    rcases sumRF (e := 6) W hl hp (Nat.le_refl 6) (skp S i + 1) (X ++ c ++ [10110] ++ [0]) (Y ++ c) μ3 ν3 KC3 K3 (by omega) (by rw [b3 504 0 0 (by omega)]; exact f4) g31' g5 b2 hY3 (by omega) (by rw [List.length_append]; omega) with ⟨j, μ', ν', r1, r2, r3, r4, r5, r6, r7⟩ | ⟨s, i', μ', ν', r1, r2, r3, r4, r5, r6, r7, r8, r9, r10, r11, r12⟩
    · left
      have c0 := cls _ _ r2
      rw [if_pos z00, rz_0, bS] at c0
      have k31 : mI ν' 1331 0 0 = nI p := r6.2.1
      have k26 : mI ν' 1326 0 p = nI m := by rw [r7 1326 0 p (by unfold XLM; omega)]; exact g26
      have fin := end_any hp hm k31 k26
      rw [r5, bS, fin] at ref
      refine ⟨j, μ', _, r1, cond_fault (x1 := 0) c0, r3, FC3.trans r4, ref, (iS_v (by decide)).trans ((iS_v (by decide)).trans r6.1), ((F3.trans (r7.mono fun v r c z => Or.inl z)).si (Or.inr (Or.inr ⟨Or.inr (Or.inr rfl), rfl, by omega, by omega⟩))).si (Or.inr (Or.inl ⟨rfl, rfl, rfl⟩))⟩
    · right
      have hlen3 : (X ++ c ++ [10110] ++ [0] ++ s).length = X.length + c.length + 2 + s.length := by rw [List.length_append, hlen2]
      obtain ⟨μ4, m1, m2, m3⟩ := emit_C (s := 10111) hl (show (X ++ c ++ [10110] ++ [0] ++ s).length < 120 by omega) (show mI μ' 504 0 0 = nI l by rw [xl4 r7, b3 504 0 0 (by omega)]; exact f4) r6
      have k4 : mI μ4 504 0 0 = nI l := by rw [m3 504 0 0 (by omega), xl4 r7, b3 504 0 0 (by omega)]; exact f4
      have k1 : mI μ4 501 0 l = nI (X.length + c.length + 2 + s.length + 1) := by rw [m2.1, List.length_append, hlen3, List.length_singleton]
      obtain ⟨μ5, h5⟩ : ∃ z, z = mSI μ4 500 l (X.length + c.length + 1) (nI (X.length + c.length + 2 + s.length + 1)) := ⟨_, rfl⟩
      have F45 : Ft (fun v r c' => v = 500 ∧ r = l) μ4 μ5 := by rw [h5]; exact Ft.refl.si ⟨rfl, rfl⟩
      have aim : Laws_aim (nI (X.length + c.length + 1)) μ4 = some μ5 := by
        unfold Laws_aim
        rw [if_neg (nI_pos (by omega)), k4, rd_n (by omega) (by decide), k1, bS, if_pos ((lt_n (by omega) (by omega)).mpr (by omega)), ix_n (by omega) (by decide), bS, bS, wr_n (by omega) (by decide), bS, ← h5]
      have c0 := cls _ _ r4
      rw [if_neg n10, m1, bS, aim, bS, rz_1, bS] at c0
      have k31 : mI ν' 1331 0 0 = nI p := by rw [xlm31 r12]; exact g31'
      have k26 : mI ν' 1326 0 p = nI m := by rw [r12 1326 0 p (by unfold XLM; omega)]; exact g26
      have fin := end_any hp hm k31 k26
      rw [r8, bS, fin] at ref
      have blk : blkC X.length c s = c ++ ([10110, X.length + (c.length + 2 + s.length + 1)] ++ (s ++ [10111])) := if_neg hcne
      -- the class's row
      have row : LC l (X ++ blkC X.length c s) μ5 := by
        refine ⟨?_, ?_⟩
        · rw [F45 501 0 l (by omega), k1, blk]
          simp only [List.length_append, List.length_cons, List.length_nil]
          congr 1
          omega
        · have w : RowC μ4 l 0 ((X ++ c ++ [10110]) ++ ([0] ++ (s ++ [10111]))) := by
            have := m2.2
            simpa [List.append_assoc] using this
          obtain ⟨w1, w2⟩ := RowC_app.mp w
          obtain ⟨w3, w4⟩ := RowC_app.mp w2
          rw [hlen1] at w2 w3 w4
          have v1 : RowC μ5 l 0 (X ++ c ++ [10110]) := RowC_keep w1 fun k _ hk => by rw [h5]; exact iS_c (by rw [hlen1] at hk; omega)
          have v2 : RowC μ5 l (0 + (X ++ c ++ [10110]).length) ([X.length + (c.length + 2 + s.length + 1)] ++ (s ++ [10111])) := by
            rw [hlen1]
            refine RowC_app.mpr ⟨RowC_1.mpr ?_, RowC_keep w4 fun k hk _ => ?_⟩
            · rw [h5, Nat.zero_add]
              refine iS_eq.trans ?_
              congr 1
              omega
            · rw [h5]; exact iS_c (by simp at hk; omega)
          have := RowC_app.mpr ⟨v1, v2⟩
          rw [blk]
          simpa [List.append_assoc] using this
      obtain ⟨ν5, h6⟩ : ∃ z, z = mSI (mSI ν' 1329 0 (60 * p + m) (mI ν' 1325 0 p)) 1326 0 p (nI (m + 1)) := ⟨_, rfl⟩
      rw [← h6] at ref
      have F5 : Ft (fun v r c => (v = 1329 ∧ r = 0 ∧ c = 60 * p + m) ∨ (v = 1326 ∧ r = 0 ∧ c = p)) ν' ν5 := by rw [h6]; exact (Ft.refl.si (Or.inl ⟨rfl, rfl, rfl⟩)).si (Or.inr ⟨rfl, rfl, rfl⟩)
      have rowM : LM p (Y ++ (c ++ s)) ν5 := by
        have := r11.ft F5 (fun v r c hv => by omega)
        rw [List.append_assoc] at this
        exact this
      refine ⟨s, i', μ5, ν5, r1, by omega, r3, cond_one c0, (r5.ft m3 (fun r c => by omega)).ft F45 (fun r c => by omega), row, ((FC3.trans r7).trans (m3.mono fun v r c => em_XL)).trans (F45.mono fun v r c z => em_XL (Or.inl z)), ref, r9.ft F5 (fun r c => by omega), by rw [F5 1305 0 0 (by omega)]; exact r10, rowM, (F3.trans (r12.mono fun v r c z => Or.inl z)).trans (F5.mono fun v r c z => ?_), by rw [h6]; exact iS_eq, ?_, ?_, ?_, fun v k hv hk hne => ?_⟩
      · rcases z with ⟨z, z1, z2⟩ | z
        · exact Or.inr (Or.inr ⟨Or.inr (Or.inr z), z1, by omega, by omega⟩)
        · exact Or.inr (Or.inl z)
      · rw [F5 1327 0 _ (by omega), r12 1327 0 _ (by unfold XLM; omega)]; exact g27
      · rw [F5 1328 0 _ (by omega), r12 1328 0 _ (by unfold XLM; omega)]; exact g28
      · rw [h6]
        refine (iS_v (by decide)).trans (iS_eq.trans ?_)
        rw [r11.1]
        simp only [List.length_append]
      · rw [F5 v 0 k (by omega), r12 v 0 k (by unfold XLM; omega), F23 v 0 k (by omega), q3.i v (by simp; omega), F12 v 0 k (by omega)]
  · left
    rw [if_neg h63] at t1 t2 ref
    obtain ⟨μ2, w1, w2, w3⟩ := wrong_C t2
    obtain ⟨ν3, v1, v2, v3⟩ := bad_M q2
    have c0 : LawReader_conditioned μ = some (nI 0, μ2) := by
      unfold LawReader_conditioned
      rw [t1, bS]
      simp only []
      rw [if_pos z00, w1, bS]
      simp only []
      rw [rz_0, bS]
    rw [v1, bS] at ref
    exact ⟨skp S i, μ2, ν3, hsk.2, cond_fault (x1 := 0) c0, w2, (xl_fr t3 (by decide)).trans (xl_fr w3 (by decide)), ref, v2, F2.trans ((xlm_fr v3 (by decide)).mono fun v r c z => Or.inl z)⟩
