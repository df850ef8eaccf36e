/-! PURE: laws worked out in the class's memory and in the reference's -/
/-- not by rfl alone, so that simp writes congruences and no kernel has to unfold -/
theorem bS {α β : Type} (a : α) (f : α → Option β) : (some a).bind f = f a := (Option.bind_some a f).trans (Eq.refl (f a))
theorem Fr.r {W : List Nat} {a b : Mem} (h : Fr W a b) (v : Nat) (hv : v ∉ W) (r : Nat) : mI b v r = mI a v r := congrFun (h.i v hv) r
def RowC (μ : Mem) (l : Nat) : Nat → List Nat → Prop
  | _, [] => True
  | a, s :: t => mI μ 500 l a = nI s ∧ RowC μ l (a + 1) t
theorem RowC_app {μ : Mem} {l : Nat} {ys : List Nat} : ∀ {xs : List Nat} {a : Nat}, RowC μ l a (xs ++ ys) ↔ RowC μ l a xs ∧ RowC μ l (a + xs.length) ys := by
  intro xs
  induction xs with
  | nil => intro a; simp [RowC]
  | cons s t ih =>
    intro a
    simp only [List.cons_append, RowC, ih, List.length_cons]
    rw [show a + 1 + t.length = a + (t.length + 1) by omega, and_assoc]
theorem RowC_keep {μ μ' : Mem} {l : Nat} : ∀ {xs : List Nat} {a : Nat}, RowC μ l a xs → (∀ i, a ≤ i → i < a + xs.length → mI μ' 500 l i = mI μ 500 l i) → RowC μ' l a xs := by
  intro xs
  induction xs with
  | nil => intro a _ _; trivial
  | cons s t ih =>
    intro a h k
    exact ⟨(k a (Nat.le_refl _) (by simp)).trans h.1, ih h.2 fun i h1 h2 => k i (by omega) (by simp; omega)⟩
def RowM (μ : Mem) : Nat → List Nat → Prop
  | _, [] => True
  | a, s :: t => mI μ 1323 0 a = nI (cdM s) ∧ mI μ 1324 0 a = nI (vlM s) ∧ RowM μ (a + 1) t
theorem RowM_app {μ : Mem} {ys : List Nat} : ∀ {xs : List Nat} {a : Nat}, RowM μ a (xs ++ ys) ↔ RowM μ a xs ∧ RowM μ (a + xs.length) ys := by
  intro xs
  induction xs with
  | nil => intro a; simp [RowM]
  | cons s t ih =>
    intro a
    simp only [List.cons_append, RowM, ih, List.length_cons]
    rw [show a + 1 + t.length = a + (t.length + 1) by omega, and_assoc, and_assoc]
theorem RowM_keep {μ μ' : Mem} : ∀ {xs : List Nat} {a : Nat}, RowM μ a xs → (∀ i, a ≤ i → i < a + xs.length → mI μ' 1323 0 i = mI μ 1323 0 i ∧ mI μ' 1324 0 i = mI μ 1324 0 i) → RowM μ' a xs := by
  intro xs
  induction xs with
  | nil => intro a _ _; trivial
  | cons s t ih =>
    intro a h k
    obtain ⟨k1, k2⟩ := k a (Nat.le_refl _) (by simp)
    exact ⟨k1.trans h.1, k2.trans h.2.1, ih h.2.2 fun i h1 h2 => k i (by omega) (by simp; omega)⟩
theorem opv_len {f : Nat → Int32} {st : List Int32} {s m h : Nat} (hh : hst m s st.length = some h) : (opv f st s).length = h := by
  unfold hst at hh
  unfold opv
  split at hh
  · split at hh
    · simp at hh; subst hh
      split
      · rfl
      · rfl
    · exact nomatch hh
  · rename_i h1
    rw [if_neg (by omega), if_neg h1]
    split at hh
    · rename_i h2
      rw [if_pos h2]
      split at hh
      · simp at hh; subst hh; simp; omega
      · exact nomatch hh
    · rename_i h2
      rw [if_neg h2]
      split at hh
      · simp at hh; subst hh; simp; omega
      · exact nomatch hh
theorem hst_le {m s h h' : Nat} (hh : hst m s h = some h') (hm : h ≤ m) : h' ≤ m := by
  unfold hst at hh
  split at hh
  · split at hh
    · simp at hh; omega
    · exact nomatch hh
  · split at hh
    · split at hh
      · simp at hh; omega
      · exact nomatch hh
    · split at hh
      · simp at hh; omega
      · exact nomatch hh
theorem C_op {l many a k f : Nat} {μ : Mem} {st : List Int32} {s h : Nat} (hl : l < 7) (hm : many ≤ 120) (hs : vop s) (h500 : mI μ 500 l a = nI s) (ha : a < many) (hk : k < many) (hS : SC 502 μ st) (h503 : mI μ 503 0 0 = nI st.length) (h60 : st.length ≤ 60) (hh : hst 60 s st.length = some h) (hb : s = 10107 ∨ s = 10108 → b01 (st.headD 0) ∧ b01 (st.tail.headD 0)) :
    ∃ μ', Laws_valueOf_l1 (nI l) (nI many) (f + 1) (nI a) (nI k) μ = Laws_valueOf_l1 (nI l) (nI many) f (nI (a + 1)) (nI (k + 1)) μ' ∧ SC 502 μ' (opv (mI μ 918 0) st s) ∧ mI μ' 503 0 0 = nI (opv (mI μ 918 0) st s).length ∧ Fr [502, 503] μ μ' := by
  have hs' := hs
  unfold vop at hs'
  have e1 : Laws_valueOf_l1 (nI l) (nI many) (f + 1) (nI a) (nI k) μ = Laws_valueOf_l1b (nI l) (nI many) (Laws_valueOf_l1 (nI l) (nI many) f) (nI a) (nI k) μ := rfl
  rw [e1]
  unfold Laws_valueOf_l1b
  rw [if_pos ((lt_n (by omega) (by omega)).mpr hk), if_pos ((lt_n (by omega) (by omega)).mpr ha), ix_n hl (by decide), Option.bind_some, rd_n (by omega) (by decide), h500, Option.bind_some, Option.bind_some, add_n, add_n]
  have hlen := opv_len (f := mI μ 918 0) hh
  rw [hlen]
  by_cases c1 : s < 10000
  · rw [if_pos ((lt_n (by omega) (by decide)).mpr c1)]
    rw [hst, if_pos (by omega)] at hh
    split at hh
    · rename_i hlt
      simp at hh
      rw [push_eq h503 (by omega), Option.bind_some, Option.bind_some]
      refine ⟨_, rfl, ?_, ?_, fr_si (by simp) (fr_si (by simp) Fr.refl)⟩
      · rw [opv, if_pos c1]
        refine ⟨?_, SC_other (SC_write hS (Nat.le_refl _)) (by decide)⟩
        rw [I_SI, if_neg (fun q => absurd q.1 (by decide)), I_SI, if_pos ⟨rfl, rfl, rfl⟩]
      · rw [I_SI, if_pos ⟨rfl, rfl, rfl⟩, hh]
    · exact nomatch hh
  · rw [if_neg (fun q => c1 ((lt_n (by omega) (by decide)).mp q))]
    by_cases c2 : s < 10100
    · rw [if_pos ((lt_n (by omega) (by decide)).mpr c2), sub_n (by omega), if_pos ((lt_n (by omega) (by decide)).mpr (by omega)), rd_n (by omega) (by decide), Option.bind_some, Option.bind_some]
      rw [hst, if_pos (by omega)] at hh
      split at hh
      · rename_i hlt
        simp at hh
        rw [push_eq h503 (by omega), Option.bind_some, Option.bind_some]
        refine ⟨_, rfl, ?_, ?_, fr_si (by simp) (fr_si (by simp) Fr.refl)⟩
        · rw [opv, if_neg c1, if_pos c2]
          refine ⟨?_, SC_other (SC_write hS (Nat.le_refl _)) (by decide)⟩
          rw [I_SI, if_neg (fun q => absurd q.1 (by decide)), I_SI, if_pos ⟨rfl, rfl, rfl⟩]
        · rw [I_SI, if_pos ⟨rfl, rfl, rfl⟩, hh]
      · exact nomatch hh
    · rw [if_neg (fun q => c2 ((lt_n (by omega) (by decide)).mp q)), if_neg (fun q => absurd ((eq_n (by omega) (by decide)).mp q) (by omega)), if_neg (fun q => absurd ((eq_n (by omega) (by decide)).mp q) (by omega))]
      by_cases c3 : s = 10109
      · rw [if_pos ((eq_n (by omega) (by decide)).mpr c3)]
        rw [hst, if_neg c2, if_pos c3] at hh
        split at hh
        · simp at hh
          cases st with
          | nil => rename_i q; simp at q
          | cons x t =>
            rw [List.length_cons] at h503 h60 hh
            have h1 : mI (mSI μ 503 0 0 (nI t.length)) 503 0 0 = nI t.length := by rw [I_SI, if_pos ⟨rfl, rfl, rfl⟩]
            rw [pop_eq h503 (by omega), Option.bind_some, hS.1]
            simp only []
            rw [push_eq h1 (by omega), Option.bind_some, Option.bind_some, Option.bind_some]
            refine ⟨_, rfl, ?_, ?_, fr_si (by simp) (fr_si (by simp) (fr_si (by simp) Fr.refl))⟩
            · rw [opv, if_neg c1, if_neg c2, if_pos c3]
              refine ⟨?_, SC_other (SC_write (SC_other hS.2 (by decide)) (Nat.le_refl _)) (by decide)⟩
              rw [I_SI, if_neg (fun q => absurd q.1 (by decide)), List.tail_cons, I_SI, if_pos ⟨rfl, rfl, rfl⟩]
              rfl
            · rw [I_SI, if_pos ⟨rfl, rfl, rfl⟩, ← hh]
        · exact nomatch hh
      · rw [if_neg (fun q => c3 ((eq_n (by omega) (by decide)).mp q))]
        rw [hst, if_neg c2, if_neg c3] at hh
        split at hh
        · simp at hh
          cases st with
          | nil => rename_i q; simp at q
          | cons y t =>
            cases t with
            | nil => rename_i q; simp at q
            | cons x t =>
              rw [List.length_cons, List.length_cons] at h503 h60 hh
              have h1 : mI (mSI μ 503 0 0 (nI (t.length + 1))) 503 0 0 = nI (t.length + 1) := by rw [I_SI, if_pos ⟨rfl, rfl, rfl⟩]
              have h2 : mI (mSI (mSI μ 503 0 0 (nI (t.length + 1))) 503 0 0 (nI t.length)) 503 0 0 = nI t.length := by rw [I_SI, if_pos ⟨rfl, rfl, rfl⟩]
              have hy : mI μ 502 0 (t.length + 1) = y := hS.1
              have hx : mI μ 502 0 t.length = x := hS.2.1
              rw [pop_eq h503 (by omega), Option.bind_some, hy]
              simp only []
              rw [pop_eq h1 (by omega), Option.bind_some, I_SI, if_neg (fun q => absurd q.1 (by decide)), hx]
              simp only []
              have hj := joined_bin (s := s) (by unfold vbn; omega) x y (fun q => ⟨(hb (by omega)).2, (hb (by omega)).1⟩)
              obtain ⟨w, w1, w2⟩ := bdS hj
              rw [w1, Option.bind_some, w2, Option.bind_some, push_eq h2 (by omega), Option.bind_some, Option.bind_some, Option.bind_some]
              refine ⟨_, rfl, ?_, ?_, fr_si (by simp) (fr_si (by simp) (fr_si (by simp) (fr_si (by simp) Fr.refl)))⟩
              · rw [opv, if_neg c1, if_neg c2, if_neg c3]
                refine ⟨?_, SC_other (SC_write (SC_other (SC_other hS.2.2 (by decide)) (by decide)) (Nat.le_refl _)) (by decide)⟩
                rw [I_SI, if_neg (fun q => absurd q.1 (by decide)), List.tail_cons, List.tail_cons, I_SI, if_pos ⟨rfl, rfl, rfl⟩]
                rfl
              · rw [I_SI, if_pos ⟨rfl, rfl, rfl⟩, ← hh, Nat.add_sub_cancel]
        · exact nomatch hh
theorem C_ops {l many : Nat} (hl : l < 7) (hm : many ≤ 120) (fl : Nat → Int32) : ∀ (c : List Nat) {a k f : Nat} {μ : Mem} {st : List Int32} {h : Nat}, (∀ s ∈ c, vop s) → RowC μ l a c → a + c.length < many → k ≤ a → SC 502 μ st → mI μ 503 0 0 = nI st.length → st.length ≤ 60 → chk 60 c st.length = some h → mI μ 918 0 = fl → bok fl c st →
    ∃ μ', Laws_valueOf_l1 (nI l) (nI many) (f + c.length) (nI a) (nI k) μ = Laws_valueOf_l1 (nI l) (nI many) f (nI (a + c.length)) (nI (k + c.length)) μ' ∧ SC 502 μ' (ev fl c st) ∧ mI μ' 503 0 0 = nI (ev fl c st).length ∧ Fr [502, 503] μ μ' := by
  intro c
  induction c with
  | nil => intro a k f μ st h _ _ _ _ hS h5 _ _ _ _; exact ⟨μ, rfl, hS, h5, Fr.refl⟩
  | cons s t ih =>
    intro a k f μ st h hv hR ha hk hS h5 h60 hc hfl hb
    rw [List.length_cons] at ha
    obtain ⟨h', q1, q2⟩ := bdS (show (hst 60 s st.length).bind (chk 60 t) = some h from hc)
    subst hfl
    obtain ⟨μ1, e1, e2, e3, e4⟩ := C_op (f := f + t.length) hl hm (hv s List.mem_cons_self) hR.1 (show a < many by omega) (show k < many by omega) hS h5 h60 q1 hb.1
    have hlen := opv_len (f := mI μ 918 0) q1
    obtain ⟨μ2, g1, g2, g3, g4⟩ := ih (a := a + 1) (k := k + 1) (f := f) (μ := μ1) (st := opv (mI μ 918 0) st s) (h := h) (fun x hx => hv x (List.mem_cons_of_mem _ hx)) (RowC_keep hR.2 fun i _ _ => by rw [e4.i 500 (by decide)]) (by omega) (by omega) e2 e3 (by rw [hlen]; exact hst_le q1 h60) (by rw [hlen]; exact q2) (e4.r 918 (by decide) 0) hb.2
    refine ⟨μ2, ?_, g2, g3, e4.trans g4⟩
    rw [List.length_cons, show f + (t.length + 1) = f + t.length + 1 by omega, e1, g1, show a + 1 + t.length = a + (t.length + 1) by omega, show k + 1 + t.length = k + (t.length + 1) by omega]
/-- the class's row of a law -/
def blkC (a : Nat) (c s : List Nat) : List Nat := if c = [] then s ++ [10111] else c ++ ([10110, a + (c.length + 2 + s.length + 1)] ++ (s ++ [10111]))
def encC : Nat → LawT → List Nat
  | _, [] => []
  | a, (c, s) :: t => blkC a c s ++ encC (a + (blkC a c s).length) t
def EncC (μ : Mem) (l : Nat) (L : LawT) : Prop := mI μ 501 0 l = nI (encC 0 L).length ∧ (encC 0 L).length ≤ 120 ∧ RowC μ l 0 (encC 0 L)
theorem RowC_1 {μ : Mem} {l a s : Nat} : RowC μ l a [s] ↔ mI μ 500 l a = nI s := by simp [RowC]
theorem C_answer {l many a k f : Nat} {μ : Mem} {v : Int32} (hl : l < 7) (hm : many ≤ 120) (h500 : mI μ 500 l a = nI 10111) (ha : a < many) (hk : k < many) (hS : SC 502 μ [v]) (h503 : mI μ 503 0 0 = nI 1) : ∃ μ', Laws_valueOf_l1 (nI l) (nI many) (f + 1) (nI a) (nI k) μ = some (v, μ') := by
  have e1 : Laws_valueOf_l1 (nI l) (nI many) (f + 1) (nI a) (nI k) μ = Laws_valueOf_l1b (nI l) (nI many) (Laws_valueOf_l1 (nI l) (nI many) f) (nI a) (nI k) μ := rfl
  rw [e1]
  unfold Laws_valueOf_l1b
  rw [if_pos ((lt_n (by omega) (by omega)).mpr hk), if_pos ((lt_n (by omega) (by omega)).mpr ha), ix_n hl (by decide), Option.bind_some, rd_n (by omega) (by decide), h500, Option.bind_some, Option.bind_some, if_neg (by decide), if_neg (by decide), if_neg (by decide), if_pos rfl, pop_eq (n := 0) h503 (by decide), Option.bind_some, show mI μ 502 0 0 = v from hS.1]
  exact ⟨_, rfl⟩
theorem C_unless {l many a k f tgt : Nat} {μ : Mem} {v : Int32} (hl : l < 7) (hm : many ≤ 120) (h500 : mI μ 500 l a = nI 10110) (h501 : mI μ 500 l (a + 1) = nI tgt) (ha : a + 1 < many) (hk : k < many) (hS : SC 502 μ [v]) (h503 : mI μ 503 0 0 = nI 1) :
    ∃ μ', Laws_valueOf_l1 (nI l) (nI many) (f + 1) (nI a) (nI k) μ = Laws_valueOf_l1 (nI l) (nI many) f (nI (if v = 0 then tgt else a + 2)) (nI (k + 1)) μ' ∧ mI μ' 503 0 0 = nI 0 ∧ Fr [502, 503] μ μ' := by
  have e1 : Laws_valueOf_l1 (nI l) (nI many) (f + 1) (nI a) (nI k) μ = Laws_valueOf_l1b (nI l) (nI many) (Laws_valueOf_l1 (nI l) (nI many) f) (nI a) (nI k) μ := rfl
  rw [e1]
  unfold Laws_valueOf_l1b
  rw [if_pos ((lt_n (by omega) (by omega)).mpr hk), if_pos ((lt_n (by omega) (by omega)).mpr (show a < many by omega)), ix_n hl (by decide), Option.bind_some, rd_n (by omega) (by decide), h500, Option.bind_some, Option.bind_some, if_neg (by decide), if_neg (by decide), if_pos rfl, pop_eq (n := 0) h503 (by decide), Option.bind_some, show mI μ 502 0 0 = v from hS.1]
  simp only [add_n]
  by_cases hv : v = 0
  · rw [if_pos hv, if_pos ((lt_n (by omega) (by omega)).mpr ha), Option.bind_some, rd_n (by omega) (by decide), I_SI, if_neg (fun q => absurd q.1 (by decide)), h501, Option.bind_some, Option.bind_some, Option.bind_some, if_pos hv]
    exact ⟨_, rfl, by rw [I_SI, if_pos ⟨rfl, rfl, rfl⟩], fr_si (by simp) Fr.refl⟩
  · rw [if_neg hv, Option.bind_some, Option.bind_some, if_neg hv]
    exact ⟨_, rfl, by rw [I_SI, if_pos ⟨rfl, rfl, rfl⟩], fr_si (by simp) Fr.refl⟩
theorem frag_run {d : Nat} {bl : Bool} {c : List Nat} (h : Frag d bl c) (hd : d ≤ 60) (f : Nat → Int32) : bok f c [] ∧ chk 60 c ([] : List Int32).length = some 1 ∧ ∃ v, ev f c [] = [v] :=
  ⟨(h.2.2.2 f []).1, h.2.2.1 60 0 (by omega), (h.2.2.2 f []).2.imp fun _ q => q.1⟩
theorem C_clauses {l many : Nat} (hl : l < 7) (hm : many ≤ 120) (fl : Nat → Int32) : ∀ (L : LawT) {a k f : Nat} {μ : Mem}, (∀ q ∈ L, Frag 30 false q.2 ∧ (q.1 = [] ∨ Frag 30 true q.1)) → RowC μ l a (encC a L) → a + (encC a L).length = many → k ≤ a → many < f + k → mI μ 503 0 0 = nI 0 → mI μ 918 0 = fl →
    ∃ μ', Laws_valueOf_l1 (nI l) (nI many) f (nI a) (nI k) μ = some (lawV fl L, μ') := by
  intro L
  induction L with
  | nil =>
    intro a k f μ _ _ ha hk hf _ _
    have ha : a = many := ha
    subst ha
    obtain ⟨f, rfl⟩ : ∃ g, f = g + 1 := ⟨f - 1, by omega⟩
    have e1 : Laws_valueOf_l1 (nI l) (nI a) (f + 1) (nI a) (nI k) μ = Laws_valueOf_l1b (nI l) (nI a) (Laws_valueOf_l1 (nI l) (nI a) f) (nI a) (nI k) μ := rfl
    rw [e1]
    unfold Laws_valueOf_l1b
    by_cases c : nI k < nI a
    · rw [if_pos c, if_neg (fun q => absurd ((lt_n (by omega) (by omega)).mp q) (by omega))]
      exact ⟨_, rfl⟩
    · rw [if_neg c]
      exact ⟨_, rfl⟩
  | cons q t ih =>
    intro a k f μ hg hR ha hk hf h5 hfl
    obtain ⟨c, s⟩ := q
    obtain ⟨hs, hc⟩ := hg (c, s) List.mem_cons_self
    obtain ⟨sb, sc, v, sv⟩ := frag_run hs (by decide) fl
    simp only at hs hc
    unfold encC at hR ha
    rw [List.length_append] at ha
    obtain ⟨hR1, hR2⟩ := RowC_app.mp hR
    by_cases c0 : c = []
    · have eb : blkC a c s = s ++ [10111] := by rw [blkC, if_pos c0]
      have el : (blkC a c s).length = s.length + 1 := by rw [eb]; simp
      rw [eb] at hR1
      obtain ⟨r1, r2⟩ := RowC_app.mp hR1
      obtain ⟨μ1, g1, g2, g3, g4⟩ := C_ops hl hm fl s (a := a) (k := k) (f := f - s.length) (μ := μ) (st := []) (h := 1) hs.2.1 r1 (by omega) hk trivial h5 (by decide) sc hfl sb
      rw [show f - s.length + s.length = f by omega] at g1
      rw [sv] at g2 g3
      obtain ⟨μ2, w⟩ := C_answer (f := f - s.length - 1) (k := k + s.length) hl hm (show mI μ1 500 l (a + s.length) = nI 10111 by rw [g4.i 500 (by decide)]; exact RowC_1.mp r2) (by omega) (by omega) g2 g3
      rw [show f - s.length - 1 + 1 = f - s.length by omega] at w
      refine ⟨μ2, ?_⟩
      rw [g1, w, lawV, if_pos c0, sv]
      rfl
    · have hc := hc.resolve_left c0
      obtain ⟨cb, cc, u, cv⟩ := frag_run hc (by decide) fl
      have eb : blkC a c s = c ++ ([10110, a + (c.length + 2 + s.length + 1)] ++ (s ++ [10111])) := by rw [blkC, if_neg c0]
      have el : (blkC a c s).length = c.length + 2 + s.length + 1 := by rw [eb]; simp; omega
      rw [eb] at hR1
      obtain ⟨r1, r2⟩ := RowC_app.mp hR1
      obtain ⟨r3, r4⟩ := RowC_app.mp r2
      obtain ⟨r5, r6⟩ := RowC_app.mp r4
      simp only [List.length_cons, List.length_nil, RowC] at r3 r4 r5 r6
      obtain ⟨μ1, g1, g2, g3, g4⟩ := C_ops hl hm fl c (a := a) (k := k) (f := f - c.length) (μ := μ) (st := []) (h := 1) hc.2.1 r1 (by omega) hk trivial h5 (by decide) cc hfl cb
      rw [show f - c.length + c.length = f by omega] at g1
      rw [cv] at g2 g3
      obtain ⟨μ2, w1, w2, w3⟩ := C_unless (f := f - c.length - 1) (k := k + c.length) (tgt := a + (c.length + 2 + s.length + 1)) hl hm (show mI μ1 500 l (a + c.length) = nI 10110 by rw [g4.i 500 (by decide)]; exact r3.1) (by rw [g4.i 500 (by decide)]; exact r3.2.1) (by omega) (by omega) g2 g3
      rw [show f - c.length - 1 + 1 = f - c.length by omega] at w1
      have F2 := g4.trans w3
      rw [g1, w1]
      by_cases hu : u = 0
      · rw [if_pos hu]
        obtain ⟨μ3, z⟩ := ih (a := a + (blkC a c s).length) (k := k + c.length + 1) (f := f - c.length - 1) (μ := μ2) (fun q hq => hg q (List.mem_cons_of_mem _ hq)) (RowC_keep hR2 fun i _ _ => by rw [F2.i 500 (by decide)]) (by omega) (by omega) (by omega) w2 ((F2.r 918 (by decide) 0).trans hfl)
        rw [el] at z
        refine ⟨μ3, ?_⟩
        rw [z, lawV, if_neg c0, cv, if_pos (show ([u] : List Int32).headD 0 = 0 from hu)]
      · rw [if_neg hu]
        obtain ⟨μ3, z1, z2, z3, z4⟩ := C_ops hl hm fl s (a := a + c.length + 2) (k := k + c.length + 1) (f := f - c.length - 1 - s.length) (μ := μ2) (st := []) (h := 1) hs.2.1 (RowC_keep r5 fun i _ _ => by rw [F2.i 500 (by decide)]) (by omega) (by omega) trivial w2 (by decide) sc ((F2.r 918 (by decide) 0).trans hfl) sb
        rw [show f - c.length - 1 - s.length + s.length = f - c.length - 1 by omega] at z1
        rw [sv] at z2 z3
        obtain ⟨μ4, y⟩ := C_answer (f := f - c.length - 1 - s.length - 1) (k := k + c.length + 1 + s.length) hl hm (show mI μ3 500 l (a + c.length + 2 + s.length) = nI 10111 by rw [z4.i 500 (by decide), F2.i 500 (by decide)]; exact r6.1) (by omega) (by omega) z2 z3
        rw [show f - c.length - 1 - s.length - 1 + 1 = f - c.length - 1 - s.length by omega] at y
        refine ⟨μ4, ?_⟩
        rw [z1, y, lawV, if_neg c0, cv, if_neg (show ¬ ([u] : List Int32).headD 0 = 0 from hu), sv]
        rfl
theorem valueOf_eq {l : Nat} {μ : Mem} {L : LawT} (hl : l < 7) (hE : EncC μ l L) (hg : GoodLaw L) : ∃ μ', Laws_valueOf (nI l) μ = some (lawV (mI μ 918 0) L, μ') := by
  unfold Laws_valueOf
  rw [rd_n hl (by decide), hE.1, Option.bind_some, Option.bind_some]
  have F : Fr [503] μ (mSI μ 503 0 0 (nI 0)) := fr_si (by simp) Fr.refl
  exact C_clauses hl hE.2.1 (mI μ 918 0) L hg.2 (RowC_keep hE.2.2 fun i _ _ => by rw [F.i 500 (by decide)]) (by omega) (Nat.le_refl _) (by unfold FU; have := hE.2.1; omega) (by rw [I_SI, if_pos ⟨rfl, rfl, rfl⟩]) (F.r 918 (by decide) 0)
/-! the reference -/
theorem cd_num {s : Nat} (h : s < 10000) : cdM s = 0 ∧ vlM s = s := by unfold cdM vlM; rw [if_pos h, if_pos h]; exact ⟨rfl, rfl⟩
theorem cd_let {s : Nat} (h : ¬ s < 10000) (h2 : s < 10100) : cdM s = 1 ∧ vlM s = s - 10000 := by unfold cdM vlM; rw [if_neg h, if_neg h, if_pos h2, if_pos h2]; exact ⟨rfl, rfl⟩
theorem cd_two {s : Nat} (h : vbn s) : 2 ≤ cdM s ∧ cdM s ≤ 11 ∧ cdM s ≠ 9 := by
  unfold vbn at h; unfold cdM; rw [if_neg (by omega), if_neg (by omega), if_neg (by omega)]; split <;> omega
theorem M_body {l k f to_ : Nat} {ν : Mem} {n : Nat} {xc xv : Int32} (hl : l < 7) (hto : to_ ≤ 260) (h1 : mI ν 1323 0 k = xc) (h2 : mI ν 1324 0 k = xv) (hk : k < 260 * l + to_) {o : Option (Int32 × Mem)}
    (ho : (if xc = 0 then ((if xc = 0 then (some xv) else (mRd ν 1332 0 9 xv).bind fun x4 => some x4).bind fun x6 => (mWr ν 1333 0 60 (nI n) x6).bind fun μ7 => some (nI (n + 1), μ7))
      else if xc = nI 1 then ((if xc = 0 then (some xv) else (mRd ν 1332 0 9 xv).bind fun x4 => some x4).bind fun x6 => (mWr ν 1333 0 60 (nI n) x6).bind fun μ7 => some (nI (n + 1), μ7))
      else if xc = nI 9 then ((mRd ν 1333 0 60 (nI n - nI 1)).bind fun x17 => (mWr ν 1333 0 60 (nI n - nI 1) (nI 1 - x17)).bind fun μ18 => some (nI n, μ18))
      else (mRd ν 1333 0 60 (nI n + -1 - nI 1)).bind fun x13 => (mRd ν 1333 0 60 (nI n + -1)).bind fun x14 => (M_worked xc x13.toInt64 x14.toInt64).bind fun x15 => (mWr ν 1333 0 60 (nI n + -1 - nI 1) x15).bind fun μ16 => some (nI n + -1, μ16)) = o) :
    M_workOut_l1 (nI l) (nI to_) (f + 1) (nI n) (nI k) ν = o.bind fun q => M_workOut_l1 (nI l) (nI to_) f q.1 (nI (k + 1)) q.2 := by
  have e1 : M_workOut_l1 (nI l) (nI to_) (f + 1) (nI n) (nI k) ν = M_workOut_l1b (nI l) (nI to_) (M_workOut_l1 (nI l) (nI to_) f) (nI n) (nI k) ν := rfl
  rw [e1, ← ho]
  unfold M_workOut_l1b
  have r1 : mRd ν 1323 0 1820 (nI k) = some xc := by rw [rd_n (by omega) (by decide), h1]
  have r2 : mRd ν 1324 0 1820 (nI k) = some xv := by rw [rd_n (by omega) (by decide), h2]
  rw [mul_n, add_n, if_pos ((lt_n (by omega) (by omega)).mpr hk), r1, Option.bind_some]
  by_cases q0 : xc = 0
  · rw [if_pos q0, if_pos q0, Option.bind_some, if_pos q0, if_pos q0, r2]
    simp only [bS]
    cases mWr ν 1333 0 60 (nI n) xv with
    | none => simp only [Option.bind_none]
    | some a => simp only [bS, add_n]
  · rw [if_neg q0, if_neg q0, Option.bind_some]
    by_cases q1 : xc = nI 1
    · rw [if_pos q1, if_pos q1, Option.bind_some, if_neg q0, if_neg q0, r2]
      simp only [bS]
      cases mRd ν 1332 0 9 xv with
      | none => simp only [Option.bind_none]
      | some b =>
        simp only [bS]
        cases mWr ν 1333 0 60 (nI n) b with
        | none => simp only [Option.bind_none]
        | some a => simp only [bS, add_n]
    · rw [if_neg q1, if_neg q1, Option.bind_some]
      by_cases q2 : xc = nI 9
      · rw [if_pos q2, if_pos q2]
        cases mRd ν 1333 0 60 (nI n - nI 1) with
        | none => simp only [Option.bind_none]
        | some b =>
          simp only [bS]
          cases mWr ν 1333 0 60 (nI n - nI 1) (nI 1 - b) with
          | none => simp only [Option.bind_none]
          | some a => simp only [bS, add_n]
      · rw [if_neg q2, if_neg q2, Option.bind_some, Option.bind_some]
        cases mRd ν 1333 0 60 (nI n + -1 - nI 1) with
        | none => simp only [Option.bind_none]
        | some b =>
          simp only [bS]
          cases mRd ν 1333 0 60 (nI n + -1) with
          | none => simp only [Option.bind_none]
          | some d =>
            simp only [bS]
            cases M_worked xc b.toInt64 d.toInt64 with
            | none => simp only [Option.bind_none]
            | some e =>
              simp only [bS]
              cases mWr ν 1333 0 60 (nI n + -1 - nI 1) e with
              | none => simp only [Option.bind_none]
              | some a => simp only [bS, add_n]
theorem M_op {l k f to_ : Nat} {ν : Mem} {st : List Int32} {s h : Nat} (hl : l < 7) (hto : to_ ≤ 260) (hs : vop s) (h1 : mI ν 1323 0 k = nI (cdM s)) (h2 : mI ν 1324 0 k = nI (vlM s)) (hk : k < 260 * l + to_) (hS : SC 1333 ν st) (h60 : st.length ≤ 60) (hh : hst 60 s st.length = some h) :
    ∃ ν', M_workOut_l1 (nI l) (nI to_) (f + 1) (nI st.length) (nI k) ν = M_workOut_l1 (nI l) (nI to_) f (nI (opv (mI ν 1332 0) st s).length) (nI (k + 1)) ν' ∧ SC 1333 ν' (opv (mI ν 1332 0) st s) ∧ Fr [1333] ν ν' := by
  have hs' := hs
  unfold vop at hs'
  have hlen := opv_len (f := mI ν 1332 0) hh
  rw [hlen]
  by_cases c1 : s < 10000
  · rw [hst, if_pos (by omega)] at hh
    split at hh
    · simp at hh
      refine ⟨_, (M_body (n := st.length) hl hto h1 h2 hk (o := some (nI h, mSI ν 1333 0 st.length (nI s))) ?_).trans rfl, ?_, fr_si (by simp) Fr.refl⟩
      · rw [(cd_num c1).1, (cd_num c1).2, if_pos nI_0, if_pos nI_0, Option.bind_some, wr_n (by omega) (by decide), Option.bind_some, hh]
      · rw [opv, if_pos c1]
        exact ⟨by rw [I_SI, if_pos ⟨rfl, rfl, rfl⟩], SC_write hS (Nat.le_refl _)⟩
    · exact nomatch hh
  · by_cases c2 : s < 10100
    · rw [hst, if_pos (by omega)] at hh
      split at hh
      · simp at hh
        refine ⟨_, (M_body (n := st.length) hl hto h1 h2 hk (o := some (nI h, mSI ν 1333 0 st.length (mI ν 1332 0 (s - 10000)))) ?_).trans rfl, ?_, fr_si (by simp) Fr.refl⟩
        · rw [(cd_let c1 c2).1, (cd_let c1 c2).2, if_neg (show ¬ nI 1 = 0 by decide), if_pos rfl, if_neg (show ¬ nI 1 = 0 by decide), rd_n (by omega) (by decide), Option.bind_some, Option.bind_some, wr_n (by omega) (by decide), Option.bind_some, hh]
        · rw [opv, if_neg c1, if_pos c2]
          exact ⟨by rw [I_SI, if_pos ⟨rfl, rfl, rfl⟩], SC_write hS (Nat.le_refl _)⟩
      · exact nomatch hh
    · by_cases c3 : s = 10109
      · have hc : cdM s = 9 := by unfold cdM; rw [if_neg c1, if_neg c2, if_pos c3]
        rw [hst, if_neg c2, if_pos c3] at hh
        split at hh
        · simp at hh
          cases st with
          | nil => rename_i q; simp at q
          | cons x t =>
            rw [List.length_cons] at h60 hh ⊢
            refine ⟨_, (M_body (n := t.length + 1) hl hto h1 h2 hk (o := some (nI h, mSI ν 1333 0 t.length (nI 1 - x))) ?_).trans rfl, ?_, fr_si (by simp) Fr.refl⟩
            · rw [hc, if_neg (show ¬ nI 9 = 0 by decide), if_neg (show ¬ nI 9 = nI 1 by decide), if_pos rfl, sub_n (by omega), Nat.add_sub_cancel, rd_n (by omega) (by decide), Option.bind_some, show mI ν 1333 0 t.length = x from hS.1, wr_n (by omega) (by decide), Option.bind_some, hh]
            · rw [opv, if_neg c1, if_neg c2, if_pos c3]
              exact ⟨by rw [List.tail_cons, I_SI, if_pos ⟨rfl, rfl, rfl⟩, List.headD_cons], SC_write hS.2 (Nat.le_refl _)⟩
        · exact nomatch hh
      · have hv : vbn s := by unfold vbn; omega
        obtain ⟨k1, k2, k3⟩ := cd_two hv
        rw [hst, if_neg c2, if_neg c3] at hh
        split at hh
        · simp at hh
          cases st with
          | nil => rename_i q; simp at q
          | cons y t =>
            cases t with
            | nil => rename_i q; simp at q
            | cons x t =>
              rw [List.length_cons, List.length_cons] at h60 hh ⊢
              have hh : h = t.length + 1 := by omega
              have hm := pk_m1 (t.length + 1)
              refine ⟨_, (M_body (n := t.length + 1 + 1) hl hto h1 h2 hk (o := some (nI h, mSI ν 1333 0 t.length (opB s x y))) ?_).trans rfl, ?_, fr_si (by simp) Fr.refl⟩
              · rw [if_neg (fun q => absurd ((eq0_n (by omega)).mp q) (by omega)), if_neg (fun q => absurd ((eq_n (by omega) (by decide)).mp q) (by omega)), if_neg (fun q => absurd ((eq_n (by omega) (by decide)).mp q) k3), hm, sub_n (by omega), Nat.add_sub_cancel, rd_n (by omega) (by decide), Option.bind_some, rd_n (by omega) (by decide), Option.bind_some, show mI ν 1333 0 t.length = x from hS.2.1, show mI ν 1333 0 (t.length + 1) = y from hS.1, (worked_bin hv x y).1, Option.bind_some, wr_n (by omega) (by decide), Option.bind_some, hh]
              · rw [opv, if_neg c1, if_neg c2, if_neg c3]
                exact ⟨by rw [List.tail_cons, List.tail_cons, I_SI, if_pos ⟨rfl, rfl, rfl⟩, List.headD_cons, List.headD_cons], SC_write hS.2.2 (Nat.le_refl _)⟩
        · exact nomatch hh
theorem M_ops {l to_ : Nat} (hl : l < 7) (hto : to_ ≤ 260) (fl : Nat → Int32) : ∀ (c : List Nat) {k f : Nat} {ν : Mem} {st : List Int32} {h : Nat}, (∀ s ∈ c, vop s) → RowM ν k c → k + c.length = 260 * l + to_ → SC 1333 ν st → st.length ≤ 60 → chk 60 c st.length = some h → mI ν 1332 0 = fl → c.length < f →
    ∃ ν', M_workOut_l1 (nI l) (nI to_) f (nI st.length) (nI k) ν = some ν' ∧ SC 1333 ν' (ev fl c st) := by
  intro c
  induction c with
  | nil =>
    intro k f ν st h _ _ hk hS _ _ _ hf
    obtain ⟨f, rfl⟩ : ∃ g, f = g + 1 := ⟨f - 1, by omega⟩
    have e1 : M_workOut_l1 (nI l) (nI to_) (f + 1) (nI st.length) (nI k) ν = M_workOut_l1b (nI l) (nI to_) (M_workOut_l1 (nI l) (nI to_) f) (nI st.length) (nI k) ν := rfl
    rw [e1]
    unfold M_workOut_l1b
    rw [List.length_nil] at hk
    rw [mul_n, add_n, if_neg (fun q => absurd ((lt_n (by omega) (by omega)).mp q) (by omega))]
    exact ⟨ν, rfl, hS⟩
  | cons s t ih =>
    intro k f ν st h hv hR hk hS h60 hc hfl hf
    rw [List.length_cons] at hk hf
    obtain ⟨f, rfl⟩ : ∃ g, f = g + 1 := ⟨f - 1, by omega⟩
    obtain ⟨h', q1, q2⟩ := bdS (show (hst 60 s st.length).bind (chk 60 t) = some h from hc)
    subst hfl
    obtain ⟨ν1, e1, e2, e4⟩ := M_op (f := f) hl hto (hv s List.mem_cons_self) hR.1 hR.2.1 (by omega) hS h60 q1
    have hlen := opv_len (f := mI ν 1332 0) q1
    obtain ⟨ν2, g1, g2⟩ := ih (k := k + 1) (f := f) (ν := ν1) (st := opv (mI ν 1332 0) st s) (h := h) (fun x hx => hv x (List.mem_cons_of_mem _ hx)) (RowM_keep hR.2.2 fun i _ _ => by rw [e4.i 1323 (by decide), e4.i 1324 (by decide)]; exact ⟨rfl, rfl⟩) (by omega) e2 (by rw [hlen]; exact hst_le q1 h60) (by rw [hlen]; exact q2) (e4.r 1332 (by decide) 0) (by omega)
    exact ⟨ν2, e1.trans g1, g2⟩
theorem workOut_eq {l a b d : Nat} {bl : Bool} {ν : Mem} {c : List Nat} (hl : l < 7) (hF : Frag d bl c) (hd : d ≤ 60) (hb : b = a + c.length) (hb2 : b ≤ 260) (hR : RowM ν (260 * l + a) c) : ∃ ν', M_workOut (nI l) (nI a) (nI b) ν = some ((ev (mI ν 1332 0) c []).headD 0, ν') := by
  obtain ⟨-, sc, v, sv⟩ := frag_run hF hd (mI ν 1332 0)
  unfold M_workOut
  rw [mul_n, add_n, Option.bind_some]
  obtain ⟨ν1, g1, g2⟩ := M_ops hl hb2 (mI ν 1332 0) c (k := 260 * l + a) (f := FU) (ν := ν) (st := []) (h := 1) hF.2.1 hR (by omega) trivial (by decide) sc rfl (by unfold FU; omega)
  rw [List.length_nil] at g1
  rw [g1, Option.bind_some, rd_n (by decide) (by decide), Option.bind_some]
  rw [sv] at g2 ⊢
  exact ⟨ν1, by rw [show mI ν1 1333 0 0 = v from g2.1]; rfl⟩
def EncM (ν : Mem) (l : Nat) (L : LawT) : Prop := mI ν 1326 0 l = nI L.length ∧ ∀ j c s, L[j]? = some (c, s) → ∃ a, mI ν 1327 0 (60 * l + j) = nI a ∧ mI ν 1328 0 (60 * l + j) = nI (a + c.length) ∧ mI ν 1329 0 (60 * l + j) = nI (a + c.length + s.length) ∧ a + c.length + s.length ≤ 260 ∧ RowM ν (260 * l + a) (c ++ s)
theorem EncM_keep {ν ν' : Mem} {l : Nat} {L : LawT} (h : EncM ν l L) (k : ∀ v, v ∈ [1323, 1324, 1326, 1327, 1328, 1329] → mI ν' v = mI ν v) : EncM ν' l L := by
  refine ⟨by rw [k 1326 (by simp)]; exact h.1, fun j c s hj => ?_⟩
  obtain ⟨a, h1, h2, h3, h4, h5⟩ := h.2 j c s hj
  exact ⟨a, by rw [k 1327 (by simp)]; exact h1, by rw [k 1328 (by simp)]; exact h2, by rw [k 1329 (by simp)]; exact h3, h4, RowM_keep h5 fun i _ _ => ⟨by rw [k 1323 (by simp)], by rw [k 1324 (by simp)]⟩⟩
theorem M_clauses {l : Nat} {L : LawT} (hl : l < 7) (hg : GoodLaw L) (fl : Nat → Int32) : ∀ (m : Nat) {j f : Nat} {ν : Mem}, j + m = L.length → EncM ν l L → mI ν 1332 0 = fl → m < f →
    ∃ ν', M_worthNow_l1 (nI l) f (nI (60 * l + j)) ν = some (lawV fl (L.drop j), ν') := by
  intro m
  induction m with
  | zero =>
    intro j f ν hj hE hfl hf
    obtain ⟨f, rfl⟩ : ∃ g, f = g + 1 := ⟨f - 1, by omega⟩
    have e1 : M_worthNow_l1 (nI l) (f + 1) (nI (60 * l + j)) ν = M_worthNow_l1b (nI l) (M_worthNow_l1 (nI l) f) (nI (60 * l + j)) ν := rfl
    have h60 := hg.1
    rw [e1]
    unfold M_worthNow_l1b
    rw [rd_n hl (by decide), hE.1, Option.bind_some, mul_n, add_n, if_neg (fun q => absurd ((lt_n (by omega) (by omega)).mp q) (by omega)), show L.drop j = [] from List.drop_eq_nil_of_le (by omega)]
    exact ⟨ν, rfl⟩
  | succ m ih =>
    intro j f ν hj hE hfl hf
    obtain ⟨f, rfl⟩ : ∃ g, f = g + 1 := ⟨f - 1, by omega⟩
    have e1 : M_worthNow_l1 (nI l) (f + 1) (nI (60 * l + j)) ν = M_worthNow_l1b (nI l) (M_worthNow_l1 (nI l) f) (nI (60 * l + j)) ν := rfl
    have h60 := hg.1
    have hjl : j < L.length := by omega
    obtain ⟨⟨c, s⟩, hq⟩ : ∃ q, L[j]? = some q := ⟨_, List.getElem?_eq_getElem hjl⟩
    have hdr : L.drop j = (c, s) :: L.drop (j + 1) := by
      rw [List.drop_eq_getElem_cons hjl]
      rw [List.getElem?_eq_getElem hjl] at hq
      rw [Option.some.inj hq]
    obtain ⟨hs, hc⟩ := hg.2 (c, s) (List.mem_of_getElem? hq)
    simp only at hs hc
    obtain ⟨a, k1, k2, k3, k4, k5⟩ := hE.2 j c s hq
    obtain ⟨k6, k7⟩ := RowM_app.mp k5
    have r1 : mRd ν 1327 0 420 (nI (60 * l + j)) = some (nI a) := by rw [rd_n (by omega) (by decide), k1]
    have r2 : mRd ν 1328 0 420 (nI (60 * l + j)) = some (nI (a + c.length)) := by rw [rd_n (by omega) (by decide), k2]
    have r3 : mRd ν 1329 0 420 (nI (60 * l + j)) = some (nI (a + c.length + s.length)) := by rw [rd_n (by omega) (by decide), k3]
    rw [e1]
    unfold M_worthNow_l1b
    rw [rd_n hl (by decide), hE.1, Option.bind_some, mul_n, add_n, if_pos ((lt_n (by omega) (by omega)).mpr (by omega)), hdr]
    unfold kj
    simp only [r1, r2, r3, Option.bind_some]
    by_cases c0 : c = []
    · rw [if_pos ((eq_n (by omega) (by omega)).mpr (by rw [c0]; rfl))]
      obtain ⟨ν1, g1⟩ := workOut_eq hl hs (by decide) rfl k4 (by rw [← Nat.add_assoc]; exact k7)
      rw [g1, Option.bind_some, lawV, if_pos c0, hfl]
      exact ⟨_, rfl⟩
    · have hc := hc.resolve_left c0
      have hlen : 0 < c.length := List.length_pos_iff.mpr c0
      rw [if_neg (fun q => absurd ((eq_n (by omega) (by omega)).mp q) (by omega))]
      obtain ⟨ν1, g1⟩ := workOut_eq hl hc (by decide) rfl (by omega) k6
      have F := M_workOut_fr g1
      rw [g1, Option.bind_some]
      simp only []
      rw [lawV, if_neg c0, hfl]
      by_cases hu : (ev fl c []).headD 0 = 0
      · rw [if_pos hu, if_pos hu, add_n]
        exact ih (j := j + 1) (by omega) (EncM_keep hE fun v hv => F.i v (by revert hv; simp; rintro (rfl | rfl | rfl | rfl | rfl | rfl) <;> decide)) ((F.r 1332 (by decide) 0).trans hfl) (by omega)
      · rw [if_neg hu, if_neg hu]
        have q2 : mRd ν1 1328 0 420 (nI (60 * l + j)) = some (nI (a + c.length)) := by rw [rd_n (by omega) (by decide), F.i 1328 (by decide), k2]
        have q3 : mRd ν1 1329 0 420 (nI (60 * l + j)) = some (nI (a + c.length + s.length)) := by rw [rd_n (by omega) (by decide), F.i 1329 (by decide), k3]
        simp only [q2, q3, Option.bind_some]
        obtain ⟨ν2, g2⟩ := workOut_eq (ν := ν1) hl hs (by decide) rfl k4 (RowM_keep (by rw [← Nat.add_assoc]; exact k7) fun i _ _ => ⟨by rw [F.i 1323 (by decide)], by rw [F.i 1324 (by decide)]⟩)
        rw [g2, Option.bind_some, F.r 1332 (by decide) 0, hfl]
        exact ⟨_, rfl⟩
theorem worthNow_eq {l : Nat} {ν : Mem} {L : LawT} (hl : l < 7) (hE : EncM ν l L) (hg : GoodLaw L) : ∃ ν', M_worthNow (nI l) ν = some (lawV (mI ν 1332 0) L, ν') := by
  unfold M_worthNow
  rw [mul_n, Option.bind_some]
  exact M_clauses hl hg (mI ν 1332 0) L.length (j := 0) (f := FU) (ν := ν) (by omega) hE rfl (by unfold FU; have := hg.1; omega)
