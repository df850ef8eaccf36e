/-! PURE: laws as lists of steps, and what they answer -/
abbrev LawT : Type := List (List Nat × List Nat)
def cdM (s : Nat) : Nat := if s < 10000 then 0 else if s < 10100 then 1 else if s = 10109 then 9 else if s < 10107 then s - 10098 else s - 10097
def vlM (s : Nat) : Nat := if s < 10000 then s else if s < 10100 then s - 10000 else 0
def opB (s : Nat) (x y : Int32) : Int32 := (M_worked (nI (cdM s)) x.toInt64 y.toInt64).getD 0
def b01 (x : Int32) : Prop := x = nI 0 ∨ x = nI 1
def bd6 (x : Int32) : Prop := -1000000 ≤ x.toInt ∧ x.toInt ≤ 1000000
def vop (s : Nat) : Prop := s < 10009 ∨ (10100 ≤ s ∧ s ≤ 10109)
def vbn (s : Nat) : Prop := 10100 ≤ s ∧ s ≤ 10108
theorem bnd_eq (v : Int64) : Laws_bounded v = M_bounded v := by
  unfold Laws_bounded M_bounded jMaxL jMinL
  simp only [lg_cmp_gt, lg_cmp_lt, Int64.lt_iff_toInt_lt]
  have e1 : (1000000 : Int64).toInt = 1000000 := by decide
  have e2 : (-1000000 : Int64).toInt = -1000000 := by decide
  rw [e1, e2]
  by_cases h : 1000000 < v.toInt
  · rw [if_pos h, if_neg (by omega : ¬ v.toInt < 1000000), e1, if_neg (by omega)]
    rfl
  · rw [if_neg h]
    by_cases h1 : v.toInt < -1000000
    · rw [if_pos h1, if_pos (by omega : v.toInt < 1000000), if_pos h1]
      rfl
    · rw [if_neg h1]
      by_cases h2 : v.toInt < 1000000
      · rw [if_pos h2, if_neg h1]
      · rw [if_neg h2, e1, if_neg (by omega)]
        have : v = 1000000 := by
          apply Int64.toInt_inj.mp
          rw [e1]; omega
        rw [this]
theorem bnd_some (v : Int64) : ∃ r, M_bounded v = some r ∧ bd6 r := by
  unfold M_bounded
  refine ⟨_, rfl, ?_⟩
  unfold bd6 jMaxL jMinL
  simp only [Int64.lt_iff_toInt_lt]
  have e1 : (1000000 : Int64).toInt = 1000000 := by decide
  have e2 : (-1000000 : Int64).toInt = -1000000 := by decide
  have e3 : (1000000 : Int64).toInt32.toInt = 1000000 := by decide
  have e4 : (-1000000 : Int64).toInt32.toInt = -1000000 := by decide
  rw [e1, e2]
  by_cases h : v.toInt < 1000000
  · rw [if_pos h]
    by_cases h2 : v.toInt < -1000000
    · rw [if_pos h2, e4]; omega
    · rw [if_neg h2]
      have : v.toInt32.toInt = v.toInt := by
        rw [Int64.toInt_toInt32]
        apply Int.bmod_eq_of_le <;> omega
      rw [this]; omega
  · rw [if_neg h, e1, if_neg (by omega), e3]; omega
theorem cd_bin {s : Nat} (h : vbn s) : s = 10100 ∨ s = 10101 ∨ s = 10102 ∨ s = 10103 ∨ s = 10104 ∨ s = 10105 ∨ s = 10106 ∨ s = 10107 ∨ s = 10108 := by unfold vbn at h; omega
theorem b01_bd {x : Int32} (h : b01 x) : bd6 x := by
  rcases h with rfl | rfl <;> (unfold bd6; decide)
theorem wk2 (a b : Int64) : M_worked (nI (cdM 10100)) a b = M_bounded (a + b) := by
  show (M_bounded (a + b)).bind (fun x1 => some x1) = _
  cases M_bounded (a + b) <;> rfl
theorem wk3 (a b : Int64) : M_worked (nI (cdM 10101)) a b = M_bounded (a - b) := by
  show (M_bounded (a - b)).bind (fun x1 => some x1) = _
  cases M_bounded (a - b) <;> rfl
theorem wk4 (a b : Int64) : M_worked (nI (cdM 10102)) a b = M_bounded (a * b) := by
  show (M_bounded (a * b)).bind (fun x1 => some x1) = _
  cases M_bounded (a * b) <;> rfl
theorem wk5 (a b : Int64) : M_worked (nI (cdM 10103)) a b = if b = 0 then some (nI 0) else M_bounded (a / b) := by
  show (if (lg_cmp b 0) = 0 then some (nI 0) else (mDl a b).bind fun x4 => (M_bounded x4).bind fun x5 => some x5) = _
  simp only [lg_cmp_eq]
  by_cases h : b = 0
  · rw [if_pos h, if_pos h]
  · rw [if_neg h, if_neg h, mDl, if_neg h, Option.bind_some]
    cases M_bounded (a / b) <;> rfl
theorem wk6 (a b : Int64) : M_worked (nI (cdM 10104)) a b = some (if a = b then nI 1 else nI 0) := by
  show (if (lg_cmp a b) = 0 then some (nI 1) else some (nI 0)) = _
  simp only [lg_cmp_eq]
  split <;> rfl
theorem wk7 (a b : Int64) : M_worked (nI (cdM 10105)) a b = some (if a < b then nI 1 else nI 0) := by
  show (if (lg_cmp a b) < 0 then some (nI 1) else some (nI 0)) = _
  simp only [lg_cmp_lt]
  split <;> rfl
theorem wk8 (a b : Int64) : M_worked (nI (cdM 10106)) a b = some (if b < a then nI 1 else nI 0) := by
  show (if 0 < (lg_cmp a b) then some (nI 1) else some (nI 0)) = _
  simp only [lg_cmp_gt]
  split <;> rfl
theorem wk10 (a b : Int64) : M_worked (nI (cdM 10107)) a b = some (if a = 0 then nI 0 else if b = 0 then nI 0 else nI 1) := by
  show (if (lg_cmp a 0) = 0 then some (nI 0) else if (lg_cmp b 0) = 0 then some (nI 0) else some (nI 1)) = _
  simp only [lg_cmp_eq]
  split
  · rfl
  · split <;> rfl
theorem wk11 (a b : Int64) : M_worked (nI (cdM 10108)) a b = some (if a = 0 then (if b = 0 then nI 0 else nI 1) else nI 1) := by
  show (if (lg_cmp a 0) = 0 then (if (lg_cmp b 0) = 0 then some (nI 0) else some (nI 1)) else some (nI 1)) = _
  simp only [lg_cmp_eq]
  split
  · split <;> rfl
  · rfl
theorem ite_b01 {c : Prop} [Decidable c] : b01 (if c then nI 1 else nI 0) := by
  split
  · exact Or.inr rfl
  · exact Or.inl rfl
/-- the reference's step of two -/
theorem worked_bin {s : Nat} (h : vbn s) (x y : Int32) : M_worked (nI (cdM s)) x.toInt64 y.toInt64 = some (opB s x y) ∧ bd6 (opB s x y) ∧ (10104 ≤ s → b01 (opB s x y)) := by
  have key : ∃ r, M_worked (nI (cdM s)) x.toInt64 y.toInt64 = some r ∧ bd6 r ∧ (10104 ≤ s → b01 r) := by
    rcases cd_bin h with rfl | rfl | rfl | rfl | rfl | rfl | rfl | rfl | rfl
    · rw [wk2]; obtain ⟨r, h1, h2⟩ := bnd_some (x.toInt64 + y.toInt64); exact ⟨r, h1, h2, fun q => by omega⟩
    · rw [wk3]; obtain ⟨r, h1, h2⟩ := bnd_some (x.toInt64 - y.toInt64); exact ⟨r, h1, h2, fun q => by omega⟩
    · rw [wk4]; obtain ⟨r, h1, h2⟩ := bnd_some (x.toInt64 * y.toInt64); exact ⟨r, h1, h2, fun q => by omega⟩
    · rw [wk5]
      split
      · exact ⟨_, rfl, b01_bd (Or.inl rfl), fun q => by omega⟩
      · obtain ⟨r, h1, h2⟩ := bnd_some (x.toInt64 / y.toInt64); exact ⟨r, h1, h2, fun q => by omega⟩
    · rw [wk6]; exact ⟨_, rfl, b01_bd ite_b01, fun _ => ite_b01⟩
    · rw [wk7]; exact ⟨_, rfl, b01_bd ite_b01, fun _ => ite_b01⟩
    · rw [wk8]; exact ⟨_, rfl, b01_bd ite_b01, fun _ => ite_b01⟩
    · rw [wk10]
      have : b01 (if x.toInt64 = 0 then nI 0 else if y.toInt64 = 0 then nI 0 else nI 1) := by
        split
        · exact Or.inl rfl
        · split
          · exact Or.inl rfl
          · exact Or.inr rfl
      exact ⟨_, rfl, b01_bd this, fun _ => this⟩
    · rw [wk11]
      have : b01 (if x.toInt64 = 0 then (if y.toInt64 = 0 then nI 0 else nI 1) else nI 1) := by
        split
        · split
          · exact Or.inl rfl
          · exact Or.inr rfl
        · exact Or.inr rfl
      exact ⟨_, rfl, b01_bd this, fun _ => this⟩
  obtain ⟨r, h1, h2⟩ := key
  have : opB s x y = r := by unfold opB; rw [h1]; rfl
  rw [this]
  exact ⟨h1, h2⟩
theorem lb1 : Laws_bounded 1 = some (nI 1) := rfl
theorem lb0 : Laws_bounded 0 = some (nI 0) := rfl
/-- the class's step of two -/
theorem joined_bin {s : Nat} (h : vbn s) (x y : Int32) (hb : 10107 ≤ s → b01 x ∧ b01 y) : (Laws_joined (nI s) x.toInt64 y.toInt64).bind (fun x8 => Laws_bounded x8) = some (opB s x y) := by
  have hw := (worked_bin h x y).1
  rcases cd_bin h with rfl | rfl | rfl | rfl | rfl | rfl | rfl | rfl | rfl
  · rw [wk2, ← bnd_eq] at hw; exact hw
  · rw [wk3, ← bnd_eq] at hw; exact hw
  · rw [wk4, ← bnd_eq] at hw; exact hw
  · rw [wk5] at hw
    show ((if (lg_cmp y.toInt64 0) = 0 then some 0 else (mDl x.toInt64 y.toInt64).bind fun x1 => some x1).bind fun x8 => Laws_bounded x8) = _
    simp only [lg_cmp_eq]
    by_cases q : y.toInt64 = 0
    · rw [if_pos q] at hw ⊢; rw [Option.bind_some, lb0]; exact hw
    · rw [if_neg q] at hw ⊢; rw [mDl, if_neg q, Option.bind_some, Option.bind_some, bnd_eq]; exact hw
  · rw [wk6] at hw
    show ((if (lg_cmp x.toInt64 y.toInt64) = 0 then some 1 else some 0).bind fun x8 => Laws_bounded x8) = _
    simp only [lg_cmp_eq]
    split at hw <;> rename_i q
    · rw [if_pos q, Option.bind_some, lb1]; exact hw
    · rw [if_neg q, Option.bind_some, lb0]; exact hw
  · rw [wk7] at hw
    show ((if (lg_cmp x.toInt64 y.toInt64) < 0 then some 1 else some 0).bind fun x8 => Laws_bounded x8) = _
    simp only [lg_cmp_lt]
    split at hw <;> rename_i q
    · rw [if_pos q, Option.bind_some, lb1]; exact hw
    · rw [if_neg q, Option.bind_some, lb0]; exact hw
  · rw [wk8] at hw
    show ((if 0 < (lg_cmp x.toInt64 y.toInt64) then some 1 else some 0).bind fun x8 => Laws_bounded x8) = _
    simp only [lg_cmp_gt]
    split at hw <;> rename_i q
    · rw [if_pos q, Option.bind_some, lb1]; exact hw
    · rw [if_neg q, Option.bind_some, lb0]; exact hw
  · rw [← hw, wk10]
    obtain ⟨h1, h2⟩ := hb (by omega)
    rcases h1 with rfl | rfl <;> rcases h2 with rfl | rfl <;> rfl
  · rw [← hw, wk11]
    obtain ⟨h1, h2⟩ := hb (by omega)
    rcases h1 with rfl | rfl <;> rcases h2 with rfl | rfl <;> rfl
/-! evaluation over a list as stack -/
def opv (f : Nat → Int32) (st : List Int32) (s : Nat) : List Int32 :=
  if s < 10000 then nI s :: st
  else if s < 10100 then f (s - 10000) :: st
  else if s = 10109 then (nI 1 - st.headD 0) :: st.tail
  else opB s (st.tail.headD 0) (st.headD 0) :: st.tail.tail
def ev (f : Nat → Int32) (c : List Nat) (st : List Int32) : List Int32 := c.foldl (opv f) st
theorem ev_app {f : Nat → Int32} {a b : List Nat} {st : List Int32} : ev f (a ++ b) st = ev f b (ev f a st) := List.foldl_append ..
def hst (m s h : Nat) : Option Nat := if s < 10100 then (if h < m then some (h + 1) else none) else if s = 10109 then (if 1 ≤ h then some h else none) else (if 2 ≤ h then some (h - 1) else none)
def chk (m : Nat) : List Nat → Nat → Option Nat
  | [], h => some h
  | s :: t, h => (hst m s h).bind (chk m t)
theorem chk_app {m : Nat} {a b : List Nat} : ∀ {h : Nat}, chk m (a ++ b) h = (chk m a h).bind (chk m b) := by
  induction a with
  | nil => intro h; rfl
  | cons s t ih =>
    intro h
    show (hst m s h).bind (chk m (t ++ b)) = ((hst m s h).bind (chk m t)).bind (chk m b)
    cases hst m s h with
    | none => rfl
    | some k => exact ih (h := k)
def bok (f : Nat → Int32) : List Nat → List Int32 → Prop
  | [], _ => True
  | s :: t, st => (s = 10107 ∨ s = 10108 → b01 (st.headD 0) ∧ b01 (st.tail.headD 0)) ∧ bok f t (opv f st s)
theorem bok_app {f : Nat → Int32} {a b : List Nat} : ∀ {st : List Int32}, bok f (a ++ b) st ↔ bok f a st ∧ bok f b (ev f a st) := by
  induction a with
  | nil => intro st; simp [bok, ev]
  | cons s t ih =>
    intro st
    show (_ ∧ bok f (t ++ b) (opv f st s)) ↔ (_ ∧ bok f t (opv f st s)) ∧ bok f b (ev f t (opv f st s))
    rw [ih, and_assoc]
def Frag (d : Nat) (bl : Bool) (c : List Nat) : Prop := c ≠ [] ∧ (∀ s ∈ c, vop s) ∧ (∀ m h, h + d ≤ m → chk m c h = some (h + 1)) ∧ ∀ f st, bok f c st ∧ ∃ v, ev f c st = v :: st ∧ (bl = true → b01 v) ∧ ((∀ i, i < 9 → bd6 (f i)) → bd6 v)
theorem Frag.mono {d d' : Nat} {bl : Bool} {c : List Nat} (h : Frag d bl c) (hd : d ≤ d') : Frag d' bl c := ⟨h.1, h.2.1, fun m k hk => h.2.2.1 m k (by omega), h.2.2.2⟩
theorem bd_nI {n : Nat} (h : n ≤ 1000000) : bd6 (nI n) := by
  unfold bd6
  rw [nI_toInt (by omega)]; omega
theorem Frag_num {s : Nat} (h : s < 10000) : Frag 1 false [s] := by
  refine ⟨by simp, fun x hx => by simp at hx; subst hx; unfold vop; omega, fun m k hk => ?_, fun f st => ⟨⟨fun q => by omega, trivial⟩, nI s, ?_, fun q => by simp at q, fun _ => bd_nI (by omega)⟩⟩
  · show (hst m s k).bind (chk m []) = _
    rw [hst, if_pos (by omega), if_pos (by omega)]; rfl
  · show opv f st s = _
    rw [opv, if_pos h]
theorem Frag_let {i : Nat} (h : i < 9) : Frag 1 false [10000 + i] := by
  refine ⟨by simp, fun x hx => by simp at hx; subst hx; unfold vop; omega, fun m k hk => ?_, fun f st => ⟨⟨fun q => by omega, trivial⟩, f i, ?_, fun q => by simp at q, fun q => q i h⟩⟩
  · show (hst m (10000 + i) k).bind (chk m []) = _
    rw [hst, if_pos (by omega), if_pos (by omega)]; rfl
  · show opv f st (10000 + i) = _
    rw [opv, if_neg (by omega), if_pos (by omega), show 10000 + i - 10000 = i by omega]
theorem Frag_bin {d1 d2 d : Nat} {b1 b2 b3 : Bool} {a b : List Nat} {s : Nat} (ha : Frag d1 b1 a) (hb : Frag d2 b2 b) (hs : vbn s) (hd1 : d1 ≤ d) (hd2 : d2 + 1 ≤ d) (hd : 2 ≤ d) (h3 : b3 = true → 10104 ≤ s) (h12 : 10107 ≤ s → b1 = true ∧ b2 = true) : Frag d b3 (a ++ (b ++ [s])) := by
  have hs' := hs
  unfold vbn at hs'
  refine ⟨by simp, ?_, fun m k hk => ?_, fun f st => ?_⟩
  · intro x hx
    rcases List.mem_append.mp hx with h | h
    · exact ha.2.1 x h
    · rcases List.mem_append.mp h with h | h
      · exact hb.2.1 x h
      · simp at h; subst h; unfold vop; omega
  · rw [chk_app, ha.2.2.1 m k (by omega), Option.bind_some, chk_app, hb.2.2.1 m (k + 1) (by omega), Option.bind_some]
    show (hst m s (k + 1 + 1)).bind (chk m []) = _
    rw [hst, if_neg (by omega), if_neg (by omega), if_pos (by omega)]; rfl
  · obtain ⟨o1, v1, e1, t1, g1⟩ := ha.2.2.2 f st
    obtain ⟨o2, v2, e2, t2, g2⟩ := hb.2.2.2 f (v1 :: st)
    have e3 : ev f (a ++ (b ++ [s])) st = opB s v1 v2 :: st := by
      rw [ev_app, e1, ev_app, e2]
      show opv f (v2 :: v1 :: st) s = _
      rw [opv, if_neg (by omega), if_neg (by omega), if_neg (by omega)]
      rfl
    refine ⟨?_, _, e3, fun q => (worked_bin hs v1 v2).2.2 (h3 q), fun _ => (worked_bin hs v1 v2).2.1⟩
    rw [bok_app, e1, bok_app, e2]
    refine ⟨o1, o2, fun q => ?_, trivial⟩
    obtain ⟨q1, q2⟩ := h12 (by omega)
    exact ⟨t2 q2, t1 q1⟩
theorem Frag_not {d : Nat} {a : List Nat} (ha : Frag d true a) : Frag d true (a ++ [10109]) := by
  refine ⟨by simp, ?_, fun m k hk => ?_, fun f st => ?_⟩
  · intro x hx
    rcases List.mem_append.mp hx with h | h
    · exact ha.2.1 x h
    · simp at h; subst h; unfold vop; omega
  · rw [chk_app, ha.2.2.1 m k (by omega), Option.bind_some]
    show (hst m 10109 (k + 1)).bind (chk m []) = _
    rw [hst, if_neg (by omega), if_pos rfl, if_pos (by omega)]; rfl
  · obtain ⟨o1, v1, e1, t1, g1⟩ := ha.2.2.2 f st
    have e3 : ev f (a ++ [10109]) st = (nI 1 - v1) :: st := by
      rw [ev_app, e1]
      show opv f (v1 :: st) 10109 = _
      rw [opv, if_neg (by omega), if_neg (by omega), if_pos rfl]
      rfl
    have hb : b01 (nI 1 - v1) := by
      rcases t1 rfl with rfl | rfl
      · exact Or.inr rfl
      · exact Or.inl rfl
    refine ⟨?_, _, e3, fun _ => hb, fun _ => b01_bd hb⟩
    rw [bok_app, e1]
    exact ⟨o1, fun q => by omega, trivial⟩
/-- what a law answers -/
def lawV (f : Nat → Int32) : LawT → Int32
  | [] => 0
  | (c, s) :: t => if c = [] then (ev f s []).headD 0 else if (ev f c []).headD 0 = 0 then lawV f t else (ev f s []).headD 0
def GoodLaw (L : LawT) : Prop := L.length ≤ 60 ∧ ∀ q ∈ L, Frag 30 false q.2 ∧ (q.1 = [] ∨ Frag 30 true q.1)
theorem lawV_bd {f : Nat → Int32} (hf : ∀ i, i < 9 → bd6 (f i)) : ∀ {L : LawT}, (∀ q ∈ L, Frag 30 false q.2 ∧ (q.1 = [] ∨ Frag 30 true q.1)) → bd6 (lawV f L) := by
  intro L
  induction L with
  | nil => intro _; exact b01_bd (Or.inl rfl)
  | cons q t ih =>
    intro h
    obtain ⟨c, s⟩ := q
    have h1 := (h (c, s) List.mem_cons_self).1
    obtain ⟨-, v, e1, -, g⟩ := h1.2.2.2 f []
    have h2 : bd6 ((ev f s []).headD 0) := by rw [e1]; exact g hf
    unfold lawV
    split
    · exact h2
    · split
      · exact ih fun q hq => h q (List.mem_cons_of_mem _ hq)
      · exact h2
theorem opv_congr {f g : Nat → Int32} (h : ∀ i, i < 9 → f i = g i) {s : Nat} (hs : vop s) (st : List Int32) : opv f st s = opv g st s := by
  unfold opv
  split
  · rfl
  · split
    · rw [h (s - 10000) (by unfold vop at hs; omega)]
    · rfl
theorem ev_congr {f g : Nat → Int32} (h : ∀ i, i < 9 → f i = g i) : ∀ {c : List Nat} {st : List Int32}, (∀ s ∈ c, vop s) → ev f c st = ev g c st := by
  intro c
  induction c with
  | nil => intro st _; rfl
  | cons s t ih =>
    intro st hs
    show ev f t (opv f st s) = ev g t (opv g st s)
    rw [opv_congr h (hs s List.mem_cons_self), ih fun x hx => hs x (List.mem_cons_of_mem _ hx)]
theorem lawV_congr {f g : Nat → Int32} (h : ∀ i, i < 9 → f i = g i) : ∀ {L : LawT}, (∀ q ∈ L, Frag 30 false q.2 ∧ (q.1 = [] ∨ Frag 30 true q.1)) → lawV f L = lawV g L := by
  intro L
  induction L with
  | nil => intro _; rfl
  | cons q t ih =>
    intro hq
    obtain ⟨c, s⟩ := q
    have h1 := hq (c, s) List.mem_cons_self
    have e1 : ev f s [] = ev g s [] := ev_congr h h1.1.2.1
    have e2 : ev f c [] = ev g c [] := by
      rcases h1.2 with h2 | h2
      · simp only at h2; subst h2; rfl
      · exact ev_congr h h2.2.1
    unfold lawV
    rw [e1, e2, ih fun q hq2 => hq q (List.mem_cons_of_mem _ hq2)]
/-! stacks in memory: every one at the place that its rest's length names -/
def SC (v : Nat) (μ : Mem) : List Int32 → Prop
  | [] => True
  | x :: t => mI μ v 0 t.length = x ∧ SC v μ t
theorem SC_keep {v : Nat} {μ μ' : Mem} : ∀ {st : List Int32}, SC v μ st → (∀ i, i < st.length → mI μ' v 0 i = mI μ v 0 i) → SC v μ' st := by
  intro st
  induction st with
  | nil => intro _ _; trivial
  | cons x t ih => exact fun h k => ⟨(k _ (by simp)).trans h.1, ih h.2 fun i hi => k i (by simp; omega)⟩
theorem SC_write {v : Nat} {μ : Mem} {st : List Int32} {n : Nat} {x : Int32} (h : SC v μ st) (hn : st.length ≤ n) : SC v (mSI μ v 0 n x) st :=
  SC_keep h fun i hi => by rw [I_SI, if_neg (fun q => by omega)]
theorem SC_other {v u r c : Nat} {μ : Mem} {st : List Int32} {x : Int32} (h : SC v μ st) (hu : v ≠ u) : SC v (mSI μ u r c x) st :=
  SC_keep h fun i hi => by rw [I_SI, if_neg (fun q => hu q.1)]
theorem push_eq {μ : Mem} {n : Nat} {x : Int32} (h : mI μ 503 0 0 = nI n) (hn : n < 64) : Laws_push x μ = some (mSI (mSI μ 502 0 n x) 503 0 0 (nI (n + 1))) := by
  unfold Laws_push
  rw [h, if_pos ((lt_n (by omega) (by decide)).mpr hn), wr_n hn (by decide)]
  simp only [Option.bind_some, I_SI]
  rw [if_neg (fun q => absurd q.1 (by decide)), h, add_n]
theorem pop_eq {μ : Mem} {n : Nat} (h : mI μ 503 0 0 = nI (n + 1)) (hn : n < 64) : Laws_pop μ = some (mI μ 502 0 n, mSI μ 503 0 0 (nI n)) := by
  unfold Laws_pop
  rw [h, if_pos ((gt0_n (by omega)).mpr (by omega)), Option.bind_some, I_SI, if_pos ⟨rfl, rfl, rfl⟩, sub_n (by omega), Nat.add_sub_cancel, rd_n hn (by decide), Option.bind_some, I_SI, if_neg (fun q => absurd q.1 (by decide))]
