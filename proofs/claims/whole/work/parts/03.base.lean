/-! MEMORY: all that both objects hold, by a variable's number, a row, a place -/
abbrev Mem : Type := (Nat → Nat → Nat → Int32) × (Nat → Nat → Nat → Int64)
def mI (μ : Mem) (v r c : Nat) : Int32 := μ.1 v r c
def mL (μ : Mem) (v r c : Nat) : Int64 := μ.2 v r c
def mSI (μ : Mem) (v r c : Nat) (x : Int32) : Mem := (fun a b d => if a = v ∧ b = r ∧ d = c then x else μ.1 a b d, μ.2)
def mSL (μ : Mem) (v r c : Nat) (x : Int64) : Mem := (μ.1, fun a b d => if a = v ∧ b = r ∧ d = c then x else μ.2 a b d)
/-- the first n places of row (v, r) into row (v', r') -/
def mCP (μ : Mem) (v r v' r' n : Nat) : Mem := (fun a b d => if a = v' ∧ b = r' ∧ d < n then μ.1 v r d else μ.1 a b d, μ.2)
def mIn (i : Int32) (n : Nat) : Bool := decide (0 ≤ i.toInt) && decide (i.toInt < n)
theorem mIn_iff {i : Int32} {n : Nat} : mIn i n = true ↔ vp_in i n := by
  rw [vp_in_iff]; simp [mIn]
def mIx (i : Int32) (n : Nat) : Option Nat := if mIn i n = true then some i.toNatClampNeg else none
def mRd (μ : Mem) (v r n : Nat) (i : Int32) : Option Int32 := if mIn i n = true then some (mI μ v r i.toNatClampNeg) else none
def mRl (μ : Mem) (v r n : Nat) (i : Int32) : Option Int64 := if mIn i n = true then some (mL μ v r i.toNatClampNeg) else none
def mWr (μ : Mem) (v r n : Nat) (i x : Int32) : Option Mem := if mIn i n = true then some (mSI μ v r i.toNatClampNeg x) else none
def mWl (μ : Mem) (v r n : Nat) (i : Int32) (x : Int64) : Option Mem := if mIn i n = true then some (mSL μ v r i.toNatClampNeg x) else none
def mWz (μ : Mem) (v r n : Nat) (i x : Int32) : Option Mem := if mIn i n = true ∧ (x = 0 ∨ x = 1) then some (mSI μ v r i.toNatClampNeg x) else none
def mDv (x y : Int32) : Option Int32 := if y = 0 then none else some (x / y)
def mRm (x y : Int32) : Option Int32 := if y = 0 then none else some (x - x / y * y)
def mDl (x y : Int64) : Option Int64 := if y = 0 then none else some (x / y)
def mRz (x : Int32) : Option Int32 := if x = 0 ∨ x = 1 then some x else none
/-- how far a loop may go -/
def FU : Nat := 1000000

/-! LAYOUT: entries (number, rows, kind, length): kind 0 an object, 1 int, 2 boolean, 3 long, 4 rows of int, 5 rows of long -/
abbrev Ent : Type := Nat × Nat × Nat × Nat
abbrev Wld : Type := va_G × (Nat → ClassId) × (Nat → Nat → Nat) × (Nat → Prop)
def wad (w : Wld) (v r : Nat) : Nat := w.2.2.1 v r
def wFld (w : Wld) (μ : Mem) (f : Nat ⊕ Nat) : Value := match f with
  | .inl k => .ref (wad w k 0)
  | .inr v => .int (mI μ v 0 0)
def wFs (w : Wld) (μ : Mem) (fl : List (Nat ⊕ Nat)) : List Value := fl.map (wFld w μ)
def wEn (FL : Nat → List (Nat ⊕ Nat)) (w : Wld) (μ : Mem) (e : Ent) (r : Nat) : va_E := match e.2.2.1 with
  | 0 => .inr (e.1, wFs w μ (FL e.1))
  | 1 => .inl (w.2.1 0, e.2.2.2, .inl (fun i => mI μ e.1 r i))
  | 2 => .inl (w.2.1 1, e.2.2.2, .inl (fun i => mI μ e.1 r i))
  | 3 => .inl (w.2.1 2, e.2.2.2, .inr (.inl (fun i => mL μ e.1 r i)))
  | 4 => .inl (w.2.1 3, e.2.2.2, .inr (.inr (.inr (.inr (fun i => if i < e.2.2.2 then some (wad w (e.1 - 10000) i) else none)))))
  | _ => .inl (w.2.1 4, e.2.2.2, .inr (.inr (.inr (.inr (fun i => if i < e.2.2.2 then some (wad w (e.1 - 10000) i) else none)))))
def wKs (AL : List Ent) : List (Ent × Nat) := AL.flatMap fun e => (List.range e.2.1).map fun r => (e, r)
def wWs (AL : List Ent) (FL : Nat → List (Nat ⊕ Nat)) (w : Wld) (μ : Mem) : va_W := (wKs AL).map fun k => (wad w k.1.1 k.2, wEn FL w μ k.1 k.2)
theorem wKs_mem {AL : List Ent} {e : Ent} {r : Nat} (he : e ∈ AL) (hr : r < e.2.1) : ∃ i : Nat, (wKs AL)[i]? = some (e, r) :=
  List.getElem?_of_mem (List.mem_flatMap.mpr ⟨e, he, List.mem_map.mpr ⟨r, List.mem_range.mpr hr, rfl⟩⟩)
theorem wWs_at {AL : List Ent} {FL : Nat → List (Nat ⊕ Nat)} {w : Wld} {μ : Mem} {i : Nat} {k : Ent × Nat} (h : (wKs AL)[i]? = some k) : (wWs AL FL w μ)[i]? = some (wad w k.1.1 k.2, wEn FL w μ k.1 k.2) := by
  simp [wWs, List.getElem?_map, h]
/-- numbers stand once, so that an entry and a row are at one place -/
def wOne (AL : List Ent) : Prop := ∀ e e' : Ent, e ∈ AL → e' ∈ AL → e.1 = e'.1 → e = e'
/-- apart: the places of wKs have addresses of their own -/
theorem wKs_nodup {AL : List Ent} (h : (AL.map (·.1)).Nodup) : (wKs AL).Nodup := by
  unfold wKs
  induction AL with
  | nil => simp
  | cons e t ih =>
    rw [List.map_cons, List.nodup_cons] at h
    rw [List.flatMap_cons, List.nodup_append]
    refine ⟨?_, ih h.2, ?_⟩
    · exact List.Pairwise.map _ (fun a b hab hq => hab (Prod.mk.inj hq).2) List.nodup_range
    · intro a ha b hb hab
      subst hab
      obtain ⟨r, -, rfl⟩ := List.mem_map.mp ha
      obtain ⟨e', he', hq⟩ := List.mem_flatMap.mp hb
      obtain ⟨r', -, hq⟩ := List.mem_map.mp hq
      have h1 : e' = e := (Prod.mk.inj hq).1
      subst h1
      exact h.1 (List.mem_map.mpr ⟨e', he', rfl⟩)
/-- one place is written: all others stay -/
theorem wWs_set {AL : List Ent} {FL : Nat → List (Nat ⊕ Nat)} {w : Wld} {μ μ' : Mem} {i : Nat} {e : Ent} {r : Nat} {x : va_E} (hn : (AL.map (·.1)).Nodup) (h : (wKs AL)[i]? = some (e, r)) (hx : x = wEn FL w μ' e r)
    (ho : ∀ e' r', e' ∈ AL → r' < e'.2.1 → (e', r') ≠ (e, r) → wEn FL w μ' e' r' = wEn FL w μ e' r') : (wWs AL FL w μ).set i (wad w e.1 r, x) = wWs AL FL w μ' := by
  subst hx
  have hi := (List.getElem?_eq_some_iff.mp h).1
  apply List.ext_getElem?
  intro j
  by_cases hj : j = i
  · subst hj
    rw [List.getElem?_set_self (by simpa [wWs] using hi), wWs_at h]
  · rw [List.getElem?_set_ne (fun q => hj q.symm)]
    cases hk : (wKs AL)[j]? with
    | none => simp [wWs, List.getElem?_map, hk]
    | some k =>
      rw [wWs_at hk, wWs_at hk]
      obtain ⟨e', r'⟩ := k
      have hm : (e', r') ∈ wKs AL := List.mem_of_getElem? hk
      obtain ⟨e2, he2, hq⟩ := List.mem_flatMap.mp hm
      obtain ⟨r2, hr2, hq⟩ := List.mem_map.mp hq
      have h1 : e2 = e' := (Prod.mk.inj hq).1
      subst h1
      have h2 : r2 = r' := (Prod.mk.inj hq).2
      subst h2
      rw [ho e2 r2 he2 (List.mem_range.mp hr2) (fun q => ?_)]
      have hnd := wKs_nodup hn
      have hj' := (List.getElem?_eq_some_iff.mp hk).1
      have e1 : (wKs AL)[j] = (e2, r2) := (List.getElem?_eq_some_iff.mp hk).2
      have e3 : (wKs AL)[i] = (e, r) := (List.getElem?_eq_some_iff.mp h).2
      have hp := List.pairwise_iff_getElem.mp hnd
      rcases Nat.lt_or_gt_of_ne hj with h2 | h2
      · exact hp j i hj' hi h2 (by rw [e1, e3, q])
      · exact hp i j hi hj' h2 (by rw [e1, e3, q])
theorem wFs_congr {w : Wld} {μ μ' : Mem} {fl : List (Nat ⊕ Nat)} (h : ∀ v, .inr v ∈ fl → mI μ' v 0 0 = mI μ v 0 0) : wFs w μ' fl = wFs w μ fl := by
  apply List.map_congr_left
  intro f hf
  cases f with
  | inl k => rfl
  | inr v => simp [wFld, h v hf]

/-! LOCALS by their places: none where nothing is said -/
def lA : Nat → List (Option Value) → List (Nat × Value)
  | _, [] => []
  | i, none :: t => lA (i + 1) t
  | i, some v :: t => (i, v) :: lA (i + 1) t
theorem lA_mem {L : List (Option Value)} : ∀ {i j : Nat} {v : Value}, (j, v) ∈ lA i L ↔ ∃ k, j = i + k ∧ L[k]? = some (some v) := by
  induction L with
  | nil => intro i j v; simp [lA]
  | cons a t ih =>
    intro i j v
    have hs : (∃ k, j = i + k ∧ (a :: t)[k]? = some (some v)) ↔ (j = i ∧ a = some v) ∨ ∃ k, j = (i + 1) + k ∧ t[k]? = some (some v) := by
      constructor
      · rintro ⟨k, rfl, hk⟩
        cases k with
        | zero => exact Or.inl ⟨rfl, by simpa using hk⟩
        | succ k => exact Or.inr ⟨k, by omega, by simpa using hk⟩
      · rintro (⟨rfl, rfl⟩ | ⟨k, rfl, hk⟩)
        · exact ⟨0, rfl, by simp⟩
        · exact ⟨k + 1, by omega, by simpa using hk⟩
    rw [hs]
    cases a with
    | none => simp [lA, ih]
    | some u =>
      simp only [lA, List.mem_cons, Prod.mk.injEq, ih, Option.some.injEq]
      constructor
      · rintro (⟨rfl, rfl⟩ | h)
        · exact Or.inl ⟨rfl, rfl⟩
        · exact Or.inr h
      · rintro (⟨rfl, rfl⟩ | h)
        · exact Or.inl ⟨rfl, rfl⟩
        · exact Or.inr h
def lH (ls : Array Slot) (n : Nat) (L : List (Option Value)) : Prop := lv_has ls n (lA 0 L)
theorem lH.at {ls : Array Slot} {n : Nat} {L : List (Option Value)} (h : lH ls n L) {i : Nat} {v : Value} (hv : L[i]? = some (some v)) : ls[i]? = some (.val v) :=
  h.2.2 (i, v) (lA_mem.mpr ⟨i, by omega, hv⟩)
theorem lH.sub {ls : Array Slot} {n : Nat} {L L' : List (Option Value)} (h : lH ls n L) (hs : ∀ (i : Nat) (v : Value), L'[i]? = some (some v) → L[i]? = some (some v)) : lH ls n L' := by
  refine ⟨h.1, h.2.1, ?_⟩
  rintro ⟨j, v⟩ hq
  obtain ⟨k, rfl, hk⟩ := lA_mem.mp hq
  have := hs k v hk
  exact h.2.2 _ (lA_mem.mpr ⟨k, rfl, this⟩)
/-- what is known less: place by place -/
def lS : List (Option Value) → List (Option Value) → Prop
  | [], _ => True
  | none :: a, _ :: b => lS a b
  | some v :: a, u :: b => u = some v ∧ lS a b
  | _ :: _, [] => False
theorem lS_at {L' : List (Option Value)} : ∀ {L : List (Option Value)}, lS L' L → ∀ (i : Nat) (v : Value), L'[i]? = some (some v) → L[i]? = some (some v) := by
  induction L' with
  | nil => intro L _ i v h; simp at h
  | cons a t ih =>
    intro L h i v hv
    cases L with
    | nil => cases a <;> exact h.elim
    | cons u b =>
      cases a with
      | none =>
        cases i with
        | zero => simp at hv
        | succ i => simpa using ih (L := b) h i v (by simpa using hv)
      | some x =>
        obtain ⟨rfl, h⟩ := h
        cases i with
        | zero => simpa using hv
        | succ i => simpa using ih (L := b) h i v (by simpa using hv)
/-- a store at place i: what is known else stays -/
theorem lA_store {ls' : Array Slot} {n i : Nat} {x : Value} {L L' : List (Option Value)} (h : lv_has ls' n ((i, x) :: (lA 0 L).filter (fun q => !(q.1 == i) && !(q.1 + 1 == i && q.2.category == 2))))
    (hL : ∀ (j : Nat) (v : Value), L'[j]? = some (some v) → (j = i ∧ v = x) ∨ (j ≠ i ∧ ¬ (j + 1 = i ∧ v.category = 2) ∧ L[j]? = some (some v))) : lH ls' n L' := by
  refine ⟨h.1, h.2.1, ?_⟩
  rintro ⟨j, v⟩ hq
  obtain ⟨k, hk, hv⟩ := lA_mem.mp hq
  have hk : j = k := by omega
  subst hk
  rcases hL j v hv with ⟨rfl, rfl⟩ | ⟨h1, h2, h3⟩
  · exact h.2.2 _ List.mem_cons_self
  · refine h.2.2 _ (List.mem_cons_of_mem _ (List.mem_filter.mpr ⟨lA_mem.mpr ⟨j, by omega, h3⟩, ?_⟩))
    simp only [Bool.and_eq_true, Bool.not_eq_true', beq_eq_false_iff_ne, Bool.and_eq_false_iff]
    refine ⟨h1, ?_⟩
    by_cases hj : j + 1 = i
    · exact Or.inr fun q => h2 ⟨hj, by simpa using q⟩
    · exact Or.inl hj
theorem lA_storeL {ls' : Array Slot} {n i : Nat} {x : Value} {L L' : List (Option Value)} (h : lv_has ls' n ((i, x) :: (lA 0 L).filter (fun q => !(q.1 == i) && (!(q.1 == i + 1) && !(q.1 + 1 == i && q.2.category == 2)))))
    (hL : ∀ (j : Nat) (v : Value), L'[j]? = some (some v) → (j = i ∧ v = x) ∨ (j ≠ i ∧ j ≠ i + 1 ∧ ¬ (j + 1 = i ∧ v.category = 2) ∧ L[j]? = some (some v))) : lH ls' n L' := by
  refine ⟨h.1, h.2.1, ?_⟩
  rintro ⟨j, v⟩ hq
  obtain ⟨k, hk, hv⟩ := lA_mem.mp hq
  have hk : j = k := by omega
  subst hk
  rcases hL j v hv with ⟨rfl, rfl⟩ | ⟨h1, h2, h3, h4⟩
  · exact h.2.2 _ List.mem_cons_self
  · refine h.2.2 _ (List.mem_cons_of_mem _ (List.mem_filter.mpr ⟨lA_mem.mpr ⟨j, by omega, h4⟩, ?_⟩))
    simp only [Bool.and_eq_true, Bool.not_eq_true', beq_eq_false_iff_ne, Bool.and_eq_false_iff]
    refine ⟨h1, h2, ?_⟩
    by_cases hj : j + 1 = i
    · exact Or.inr fun q => h3 ⟨hj, by simpa using q⟩
    · exact Or.inl hj
/-- a place ahead of i holds no long -/
def lC (L : List (Option Value)) (i : Nat) : Bool := match i with
  | 0 => true
  | j + 1 => match L[j]? with
    | some (some v) => v.category != 2
    | _ => true
theorem lC_of {L : List (Option Value)} {i j : Nat} {v : Value} (h : lC L i = true) (hj : L[j]? = some (some v)) : ¬ (j + 1 = i ∧ v.category = 2) := by
  rintro ⟨rfl, h2⟩
  simp [lC, hj, h2] at h
theorem lC_set {L : List (Option Value)} {i : Nat} {x : Value} (h : lC L i = true) : ∀ (j : Nat) (v : Value), (L.set i (some x))[j]? = some (some v) → (j = i ∧ v = x) ∨ (j ≠ i ∧ ¬ (j + 1 = i ∧ v.category = 2) ∧ L[j]? = some (some v)) := by
  intro j v hv
  by_cases hj : j = i
  · subst hj
    have hlt : j < L.length := by
      have := (List.getElem?_eq_some_iff.mp hv).1
      simpa using this
    rw [List.getElem?_set_self hlt] at hv
    simp at hv
    exact Or.inl ⟨rfl, hv.symm⟩
  · rw [List.getElem?_set_ne (fun q => hj q.symm)] at hv
    exact Or.inr ⟨hj, lC_of h hv, hv⟩
theorem lC_setL {L : List (Option Value)} {i : Nat} {x : Value} (h : lC L i = true) : ∀ (j : Nat) (v : Value), ((L.set i (some x)).set (i + 1) none)[j]? = some (some v) → (j = i ∧ v = x) ∨ (j ≠ i ∧ j ≠ i + 1 ∧ ¬ (j + 1 = i ∧ v.category = 2) ∧ L[j]? = some (some v)) := by
  intro j v hv
  by_cases hk : j = i + 1
  · subst hk
    have hlt : i + 1 < (L.set i (some x)).length := by
      have := (List.getElem?_eq_some_iff.mp hv).1
      simpa using this
    rw [List.getElem?_set_self hlt] at hv
    simp at hv
  · rw [List.getElem?_set_ne (fun q => hk q.symm)] at hv
    rcases lC_set h j v hv with h1 | ⟨h1, h2, h3⟩
    · exact Or.inl h1
    · exact Or.inr ⟨h1, hk, h2, h3⟩
theorem bdS {α β : Type} {x : Option α} {f : α → Option β} {b : β} (h : x.bind f = some b) : ∃ a, x = some a ∧ f a = some b := Option.bind_eq_some_iff.mp h
