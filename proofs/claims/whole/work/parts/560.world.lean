/-! THE WORLD AT THE LAW'S ENTRY -/
theorem arrOver_of {args : Array Value} {s : State} {t : FieldType} (h : (Cond.arrayOver (.array t)).before args s = true) : ∃ (c : ClassId) (k : Class) (comp : ClassId), s.vm.findClass ("[" ++ (FieldType.array t).toString) = some c ∧ s.vm.classes[c]? = some k ∧ k.kind = .array comp (.array t) := by
  simp only [Cond.before, Cond.holds, Cond.value, beq_iff_eq] at h
  obtain ⟨comp, h1, h⟩ := Option.bind_eq_some_iff.mp h
  obtain ⟨c, h2, h⟩ := Option.bind_eq_some_iff.mp h
  obtain ⟨k, h3, h⟩ := Option.map_eq_some_iff.mp h
  cases hk : k.kind with
  | array cp ty =>
    rw [hk] at h
    simp only [Bool.and_eq_true, decide_eq_true_eq] at h
    exact ⟨c, k, cp, h.2, h3, by rw [hk, h.1]⟩
  | _ => simp [hk] at h
theorem arrT_of {s : State} {ty : FieldType} (h : ∃ (c : ClassId) (k : Class) (comp : ClassId), s.vm.findClass ("[" ++ ty.toString) = some c ∧ s.vm.classes[c]? = some k ∧ k.kind = .array comp ty) (hn : ∀ n, ty ≠ .object n) : ∃ c : ClassId, ArrOfT s c ty ∧ va_RA s c ty := by
  obtain ⟨c, k, comp, h1, h2, h3⟩ := h
  refine ⟨c, fun n z => ⟨fun k h => (by cases h), k, h2, comp, h3⟩, ?_⟩
  cases ty with
  | object n => exact absurd rfl (hn n)
  | _ => exact h1
theorem world_K {args : Array Value} {s : State} (hts : ∀ x ∈ lw_tbl, x.before args s = true) : ∃ (D : va_G) (dC : Nat → ClassId), va_K D vwCl [(dC 0, .int), (dC 1, .boolean), (dC 2, .long), (dC 3, .array .int), (dC 4, .array .long)] s := by
  have hB : ∀ x ∈ BW, x.before args s = true := fun x hx => hts x (List.mem_filter.mp hx).1
  have hc : ∀ j : Nat, ∃ x : ClassId × (Nat → Nat), ∀ q : vw_C, vwCl[j]? = some q → u_Kn s q.1 q.2.1 q.2.2 x.1 x.2 := by
    intro j
    match j with
    | 0 =>
      obtain ⟨c, i, h⟩ := u_known (C := RX0) (T := TX0) (N := 7) (n := 7) hB cf_0.2.1 (hB _ (BW_at 498 (by decide +kernel) rfl))
      exact ⟨(c, i), fun q hq => by cases hq; exact h⟩
    | 1 =>
      obtain ⟨c, i, h⟩ := u_known (C := RX1) (T := TX1) (N := 7) (n := 7) hB cf_1.2.1 (hB _ (BW_at 461 (by decide +kernel) rfl))
      exact ⟨(c, i), fun q hq => by cases hq; exact h⟩
    | 2 =>
      obtain ⟨c, i, h⟩ := u_known (C := RX2) (T := TX2) (N := 7) (n := 7) hB cf_2.2.1 (hB _ (BW_at 429 (by decide +kernel) rfl))
      exact ⟨(c, i), fun q hq => by cases hq; exact h⟩
    | 3 =>
      obtain ⟨c, i, h⟩ := u_known (C := RX3) (T := TX3) (N := 2) (n := 2) hB cf_3.2.1 (hB _ (BW_at 312 (by decide +kernel) rfl))
      exact ⟨(c, i), fun q hq => by cases hq; exact h⟩
    | 4 =>
      obtain ⟨c, i, h⟩ := u_known (C := RX4) (T := TX4) (N := 8) (n := 8) hB cf_4.2.1 (hB _ (BW_at 275 (by decide +kernel) rfl))
      exact ⟨(c, i), fun q hq => by cases hq; exact h⟩
    | 5 =>
      obtain ⟨c, i, h⟩ := u_known (C := RX5) (T := TX5) (N := 15) (n := 15) hB cf_5.2.1 (hB _ (BW_at 530 (by decide +kernel) rfl))
      exact ⟨(c, i), fun q hq => by cases hq; exact h⟩
    | 6 =>
      obtain ⟨c, i, h⟩ := u_known (C := RX6) (T := TX6) (N := 13) (n := 13) hB cf_6.2.1 (hB _ (BW_at 202 (by decide +kernel) rfl))
      exact ⟨(c, i), fun q hq => by cases hq; exact h⟩
    | 7 =>
      obtain ⟨c, i, h⟩ := u_known (C := RX7) (T := TX7) (N := 9) (n := 9) hB cf_7.2.1 (hB _ (BW_at 158 (by decide +kernel) rfl))
      exact ⟨(c, i), fun q hq => by cases hq; exact h⟩
    | 8 =>
      obtain ⟨c, i, h⟩ := u_known (C := RX8) (T := TX8) (N := 19) (n := 19) hB cf_8.2.1 (hB _ (BW_at 325 (by decide +kernel) rfl))
      exact ⟨(c, i), fun q hq => by cases hq; exact h⟩
    | 9 =>
      obtain ⟨c, i, h⟩ := u_known (C := RX9) (T := TX9) (N := 4) (n := 4) hB cf_9.2.1 (hB _ (BW_at 136 (by decide +kernel) rfl))
      exact ⟨(c, i), fun q hq => by cases hq; exact h⟩
    | 10 =>
      obtain ⟨c, i, h⟩ := u_known (C := RX10) (T := TX10) (N := 8) (n := 8) hB cf_10.2.1 (hB _ (BW_at 398 (by decide +kernel) rfl))
      exact ⟨(c, i), fun q hq => by cases hq; exact h⟩
    | 11 =>
      obtain ⟨c, i, h⟩ := u_known (C := RX11) (T := TX11) (N := 11) (n := 11) hB cf_11.2.1 (hB _ (BW_at 128 (by decide +kernel) rfl))
      exact ⟨(c, i), fun q hq => by cases hq; exact h⟩
    | 12 =>
      obtain ⟨c, i, h⟩ := u_known (C := RX12) (T := TX12) (N := 82) (n := 82) hB cf_12.2.1 (hB _ (BW_at 1471 (by decide +kernel) rfl))
      exact ⟨(c, i), fun q hq => by cases hq; exact h⟩
    | k + 13 => exact ⟨((0 : Nat), fun _ => 0), fun q hq => by simp [vwCl] at hq⟩
  obtain ⟨c0, a0⟩ := arrT_of (ty := .int) (Cond.arrayClass_spec (args := args) (hts _ (List.mem_of_getElem? (i := 156) (by decide +kernel)))) (fun n h => by cases h)
  obtain ⟨c1, a1⟩ := arrT_of (ty := .boolean) (Cond.arrayClass_spec (args := args) (hts _ (List.mem_of_getElem? (i := 459) (by decide +kernel)))) (fun n h => by cases h)
  obtain ⟨c2, a2⟩ := arrT_of (ty := .long) (Cond.arrayClass_spec (args := args) (hts _ (List.mem_of_getElem? (i := 496) (by decide +kernel)))) (fun n h => by cases h)
  obtain ⟨c3, a3⟩ := arrT_of (ty := .array .int) (arrOver_of (args := args) (t := .int) (hts _ (List.mem_of_getElem? (i := 164) (by decide +kernel)))) (fun n h => by cases h)
  obtain ⟨c4, a4⟩ := arrT_of (ty := .array .long) (arrOver_of (args := args) (t := .long) (hts _ (List.mem_of_getElem? (i := 468) (by decide +kernel)))) (fun n h => by cases h)
  refine ⟨(fun j => (Classical.choose (hc j)).1, fun j => (Classical.choose (hc j)).2), fun i => if i = 0 then c0 else if i = 1 then c1 else if i = 2 then c2 else if i = 3 then c3 else c4, fun j q hq => Classical.choose_spec (hc j) q hq, fun k q hq => ?_⟩
  match k, hq with
  | 0, hq => cases hq; exact a0
  | 1, hq => cases hq; exact a1
  | 2, hq => cases hq; exact a2
  | 3, hq => cases hq; exact a3
  | 4, hq => cases hq; exact a4
  | n + 5, hq => simp at hq
theorem world_NL {args : Array Value} {s : State} (hts : ∀ x ∈ lw_tbl, x.before args s = true) : ∀ x ∈ NL, va_Nw x s := by
  intro x hx
  obtain ⟨h1, h2⟩ := List.mem_filter.mp hx
  have h := hts x h1
  cases x with
  | fieldLinkNest a b c d e f => exact va_Nw.of rfl h
  | methodLinkNest a b c d => exact va_Nw.of rfl h
  | _ => cases h2
theorem world_aOv {args : Array Value} {s : State} (hts : ∀ x ∈ lw_tbl, x.before args s = true) : aOv s := by
  have h1 := hts (.arrayOver (.array .int)) (List.mem_of_getElem? (i := 164) (by decide +kernel))
  have h2 := hts (.arrayOver (.array .long)) (List.mem_of_getElem? (i := 468) (by decide +kernel))
  unfold aOv
  simp only [Cond.before, Cond.holds, Cond.value] at h1 h2 ⊢
  exact ⟨h1, h2⟩
