section RowsC4
variable {p : Program} {l : Launch} {e : Env} {R : Room} {s : State} {m : MethodId} {args : Array Value} {below : List Frame} {meth : Method} {c : Code} {cc : ByteArray} {nL : Nat} {own : String} {lev : Nat} {Q : State → Prop} {pc pc' tgt kc ns : Nat} {L : List (Option Value)} {st st0 : List Value} {w : Wld} {o j : Nat} {fs : List Value} {X : va_W} {A : Nat → Prop} {ds : List va_E}
theorem outerC_eq (c : ClassId) (N h0 : Nat) : ∀ i : Nat, Jvm.Free.Multi.outerC c N h0 i = arrV c N (fun j => va_rf (if j < i then some (h0 + 1 + j) else none))
  | 0 => by
    show ({ cls := c, slots := Array.replicate N .null, vm := .none } : Cell) = _
    rw [arrV_new]
    refine congrArg (arrV c N) (funext fun j => ?_)
    simp [va_rf]
  | i + 1 => by
    show (Jvm.Free.Multi.outerC c N h0 i).setSlot i (.ref (h0 + 1 + i)) = _
    rw [outerC_eq c N h0 i, arrV_store]
    refine congrArg (arrV c N) (funext fun j => ?_)
    by_cases e : j = i
    · subst e
      simp [updV, va_rf]
    · by_cases h : j < i
      · simp [updV, e, h, Nat.lt_succ_of_lt h]
      · simp [updV, e, h, show ¬ j < i + 1 by omega]
theorem C_mna (G : Cxg p R s m args meth c cc nL own kc ns) (K : cKn w s) {ty : FieldType} {idx i i' : Nat} {n k : Int32} {N M : Nat} {z : vp_A} (hi : (wTy w)[i]? = some (w.2.1 i, ty)) (hi' : (wTy w)[i']? = some (w.2.1 i', .array ty)) (hcl : Cond.classLink own idx ("[" ++ (FieldType.array ty).toString) ∈ BW) (hov : (Cond.arrayOver (.array ty)).before #[] s = true) (har : Cond.arrayClass ty ∈ BW)
    (hra : ∀ cA, va_RA s cA ty → s.vm.findClass (FieldType.array ty).toString = some cA) (hra' : ∀ cA, va_RA s cA (.array ty) → s.vm.findClass ("[" ++ (FieldType.array ty).toString) = some cA)
    (hn : ¬ n < 0) (hk : ¬ k < 0) (hN : n.toNatClampNeg = N) (hM : k.toNatClampNeg = M) (hb1 : N * 4 ≤ 536870912) (hb2 : M * componentBytes ty ≤ 536870912) (hb3 : M ≤ 536870912) (hdf : fits ty (defaultValue ty) = true) (hdd : (defaultValue ty).isDefault = true)
    (hz : ∀ cA, Jvm.Free.Multi.innerC cA M (defaultValue ty) = vp_cell cA z) (hc : kc + (1 + N) ≤ R.cells) (hs : ns + (N + N * M) ≤ R.slots) (d : decode cc pc = .ok (.multianewarray idx 2, 4))
    (kk : VG p l e R s m args below meth c nL (kc + 1 + N) (ns + N + N * M) Q (cPr w s X A (ds ++ (eOut w i' N (s.heap.size + ds.length) :: List.replicate N (.inl (w.2.1 i, z))))) (pc + 4) L (.ref (s.heap.size + ds.length) :: st)) : VG p l e R s m args below meth c nL kc ns Q (cPr w s X A ds) pc L (.int k :: .int n :: st) := by
  subst hN
  subst hM
  intro H locs ls hP hl T hT Xs
  have hb := G.2.1
  have hts := G.2.2.2.2.1
  obtain ⟨vm₁, cA, comp, -, fA, fC, hO, -, X', step⟩ := Xs.multianewarray2F G.1 G.2.2.2.1 (hts _ hcl) hov (hts _ har) (g := F0 m pc ls (.int k :: .int n :: st)) rfl (by rw [hb]; exact d) rfl hn hk hb1 hb2 hb3 hdf hdd hc hs
  have e1 : comp = w.2.1 i := Option.some.inj (fC.symm.trans (hra _ (K.1.2 i _ hi).2))
  have e2 : cA = w.2.1 i' := Option.some.inj (fA.symm.trans (hra' _ (K.1.2 i' _ hi').2))
  subst e1; subst e2
  have hTh : (T.setVm vm₁).heap = H := hT
  obtain ⟨f1, f2, -, -⟩ := Jvm.Free.Multi.fill_facts (T.setVm vm₁) (w.2.1 i') (w.2.1 i) n.toNatClampNeg k.toNatClampNeg (defaultValue ty) n.toNatClampNeg
  have hold : ∀ x : Nat, x < H.size → (Jvm.Free.Multi.fill (T.setVm vm₁) (w.2.1 i') (w.2.1 i) n.toNatClampNeg k.toNatClampNeg (defaultValue ty) n.toNatClampNeg).heap[x]? = H[x]? := fun x hx => by
    have := Jvm.Free.Multi.fill_old (T.setVm vm₁) (w.2.1 i') (w.2.1 i) n.toNatClampNeg k.toNatClampNeg (defaultValue ty) (a := x) (by rw [hTh]; exact hx) n.toNatClampNeg
    rw [hTh] at this
    exact this
  have hrow : ∀ q : Nat, q < n.toNatClampNeg → (Jvm.Free.Multi.fill (T.setVm vm₁) (w.2.1 i') (w.2.1 i) n.toNatClampNeg k.toNatClampNeg (defaultValue ty) n.toNatClampNeg).heap[H.size + 1 + q]? = some (vp_cell (w.2.1 i) z) := fun q hq => by
    have := Jvm.Free.Multi.fill_inner (T.setVm vm₁) (w.2.1 i') (w.2.1 i) n.toNatClampNeg k.toNatClampNeg (defaultValue ty) n.toNatClampNeg q hq
    rw [hTh, hz] at this
    exact this
  rw [hTh] at f1 f2
  have hsz : T.heap.size = s.heap.size + ds.length := by rw [hT]; exact hP.2.1
  have key : cPr w s X A (ds ++ (eOut w i' n.toNatClampNeg (s.heap.size + ds.length) :: List.replicate n.toNatClampNeg (.inl (w.2.1 i, z)))) (Jvm.Free.Multi.fill (T.setVm vm₁) (w.2.1 i') (w.2.1 i) n.toNatClampNeg k.toNatClampNeg (defaultValue ty) n.toNatClampNeg).heap locs := by
    refine cPr_grow hP (by rw [f1]; simp; omega) hold ?_
    intro q x hx
    obtain ⟨h1, h2⟩ := dW_of hx
    obtain ⟨a, ee⟩ := x
    simp only at h1 h2
    subst h1
    cases q with
    | zero =>
      simp at h2
      subst h2
      show _ = some (vp_cell _ _)
      rw [Nat.add_zero, f2, outerC_eq, ← hP.2.1]
      rfl
    | succ q =>
      rw [List.getElem?_cons_succ, List.getElem?_replicate] at h2
      split at h2
      · rename_i hq
        cases h2
        show _ = some (vp_cell _ _)
        rw [show H.size + (q + 1) = H.size + 1 + q by omega]
        exact hrow q hq
      · cases h2
  obtain ⟨t, a1, b1⟩ := kk _ locs ls key hl _ rfl X'
  refine ⟨t, step t ?_, b1⟩
  rw [hsz]
  exact a1
end RowsC4
theorem inner_i {cA : ClassId} {M : Nat} : Jvm.Free.Multi.innerC cA M (defaultValue .int) = vp_cell cA (M, .inl (fun _ => 0)) := by
  show ({ cls := cA, slots := Array.replicate M (.int 0), vm := .none } : Cell) = _
  rw [arrV_new]
  rfl
theorem inner_l {cA : ClassId} {M : Nat} : Jvm.Free.Multi.innerC cA M (defaultValue .long) = vp_cell cA (M, .inr (.inl (fun _ => 0))) := by
  show ({ cls := cA, slots := Array.replicate M (.long 0), vm := .none } : Cell) = _
  rw [arrV_new]
  rfl
