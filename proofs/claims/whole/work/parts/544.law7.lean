/-! THE LAW'S CASE 7 -/
def St_7 (s1 s2 : Int32) (μ μ2 : Mem) : Prop := ∃ (o : Option Int32) (r : Int32), B_page s1 s2 μ = some o ∧ M_page s1 s2 (pgM μ o) = some (r, μ2) ∧ M_thrown μ2 = some (pgR o) ∧ ∀ v, o = some v → v = r ∧ mL μ2 1400 0 0 = v.toInt64
theorem step_7 {t : Nat} {κ : Mem} (I : INV t κ) (x y : Int32) : ∃ κ2, St_7 x y κ κ2 ∧ INV (t + 1) κ2 := by
  obtain ⟨S, W, C, R, h9, dg⟩ := I
  obtain ⟨o, r0, κ0, b, -, -, -⟩ := q_page x y W C R
  have F1 : Fr [1400] κ (pgM κ o) := by
    cases o with
    | none => exact Fr.refl
    | some v => exact fr_sl (by simp) Fr.refl
  obtain ⟨o', r, κ2, b', m, rr, h⟩ := q_page x y W C (R.fr F1 (by decide))
  have e : o = o' := Option.some.inj (b.symm.trans b')
  subst e
  have F2 := M_page_fr m
  refine ⟨κ2, ⟨o, r, b, m, ?_, ?_⟩, S, W, (C.fr F1 (by decide)).fr F2 (by decide), rr, by omega, fun p h1 h2 => by rw [F2.i 301 (by decide), F1.i 301 (by decide)]; exact dg p h1 h2⟩
  · rcases h with ⟨rfl, h⟩ | ⟨rfl, h⟩
    · exact congrArg some h
    · exact congrArg some h
  · rintro v rfl
    rcases h with ⟨q, -⟩ | ⟨q, -⟩
    · cases q
    · cases q
      refine ⟨rfl, ?_⟩
      rw [F2.l 1400 (by decide)]
      show mL (mSL κ 1400 0 0 r.toInt64) 1400 0 0 = r.toInt64
      rw [L_SL, if_pos ⟨rfl, rfl, rfl⟩]
theorem lkL_57 : LkV "PotBookLaw" 57 yX12_page cX12_page 3 (some .int) 2 12 := ⟨⟨Or.inl (BW_at 1869 (by decide +kernel) rfl), (BW_at 1872 (by decide +kernel) rfl), (BW_at 119 (by decide +kernel) rfl), by decide +kernel, by decide⟩, (BW_at 1870 (by decide +kernel) rfl), (BW_at 1871 (by decide +kernel) rfl), TX12, 82, cf_12⟩
theorem lkL_58 : LkV "PotBookLaw" 58 yX12_thrown cX12_thrown 1 (some .int) 0 12 := ⟨⟨Or.inl (BW_at 1723 (by decide +kernel) rfl), (BW_at 1726 (by decide +kernel) rfl), (BW_at 119 (by decide +kernel) rfl), by decide +kernel, by decide⟩, (BW_at 1724 (by decide +kernel) rfl), (BW_at 1725 (by decide +kernel) rfl), TX12, 82, cf_12⟩
theorem mRl_1400 {μ : Mem} : (mRl μ 1400 0 1 (nI 0)).bind some = some (mL μ 1400 0 0) := rfl
section Law7
variable {p : Program} {l : Launch} {e : Env} {R : Room} {s : State} {m : MethodId} {args : Array Value} {below : List Frame} {meth : Method} {c : Code} {w : Wld} {Q : State → Prop} {μ : Mem} {kc ns : Nat} {L : List (Option Value)}
theorem Cxt.room {cc : ByteArray} {nL lev : Nat} {own : String} (G : Cxt p R s m args meth c w cc nL own lev kc ns) {k n : Nat} (h : k ≤ R.cells ∧ n ≤ R.slots) : Cxt p R s m args meth c w cc nL own lev k n := ⟨G.1, G.2.1, G.2.2.1, G.2.2.2.1, G.2.2.2.2.1, G.2.2.2.2.2.1, G.2.2.2.2.2.2.1, G.2.2.2.2.2.2.2.1, G.2.2.2.2.2.2.2.2.1, h⟩
theorem V_pgCall (hl0 : l.stackTraces = false) (G : Cxt p R s m args meth c w code 7 "PotBookLaw" 200 kc ns) (hZ : xZ w.2.2.2 s s.heap) (hR : xR s) {x y : Int32} {o : Option Int32} (h : B_page x y μ = some o) (hcs : kc + 1 ≤ R.cells ∧ ns + 6 ≤ R.slots)
    (k : Vj p l e R s m args below meth c w 7 (kc + 1) (ns + 6) Q 626 L [.int (pgR o)] (pgM μ o)) : Vj p l e R s m args below meth c w 7 kc ns Q 623 L [.ref (wad w 1400 0), .int y, .int x, .ref (wad w 11 0)] μ := by
  intro H locs ls hP hS hl
  have hts := G.2.2.2.2.1
  have hT : GoodIn BW (va_wsS "PotBookLaw" 52 yL_page (Cond.codeWith yL_page cL_page 5 (some .int) [(0, 10, 13, 13)] :: BW)) := BW_in fun z hz => by
    simp only [va_wsS, List.cons_append, List.nil_append, List.mem_cons] at hz
    rcases hz with rfl | rfl | rfl | rfl | hz
    · exact BW_at 1396 (by decide +kernel) rfl
    · exact BW_at 1397 (by decide +kernel) rfl
    · exact BW_at 106 (by decide +kernel) rfl
    · exact BW_at 1398 (by decide +kernel) rfl
    · exact hz
  have hRR : (rmC 10 1 6).frames + 1 ≤ R.frames ∧ 8 + (5 + 11) + (rmC 10 1 6).locals ≤ R.locals := by
    have h1 := G.2.2.2.2.2.2.1
    have h2 := G.2.2.2.2.2.2.2.1
    show 10 + 1 ≤ R.frames ∧ 8 + (5 + 11) + 40 * 10 ≤ R.locals
    constructor <;> omega
  have hp : PreS s H (va_Pc [.ref (wad w 11 0), .int x, .int y, .ref (wad w 1400 0)] (xIs w μ)) [.ref (wad w 11 0), .int x, .int y, .ref (wad w 1400 0)] := ⟨xPc_blind, fun U hU hW => ⟨rfl, xIs_at hP hS G.2.2.2.2.2.1 hZ hR hU hW⟩⟩
  exact va_calli (vx_runSW (As := [.ref (wad w 11 0), .int x, .int y, .ref (wad w 1400 0)]) (rest := []) ⟨G.1, G.2.1, G.2.2.1, G.2.2.2.1, hts⟩ (L_page_x hl0 h) (vx_cwSW 4 hts hT rfl rfl rfl (by decide +kernel) hRR) hp rfl rfl hl.1 rfl (Nat.le_of_ble_eq_true rfl) eL_law_623.1 hcs) hS (fun _ _ h => h) (fun _ h => h) (fun r1 u t H1 locs1 ht hvm hw hB hz1 hk1 hS1 => by
    subst hw
    exact k H1 locs1 ls (by rw [← ht]; exact hB) hS1 hl)
end Law7
set_option maxRecDepth 100000 in
set_option maxHeartbeats 4000000 in
theorem law_7 {p : Program} {l : Launch} (hl0 : l.stackTraces = false) {e : Env} {R : Room} {s : State} {m : MethodId} {args : Array Value} {below : List Frame} {meth : Method} {c : Code} {w : Wld} {Q : State → Prop} {kc ns : Nat} (G : Cxt p R s m args meth c w code 7 "PotBookLaw" 200 kc ns) {b N i : Nat} {xs : Nat → Int32} (hX : va_X b N xs s s.heap) (hbl : b < s.heap.size) (hbA : ¬ w.2.2.2 b) (hi : i + 7 ≤ N) (hN : N ≤ 3584) (hZ : xZ w.2.2.2 s s.heap) (hR : xR s) (hcs : kc + 1 ≤ R.cells ∧ ns + 6 ≤ R.slots) {μ μ2 : Mem} (h : St_7 (xs (i + 1)) (xs (i + 2)) μ μ2) (k : Vj p l e R s m args below meth c w 7 (kc + 1) (ns + 6) Q 2568 [some (.ref b), some (.ref (wad w 11 0)), some (.ref (wad w 12 0)), some (.ref (wad w 1400 0)), some (.int (nI i)), none, none] [] μ2) : Vj p l e R s m args below meth c w 7 kc ns Q 609 [some (.ref b), some (.ref (wad w 11 0)), some (.ref (wad w 12 0)), some (.ref (wad w 1400 0)), some (.int (nI i)), none, none] [] μ := by
  obtain ⟨o, r, h1, h2, h3, h4⟩ := h
  have G' := G.room hcs
  refine V_aload_n (i := 1) G eL_law_609 rfl rfl ?_
  refine V_aload_n (i := 0) G eL_law_610 rfl rfl ?_
  refine V_iload G eL_law_611 rfl ?_
  refine V_iconst (n := 1) (v := (nI 1)) G eL_law_613 rfl ?_
  refine V_iadd G eL_law_614 ?_
  refine V_scr (i := i + 1) G hX hbl hbA (nI_add i 1) (by omega) hN eL_law_615 ?_
  refine V_aload_n (i := 0) G eL_law_616 rfl rfl ?_
  refine V_iload G eL_law_617 rfl ?_
  refine V_iconst (n := 2) (v := (nI 2)) G eL_law_619 rfl ?_
  refine V_iadd G eL_law_620 ?_
  refine V_scr (i := i + 2) G hX hbl hbA (nI_add i 2) (by omega) hN eL_law_621 ?_
  refine V_aload_n (i := 3) G eL_law_622 rfl rfl ?_
  refine V_pgCall hl0 G hZ hR h1 hcs ?_
  refine V_istoreA (i := 5) (L' := [some (.ref b), some (.ref (wad w 11 0)), some (.ref (wad w 12 0)), some (.ref (wad w 1400 0)), some (.int (nI i)), some (.int (pgR o)), none]) G' eL_law_626 (by decide) rfl rfl ?_
  refine V_aload_n (i := 2) G' eL_law_628 rfl rfl ?_
  refine V_aload_n (i := 0) G' eL_law_629 rfl rfl ?_
  refine V_iload G' eL_law_630 rfl ?_
  refine V_iconst (n := 1) (v := (nI 1)) G' eL_law_632 rfl ?_
  refine V_iadd G' eL_law_633 ?_
  refine V_scr (i := i + 1) G' hX hbl hbA (nI_add i 1) (by omega) hN eL_law_634 ?_
  refine V_aload_n (i := 0) G' eL_law_635 rfl rfl ?_
  refine V_iload G' eL_law_636 rfl ?_
  refine V_iconst (n := 2) (v := (nI 2)) G' eL_law_638 rfl ?_
  refine V_iadd G' eL_law_639 ?_
  refine V_scr (i := i + 2) G' hX hbl hbA (nI_add i 2) (by omega) hN eL_law_640 ?_
  refine V_callI (As := [.int (xs (i + 1)), .int (xs (i + 2))]) (st := []) G' lkL_57 (M_page_ok h2) (by decide) rfl rfl (Nat.le_of_ble_eq_true rfl) eL_law_641 ?_
  refine V_istoreA (i := 6) (L' := [some (.ref b), some (.ref (wad w 11 0)), some (.ref (wad w 12 0)), some (.ref (wad w 1400 0)), some (.int (nI i)), some (.int (pgR o)), some (.int r)]) G' eL_law_644 (by decide) rfl rfl ?_
  refine V_aload_n (i := 2) G' eL_law_646 rfl rfl ?_
  refine V_callI (As := []) (st := []) G' lkL_58 (M_thrown_ok h3) (by decide) rfl rfl (Nat.le_of_ble_eq_true rfl) eL_law_647 ?_
  refine V_iload G' eL_law_650 rfl ?_
  refine V_eqqT G' eL_law_652 rfl ?_
  refine V_iload G' eL_law_657 rfl ?_
  have k2 : Vj p l e R s m args below meth c w 7 (kc + 1) (ns + 6) Q 674 [some (.ref b), some (.ref (wad w 11 0)), some (.ref (wad w 12 0)), some (.ref (wad w 1400 0)), some (.int (nI i)), some (.int (pgR o)), some (.int r)] [] μ2 := by
    refine V_goto G' eL_law_674 ?_
    exact V_sub (by simp [lS]) k
  cases o with
  | none => exact V_if_ne (a := some ()) (b := none) (o := ()) G' eL_law_659 (if_neg (by decide)) (fun _ => k2) (fun q => nomatch q)
  | some v =>
    obtain ⟨rfl, h5⟩ := h4 v rfl
    refine V_if_ne (a := none) (b := some ()) (o := ()) G' eL_law_659 (if_pos rfl) (fun q => nomatch q) (fun _ => ?_)
    refine V_aload_n (i := 3) G' eL_law_662 rfl rfl ?_
    refine V_iconst (n := 0) (v := (nI 0)) G' eL_law_663 rfl ?_
    refine V_lald G' al_1400 (by decide) eL_law_664 mRl_1400 (fun x hx => ?_)
    cases hx
    refine V_iload G' eL_law_665 rfl ?_
    refine V_i2l G' eL_law_667 ?_
    refine V_lcmp G' eL_law_668 ?_
    exact V_eqT G' eL_law_669 (by simp only [lg_cmp_eq]; exact h5) k2
