/-! PAGE: the class's page returns or throws; the law's page catches -/
theorem fgX11_164 : FG "PotBook" 164 6 6 := ⟨RX6, TX6, 13, cf_6, by decide, Or.inr ⟨_, NL_at (x := Cond.fieldLinkNest "PotBook" 164 "PotBook$Pages" "bits" "[I" "PotBook") 231 (by decide +kernel) rfl⟩⟩
theorem fgX11_168 : FG "PotBook" 168 6 9 := ⟨RX6, TX6, 13, cf_6, by decide, Or.inr ⟨_, NL_at (x := Cond.fieldLinkNest "PotBook" 168 "PotBook$Pages" "actsLong" "[I" "PotBook") 238 (by decide +kernel) rfl⟩⟩
theorem fgX11_171 : FG "PotBook" 171 6 7 := ⟨RX6, TX6, 13, cf_6, by decide, Or.inr ⟨_, NL_at (x := Cond.fieldLinkNest "PotBook" 171 "PotBook$Pages" "left" "[I" "PotBook") 233 (by decide +kernel) rfl⟩⟩
def xZ (A : Nat → Prop) (U : State) (H : Heap) : Prop := vx_Zq Bundle.tN "UNASSIGNED_STACK" Bundle.steD A U H ∧ vx_Zq Bundle.tN "SUPPRESSED_SENTINEL" Bundle.listD A U H
def nB : List Cond := [.declares (Bundle.initS "java/lang/RuntimeException"), .declares (Bundle.initS "java/lang/Exception"), .declares (Bundle.initS "java/lang/Throwable"), .castable NSE NSE]
theorem nAt_tbl : ∀ x ∈ nAt.filter goodWord, x ∈ lw_tbl := by decide +kernel
theorem nAt_in : ∀ x ∈ nAt.filter goodWord, x ∈ BW := fun x h => List.mem_filter.mpr ⟨nAt_tbl x h, (List.mem_filter.mp h).2⟩
theorem nAt_bad : ∀ x ∈ nAt.filter (fun w => !goodWord w), x ∈ nB := by decide +kernel
theorem nAt_ot : ∀ w ∈ Cond.classLink "PotBook" 157 NSE :: Cond.initialized NSE :: nAt, vx_ot w = true := by decide +kernel
/-- what the throw needs of the tables beyond the good words -/
def xD (U : State) : Prop := va_Nw (.declares (Bundle.initS "java/lang/RuntimeException")) U ∧ va_Nw (.declares (Bundle.initS "java/lang/Exception")) U ∧ va_Nw (.declares (Bundle.initS "java/lang/Throwable")) U ∧ va_Nw (.castable NSE NSE) U
theorem xD.same {u U : State} (hv : u.vm = U.vm) (h : xD u) : xD U := ⟨va_Nw.same rfl hv h.1, va_Nw.same rfl hv h.2.1, va_Nw.same rfl hv h.2.2.1, va_Nw.same rfl hv h.2.2.2⟩
theorem xD.warm {s U : State} (hW : s.WarmedH U.vm) (h : xD s) : xD U := ⟨va_Nw.warmD hW h.1, va_Nw.warmD hW h.2.1, va_Nw.warmD hW h.2.2.1, va_Nw.warmC hW h.2.2.2⟩
def xR (U : State) : Prop := (∃ sa : Nat, vk_R "PotBook" 159 xTx sa U) ∧ xD U
def xIs (w : Wld) (μ : Mem) (U : State) : Prop := wIs w μ U ∧ xZ w.2.2.2 U U.heap ∧ xR U
theorem xIs.calling {w : Wld} {μ : Mem} {U : State} (g : JFrame) (mk : MethodId) (a : Array Value) (h : xIs w μ U) : xIs w μ (U.calling g mk a) := by
  obtain ⟨h1, ⟨h2, h3⟩, ⟨sa, h4⟩, h5⟩ := h
  exact ⟨h1.calling g mk a, ⟨vx_Zq.moved (u := U) (U := U.calling g mk a) (Vm.Alike.refl U.vm) h2, vx_Zq.moved (u := U) (U := U.calling g mk a) (Vm.Alike.refl U.vm) h3⟩, ⟨sa, vk_R.same (u := U) (U := U.calling g mk a) rfl h4⟩, xD.same (u := U) (U := U.calling g mk a) rfl h5⟩
theorem xPc_blind {as : List Value} {w : Wld} {μ : Mem} : FrameBlind (va_Pc as (xIs w μ)) := fun a U g mk h => ⟨h.1, h.2.calling g mk a⟩
theorem xIs_at {w : Wld} {μ : Mem} {s U : State} {H : Heap} {locs : List Loc} (hP : va_P w.1 vwCl (wsM w μ) H) (hS : va_S w.2.2.2 s.heap H locs) (hK : wKn w s) (hZ : xZ w.2.2.2 s s.heap) (hR : xR s) (hU : U.heap = H) (hW : s.WarmedH U.vm) : xIs w μ U := by
  obtain ⟨⟨sa, h4⟩, h5⟩ := hR
  refine ⟨⟨by rw [hU]; exact hP, hK.warm hW⟩, ⟨?_, ?_⟩, ⟨sa, vk_R.warm hW h4⟩, h5.warm hW⟩
  · rw [hU]; exact vx_Zq.moved hW.alike (hZ.1.kept hS.2.1)
  · rw [hU]; exact vx_Zq.moved hW.alike (hZ.2.kept hS.2.1)
abbrev xQc (w : Wld) (o : Option Int32) (μ : Mem) : Array Value → State → Outcome → State → Prop := va_Qi (fun r (_ : Unit) => o = some r) (fun _ t => wHp w μ t) w.2.2.2
abbrev xXC (w : Wld) (o : Option Int32) (μ : Mem) : String → State → State → Prop := vx_X (fun (_ : Unit) => o = none) (fun E _ t => E = NSE ∧ wHp w μ t) w.2.2.2
section PageX
variable {p : Program} {l : Launch} {e : Env} {R : Room} {s : State} {m : MethodId} {args : Array Value} {below : List Frame} {meth : Method} {c : Code} {w : Wld} {cc : ByteArray} {nL : Nat} {own : String} {lev : Nat} {Q : State → Prop} {pc pc' : Nat} {L : List (Option Value)} {μ : Mem}
theorem V_wide {kc ns k n : Nat} {st : List Value} (h1 : kc ≤ k) (h2 : ns ≤ n) (kk : Vj p l e R s m args below meth c w nL k n Q pc L st μ) : Vj p l e R s m args below meth c w nL kc ns Q pc L st μ :=
  fun H locs ls hP hS hl T hT X => kk H locs ls hP hS hl T hT (stand_widen X h1 h2)
theorem X_iret (G : Cxt p R s m args meth c w cc nL own lev 0 0) (hr : meth.sig.returnType = some .int) {x : Int32} {o : Option Int32} (h : o = some x) (d : D1 cc pc .ireturn pc') : Vj p l e R s m args below meth c w nL 0 0 (vx_MQ below (xQc w o μ) (xXC w o μ) args s 1 6 w.2.2.2) pc L [.int x] μ := by
  obtain ⟨d1, rfl⟩ := d
  refine V_wide (k := 1) (n := 6) (by decide) (by decide) ?_
  exact fun H locs ls hP hS hl => vx_ret (W.iret G.1 G.2.1 hr (fun t ht _ => ⟨⟨x, (), rfl, h, by show va_P w.1 vwCl (wsM w μ) t.heap; rw [ht]; exact hP⟩, by rw [va_F, ht]; exact ⟨hS.1, hS.2.1⟩⟩) hS.2.2 d1 G.2.2.2.2.2.2.2.2.1)
theorem X_throw (hl0 : l.stackTraces = false) (G : Cxt p R s m args meth c w cX11_page 3 "PotBook" lev 0 0) (hlv : 6 ≤ lev) (hZ : xZ w.2.2.2 s s.heap) (hR : xR s) (ht : ∀ x ∈ c.exceptionTable.toList, False) (hcs : 1 ≤ R.cells ∧ 6 ≤ R.slots) {o : Option Int32} (h : o = none) : Vj p l e R s m args below meth c w 3 0 0 (vx_MQ below (xQc w o μ) (xXC w o μ) args s 1 6 w.2.2.2) 20 L [] μ := by
  intro H locs ls hP hS hl
  obtain ⟨⟨sa, hsa⟩, hD⟩ := hR
  have hts := G.2.2.2.2.1
  have hR1 := G.2.2.2.2.2.2.1
  have hR2 := G.2.2.2.2.2.2.2.1
  have hat : ∀ x ∈ nAt, x.before args s = true := vx_hat (fun x hx => hts x (nAt_in x hx)) nAt_bad (vx_c (va_Nw.use rfl hD.1) (vx_c (va_Nw.use rfl hD.2.1) (vx_c (va_Nw.use rfl hD.2.2.1) (vx_c (va_Nw.use rfl hD.2.2.2) vx_n))))
  refine xn_make (sa := sa) (A := w.2.2.2) G.1 G.2.1 hl0 G.2.2.2.1 (hts _ (BW_at 1404 (by decide +kernel) rfl)) (hts _ (BW_at 125 (by decide +kernel) rfl)) hsa hat nAt_ot hZ.1 hZ.2 hS (hl.1.trans G.2.2.1.symm)
    eX11_page_20.1 eX11_page_23.1 eX11_page_24.1 eX11_page_26.1 (by omega) (by show 0 + 82 ≤ R.locals; omega) (by omega) (by omega) (fun q H1 ce hz hk hce hcv hcl hS1 => ?_)
  exact vx_athrow G.1 G.2.1 eX11_page_29.1 (vx_out (fun x hx => (ht x hx).elim) G.2.2.2.2.2.2.2.2.1 hce hcv hcl (fun t ht hvm => ⟨(), h, ⟨rfl, by
      show va_P w.1 vwCl (wsM w μ) t.heap
      rw [ht]
      exact fun k q hq => (hP k q hq).kept (hk _ (hP k q hq).lt)⟩, by rw [va_F, ht]; exact ⟨hS1.1, hS1.2.1⟩⟩) hS1.2.2 (by omega) (by omega))
end PageX
set_option maxHeartbeats 4000000 in
theorem X11_page_x {l : Launch} (hl0 : l.stackTraces = false) {w : Wld} {μ : Mem} {x y : Int32} {o : Option Int32} (h : B_page x y μ = some o) : vx_Met l yX11_page (Cond.code yX11_page cX11_page 3 (some .int) :: BW) (rmC 8 1 6) (va_Pc [.ref (wad w 11 0), .int x, .int y] (xIs w μ)) (xQc w o μ) (xXC w o μ) 1 6 w.2.2.2 := by
  refine vx_ofW (cc := cX11_page) (maxL := 3) (ret := some .int) (by decide +kernel) rfl ?_
  intro p e s m args below meth c s₁ B hml htab hv
  obtain ⟨rfl, ⟨hP, hK⟩, hZ, hR⟩ := hv
  have hts := atoms_spec (ws := Cond.code yX11_page cX11_page 3 (some .int) :: BW) B.pre
  have hl := lv_entry [Value.ref (wad w 11 0), .int x, .int y] (n := 3) (Nat.le_of_ble_eq_true rfl)
  have G : Cxt p (rmC 8 1 6) s m [Value.ref (wad w 11 0), .int x, .int y].toArray meth c w cX11_page 3 "PotBook" 8 0 0 := ⟨B.exec, B.bytes, hml, findClass_of_methodNamed B.named, fun x hx => hts x (List.mem_cons_of_mem _ hx), hK, Nat.le_refl _, Nat.le_refl _, B.notSynchronized, Nat.zero_le _, Nat.zero_le _⟩
  have hr := B.returns
  rw [lg_entry_eq]
  have K : Vj p l e (rmC 8 1 6) s m [Value.ref (wad w 11 0), .int x, .int y].toArray below meth c w 3 0 0 (vx_MQ below (xQc w o μ) (xXC w o μ) [Value.ref (wad w 11 0), .int x, .int y].toArray s 1 6 w.2.2.2) 0 [some (.ref (wad w 11 0)), some (.int x), some (.int y)] [] μ := by
    unfold B_page at h
    refine V_aload_n (i := 0) G eX11_page_0 rfl rfl ?_
    refine V_get (v := .ref (wad w 6 0)) G fgX11_28 rfl eX11_page_1 ?_
    refine V_iload_n (i := 1) G eX11_page_4 rfl rfl ?_
    obtain ⟨x1, h1, h⟩ := bdS h
    refine V_callI (As := [.int x]) (st := []) G lkX11_156 (Pages_has_ok h1) (by decide) rfl rfl (Nat.le_of_ble_eq_true rfl) eX11_page_5 ?_
    refine V_if_eq G eX11_page_8 h (fun h => ?_) (fun h => ?_)
    · exact X_throw hl0 G (by decide) hZ hR htab ⟨Nat.le_refl _, Nat.le_refl _⟩ (Option.some.inj h).symm
    · refine V_iload_n (i := 2) G eX11_page_11 rfl rfl ?_
      refine V_iconst (n := 0) (v := (nI 0)) G eX11_page_12 rfl ?_
      refine V_iconst (n := 3) (v := (nI 3)) G eX11_page_13 rfl ?_
      obtain ⟨x2, h2, h⟩ := bdS h
      refine V_callIS (As := [.int y, .int (nI 0), .int (nI 3)]) (st := []) G lkX11_127 (B_isWithin_ok (μ := μ) h2) (by decide) rfl rfl (Nat.le_of_ble_eq_true rfl) eX11_page_14 ?_
      refine V_if_ne G eX11_page_17 h (fun h => ?_) (fun h => ?_)
      · refine V_iload_n (i := 2) G eX11_page_30 rfl rfl ?_
        by_cases c0 : y = nI 0
        · rw [if_pos c0] at h
          refine V_tswIn (v := (nI 0)) (off := 25) (tgt := 56) G eX11_page_31 c0 (by decide) (by decide) rfl rfl ?_
          refine V_aload_n (i := 0) G eX11_page_56 rfl rfl ?_
          refine V_get (v := .ref (wad w 6 0)) G fgX11_28 rfl eX11_page_57 ?_
          refine V_get (v := .ref (wad w 706 0)) G fgX11_164 rfl eX11_page_60 ?_
          refine V_iload_n (i := 1) G eX11_page_63 rfl rfl ?_
          refine V_iald G al_706 (by decide) eX11_page_64 h (fun v h => ?_)
          exact X_iret G hr (Option.some.inj h).symm eX11_page_65
        · rw [if_neg c0] at h
          by_cases c1 : y = nI 1
          · rw [if_pos c1] at h
            refine V_tswIn (v := (nI 1)) (off := 35) (tgt := 66) G eX11_page_31 c1 (by decide) (by decide) rfl rfl ?_
            refine V_aload_n (i := 0) G eX11_page_66 rfl rfl ?_
            refine V_get (v := .ref (wad w 6 0)) G fgX11_28 rfl eX11_page_67 ?_
            refine V_get (v := .ref (wad w 709 0)) G fgX11_168 rfl eX11_page_70 ?_
            refine V_iload_n (i := 1) G eX11_page_73 rfl rfl ?_
            refine V_iald G al_709 (by decide) eX11_page_74 h (fun v h => ?_)
            exact X_iret G hr (Option.some.inj h).symm eX11_page_75
          · rw [if_neg c1] at h
            by_cases c2 : y = nI 2
            · rw [if_pos c2] at h
              refine V_tswIn (v := (nI 2)) (off := 45) (tgt := 76) G eX11_page_31 c2 (by decide) (by decide) rfl rfl ?_
              refine V_aload_n (i := 0) G eX11_page_76 rfl rfl ?_
              refine V_get (v := .ref (wad w 6 0)) G fgX11_28 rfl eX11_page_77 ?_
              refine V_get (v := .ref (wad w 707 0)) G fgX11_171 rfl eX11_page_80 ?_
              refine V_iload_n (i := 1) G eX11_page_83 rfl rfl ?_
              refine V_iald G al_707 (by decide) eX11_page_84 h (fun v h => ?_)
              exact X_iret G hr (Option.some.inj h).symm eX11_page_85
            · rw [if_neg c2] at h
              refine V_tswOut (tgt := 86) G eX11_page_31 (fun k k1 k2 => ?_) rfl ?_
              · rcases (show k = 0 ∨ k = 1 ∨ k = 2 by omega) with q | q | q <;> subst q
                · exact c0
                · exact c1
                · exact c2
              refine V_aload_n (i := 0) G eX11_page_86 rfl rfl ?_
              refine V_get (v := .ref (wad w 6 0)) G fgX11_28 rfl eX11_page_87 ?_
              refine V_get (v := .ref (wad w 711 0)) G fgX11_174 rfl eX11_page_90 ?_
              refine V_iload_n (i := 1) G eX11_page_93 rfl rfl ?_
              refine V_iald G al_711 (by decide) eX11_page_94 h (fun v h => ?_)
              exact X_iret G hr (Option.some.inj h).symm eX11_page_95
      · exact X_throw hl0 G (by decide) hZ hR htab ⟨Nat.le_refl _, Nat.le_refl _⟩ (Option.some.inj h).symm
  exact K s.heap [] _ hP ⟨Nat.le_refl _, fun _ _ _ => rfl, fun _ h => by cases h⟩ hl
