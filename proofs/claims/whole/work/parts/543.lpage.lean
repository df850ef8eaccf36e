/-! THE LAW'S PAGE: it catches what the class's page throws -/
def pgR (o : Option Int32) : Int32 := match o with | none => nI 1 | some _ => nI 0
def pgM (μ : Mem) (o : Option Int32) : Mem := match o with | none => μ | some v => mSL μ 1400 0 0 v.toInt64
theorem mWl_1400 {μ : Mem} {x : Int64} : (mWl μ 1400 0 1 (nI 0) x).bind some = some (mSL μ 1400 0 0 x) := rfl
section PageL
variable {p : Program} {l : Launch} {e : Env} {R : Room} {s : State} {m : MethodId} {args : Array Value} {below : List Frame} {meth : Method} {c : Code} {w : Wld} {Q : State → Prop} {μ : Mem}
theorem X_run (hl0 : l.stackTraces = false) (G : Cxt p R s m args meth c w cL_page 5 "PotBookLaw" 10 0 0) (hcs : 1 ≤ R.cells ∧ 6 ≤ R.slots) (hZ : xZ w.2.2.2 s s.heap) (hR : xR s) {x y : Int32} {o : Option Int32} (h : B_page x y μ = some o) {H : Heap} {locs : List Loc} {ls : Array Slot} {st : List Value} (hcat : (st.map fun v => v.category).sum ≤ 8)
    (hP : va_P w.1 vwCl (wsM w μ) H) (hS : va_S w.2.2.2 s.heap H locs) (hl : ls.size = 5) : vx_Run p l e R s m args below meth c H locs 0 0 1 6 (F0 m 5 ls (.int y :: .int x :: .ref (wad w 11 0) :: st)) st (xQc w o μ (Value.ref (wad w 11 0) :: [.int x, .int y]).toArray) (xXC w o μ) w.2.2.2 := by
  obtain ⟨f1, f2, f3, f4, f5, f6⟩ := cf_11
  obtain ⟨q, hq⟩ := wKx f5 (Nat.zero_lt_one)
  have hts := G.2.2.2.2.1
  have hRR : (rmC 8 1 6).frames + 1 ≤ R.frames ∧ 8 + (3 + 11) + (rmC 8 1 6).locals ≤ R.locals := by
    have h1 := G.2.2.2.2.2.2.1
    have h2 := G.2.2.2.2.2.2.2.1
    show 8 + 1 ≤ R.frames ∧ 8 + (3 + 11) + 40 * 8 ≤ R.locals
    constructor <;> omega
  have hp : PreV s H yX11_page.cls (wad w 11 0) (va_Pc (.ref (wad w 11 0) :: [.int x, .int y]) (xIs w μ)) [.int x, .int y] := ⟨xPc_blind, va_recv G.2.2.2.2.2.1.1 hP f1 (wWs_at hq), fun U hU hW => ⟨rfl, xIs_at hP hS G.2.2.2.2.2.1 hZ hR hU hW⟩⟩
  exact vx_runV (C := yX11_page.cls) (As := [.int x, .int y]) ⟨G.1, G.2.1, G.2.2.1, G.2.2.2.1, hts⟩ (X11_page_x hl0 h) ⟨callB_of 2 hts (BW_code (BW_at 1403 (by decide +kernel) rfl)) rfl rfl rfl (hts _ (BW_at 107 (by decide +kernel) rfl)) (hts _ (BW_at 1400 (by decide +kernel) rfl)) (by decide +kernel) hRR, hts _ (BW_at 1401 (by decide +kernel) rfl), hts _ (BW_at 1402 (by decide +kernel) rfl)⟩ hp rfl rfl hl rfl (lv_room hcat) eL_page_5.1 ⟨by omega, by omega⟩
end PageL
set_option maxHeartbeats 4000000 in
theorem L_page_x {l : Launch} (hl0 : l.stackTraces = false) {w : Wld} {μ : Mem} {x y : Int32} {o : Option Int32} (h : B_page x y μ = some o) : Met l yL_page (Cond.codeWith yL_page cL_page 5 (some .int) [(0, 10, 13, 13)] :: BW) (rmC 10 1 6) (va_Pc [.ref (wad w 11 0), .int x, .int y, .ref (wad w 1400 0)] (xIs w μ)) (QI w (pgR o) (pgM μ o)) 1 6 w.2.2.2 := by
  refine va_MetW (cc := cL_page) (maxL := 5) (ret := some .int) (hh := [(0, 10, 13, 13)]) (by decide +kernel) rfl ?_
  intro p e s m args below meth c s₁ B hml hv
  obtain ⟨rfl, ⟨hP, hK⟩, hZ, hR⟩ := hv
  have hts := atoms_spec (ws := Cond.codeWith yL_page cL_page 5 (some .int) [(0, 10, 13, 13)] :: BW) B.pre
  have hl := lv_entry [Value.ref (wad w 11 0), .int x, .int y, .ref (wad w 1400 0)] (n := 5) (Nat.le_of_ble_eq_true rfl)
  have htab : c.exceptionTable.toList = tableOf [(0, 10, 13, 13)] := vx_table (x := yL_page) B (hts _ List.mem_cons_self)
  have htsB : ∀ z ∈ BW, z.before [Value.ref (wad w 11 0), .int x, .int y, .ref (wad w 1400 0)].toArray s = true := fun z hz => hts z (List.mem_cons_of_mem _ hz)
  have G : Cxt p (rmC 10 1 6) s m [Value.ref (wad w 11 0), .int x, .int y, .ref (wad w 1400 0)].toArray meth c w cL_page 5 "PotBookLaw" 10 0 0 := ⟨B.exec, B.bytes, hml, findClass_of_methodNamed B.named, htsB, hK, Nat.le_refl _, Nat.le_refl _, B.notSynchronized, Nat.zero_le _, Nat.zero_le _⟩
  have G6 : Cxt p (rmC 10 1 6) s m [Value.ref (wad w 11 0), .int x, .int y, .ref (wad w 1400 0)].toArray meth c w cL_page 5 "PotBookLaw" 10 1 6 := ⟨B.exec, B.bytes, hml, findClass_of_methodNamed B.named, htsB, hK, Nat.le_refl _, Nat.le_refl _, B.notSynchronized, Nat.le_refl _, Nat.le_refl _⟩
  have hr := B.returns
  rw [lg_entry_eq]
  have K : Vj p l e (rmC 10 1 6) s m [Value.ref (wad w 11 0), .int x, .int y, .ref (wad w 1400 0)].toArray below meth c w 5 0 0 (MQ below (QI w (pgR o) (pgM μ o)) [Value.ref (wad w 11 0), .int x, .int y, .ref (wad w 1400 0)].toArray s 1 6 w.2.2.2) 0 [some (.ref (wad w 11 0)), some (.int x), some (.int y), some (.ref (wad w 1400 0)), none] [] μ := by
    refine V_aload_n (i := 3) G eL_page_0 rfl rfl ?_
    refine V_iconst (n := 0) (v := (nI 0)) G eL_page_1 rfl ?_
    refine V_aload_n (i := 0) G eL_page_2 rfl rfl ?_
    refine V_iload_n (i := 1) G eL_page_3 rfl rfl ?_
    refine V_iload_n (i := 2) G eL_page_4 rfl rfl ?_
    intro H locs ls hP hS hl
    refine vx_calli (X_run hl0 G ⟨Nat.le_refl _, Nat.le_refl _⟩ hZ hR h (st := [.int (nI 0), .ref (wad w 1400 0)]) (Nat.le_of_ble_eq_true rfl) hP hS hl.1) hS (fun _ _ h => h) (fun _ h => h) (fun _ _ h => h) ?_ ?_
    · intro E ce q9 u t H1 locs1 ht hvm ho hB hz hk hS1 hce hcv hcl
      obtain ⟨rfl, hB⟩ := hB
      subst ho
      refine vx_catch (own := "PotBookLaw") (name := NSE) (E := NSE) G.2.2.2.1 [] ⟨0, 10, 13, 13⟩ [] htab (fun z hz => nomatch hz) (by decide) (by decide) (htsB (Cond.classLink "PotBookLaw" 13 NSE) (BW_at 1399 (by decide +kernel) rfl)) (va_Nw.use rfl hR.2.2.2.2) hce hcv hcl ?_
      have K13 : Vj p l e (rmC 10 1 6) s m [Value.ref (wad w 11 0), .int x, .int y, .ref (wad w 1400 0)].toArray below meth c w 5 1 6 (MQ below (QI w (nI 1) μ) [Value.ref (wad w 11 0), .int x, .int y, .ref (wad w 1400 0)].toArray s 1 6 w.2.2.2) 13 [some (.ref (wad w 11 0)), some (.int x), some (.int y), some (.ref (wad w 1400 0)), none] [.ref q9] μ := by
        refine V_astore (i := 4) (f := fun _ => some ()) (o := ()) (L' := fun y' => [some (.ref (wad w 11 0)), some (.int x), some (.int y), some (.ref (wad w 1400 0)), some (.ref y')]) G6 eL_page_13 (by decide) rfl (fun _ => rfl) rfl (fun y' _ => ?_)
        refine V_iconst (n := 1) (v := (nI 1)) G6 eL_page_15 rfl ?_
        exact V_iret G6 hr eL_page_16
      exact K13 H1 locs1 ls (by rw [← ht]; exact hB) hS1 hl
    · intro r u t H1 locs1 ht hvm ho hB hz hk hS1
      subst ho
      have K8 : Vj p l e (rmC 10 1 6) s m [Value.ref (wad w 11 0), .int x, .int y, .ref (wad w 1400 0)].toArray below meth c w 5 1 6 (MQ below (QI w (nI 0) (mSL μ 1400 0 0 r.toInt64)) [Value.ref (wad w 11 0), .int x, .int y, .ref (wad w 1400 0)].toArray s 1 6 w.2.2.2) 8 [some (.ref (wad w 11 0)), some (.int x), some (.int y), some (.ref (wad w 1400 0)), none] [.int r, .int (nI 0), .ref (wad w 1400 0)] μ := by
        refine V_i2l G6 eL_page_8 ?_
        refine V_last G6 al_1400 (by decide) eL_page_9 mWl_1400 (fun μ' hμ => ?_)
        cases hμ
        refine V_goto G6 eL_page_10 ?_
        refine V_iconst (n := 0) (v := (nI 0)) G6 eL_page_17 rfl ?_
        exact V_iret G6 hr eL_page_18
      exact K8 H1 locs1 ls (by rw [← ht]; exact hB) hS1 hl
  exact K s.heap [] _ hP ⟨Nat.le_refl _, fun _ _ _ => rfl, fun _ h => by cases h⟩ hl
