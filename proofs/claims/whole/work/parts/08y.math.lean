def jMax (x y : Int32) : Int32 := if x < y then y else x
def jMin (x y : Int32) : Int32 := if y < x then y else x
def jAbs (x : Int32) : Int32 := if 0 ≤ x then x else 0 - x
def jMaxL (x y : Int64) : Int64 := if y < x then x else y
def jMinL (x y : Int64) : Int64 := if y < x then y else x
def MK (own : String) (idx : Nat) (y : MethodName) (cc : ByteArray) (n : Nat) (ret : FieldType) : Prop := Cond.methodLink own idx y ∈ BW ∧ Cond.static y ∈ BW ∧ Cond.initialized "java/lang/Math" ∈ BW ∧ Cond.code y cc n (some ret) ∈ BW
section MoreM
variable {p : Program} {l : Launch} {e : Env} {R : Room} {s : State} {m : MethodId} {args : Array Value} {below : List Frame} {meth : Method} {c : Code} {w : Wld} {cc : ByteArray} {nL : Nat} {own : String} {lev : Nat} {Q : State → Prop} {pc pc' tgt kc ns : Nat} {L : List (Option Value)} {st : List Value} {μ : Mem}
theorem V_jMax (G : Cxt p R s m args meth c w cc nL own lev kc ns) {i : Nat} {x y : Int32} (hw : MK own i Lib.Math.max.name Lib.Math.max.code 2 .int) (hlev : 1 ≤ lev) (hcat : (st.map fun v => v.category).sum ≤ 8) (d : D3 cc pc (.invokestatic i) pc') (k : Vj p l e R s m args below meth c w nL kc ns Q pc' L (.int (jMax x y) :: st) μ) : Vj p l e R s m args below meth c w nL kc ns Q pc L (.int y :: .int x :: st) μ := by
  obtain ⟨d1, rfl⟩ := d
  have hts := G.2.2.2.2.1
  have h7 := G.2.2.2.2.2.2.1
  have h8 := G.2.2.2.2.2.2.2.1
  exact fun H locs ls hP hS hl => va_mmax G.1 G.2.1 (G.2.2.1.trans hl.1.symm) G.2.2.2.1 (hts _ hw.1) (hts _ hw.2.1) (hts _ hw.2.2.1) (hts _ hw.2.2.2) (by omega) (by omega) G.2.2.2.2.2.2.2.2.2.1 G.2.2.2.2.2.2.2.2.2.2 d1 (k H locs ls hP hS hl)
theorem V_jMin (G : Cxt p R s m args meth c w cc nL own lev kc ns) {i : Nat} {x y : Int32} (hw : MK own i Lib.Math.min.name Lib.Math.min.code 2 .int) (hlev : 1 ≤ lev) (hcat : (st.map fun v => v.category).sum ≤ 8) (d : D3 cc pc (.invokestatic i) pc') (k : Vj p l e R s m args below meth c w nL kc ns Q pc' L (.int (jMin x y) :: st) μ) : Vj p l e R s m args below meth c w nL kc ns Q pc L (.int y :: .int x :: st) μ := by
  obtain ⟨d1, rfl⟩ := d
  have hts := G.2.2.2.2.1
  have h7 := G.2.2.2.2.2.2.1
  have h8 := G.2.2.2.2.2.2.2.1
  exact fun H locs ls hP hS hl => va_mmin G.1 G.2.1 (G.2.2.1.trans hl.1.symm) G.2.2.2.1 (hts _ hw.1) (hts _ hw.2.1) (hts _ hw.2.2.1) (hts _ hw.2.2.2) (by omega) (by omega) G.2.2.2.2.2.2.2.2.2.1 G.2.2.2.2.2.2.2.2.2.2 d1 (k H locs ls hP hS hl)
theorem V_jAbs (G : Cxt p R s m args meth c w cc nL own lev kc ns) {i : Nat} {x : Int32} (hw : MK own i Lib.Math.abs.name Lib.Math.abs.code 1 .int) (hlev : 1 ≤ lev) (hcat : (st.map fun v => v.category).sum ≤ 8) (d : D3 cc pc (.invokestatic i) pc') (k : Vj p l e R s m args below meth c w nL kc ns Q pc' L (.int (jAbs x) :: st) μ) : Vj p l e R s m args below meth c w nL kc ns Q pc L (.int x :: st) μ := by
  obtain ⟨d1, rfl⟩ := d
  have hts := G.2.2.2.2.1
  have h7 := G.2.2.2.2.2.2.1
  have h8 := G.2.2.2.2.2.2.2.1
  exact fun H locs ls hP hS hl => va_mabs G.1 G.2.1 (G.2.2.1.trans hl.1.symm) G.2.2.2.1 (hts _ hw.1) (hts _ hw.2.1) (hts _ hw.2.2.1) (hts _ hw.2.2.2) (by omega) (by omega) G.2.2.2.2.2.2.2.2.2.1 G.2.2.2.2.2.2.2.2.2.2 d1 (k H locs ls hP hS hl)
theorem V_jMaxL (G : Cxt p R s m args meth c w cc nL own lev kc ns) {i : Nat} {x y : Int64} (hw : MK own i Lib.MathLoose.max_long.x Lib.MathLoose.max_long.code 4 .long) (hlev : 1 ≤ lev) (hcat : (st.map fun v => v.category).sum ≤ 8) (d : D3 cc pc (.invokestatic i) pc') (k : Vj p l e R s m args below meth c w nL kc ns Q pc' L (.long (jMaxL x y) :: st) μ) : Vj p l e R s m args below meth c w nL kc ns Q pc L (.long y :: .long x :: st) μ := by
  obtain ⟨d1, rfl⟩ := d
  have hts := G.2.2.2.2.1
  have h7 := G.2.2.2.2.2.2.1
  have h8 := G.2.2.2.2.2.2.2.1
  exact fun H locs ls hP hS hl => va_mmax_long G.1 G.2.1 (G.2.2.1.trans hl.1.symm) G.2.2.2.1 (hts _ hw.1) (hts _ hw.2.1) (hts _ hw.2.2.1) (hts _ hw.2.2.2) (by omega) (by omega) G.2.2.2.2.2.2.2.2.2.1 G.2.2.2.2.2.2.2.2.2.2 d1 (k H locs ls hP hS hl)
theorem V_jMinL (G : Cxt p R s m args meth c w cc nL own lev kc ns) {i : Nat} {x y : Int64} (hw : MK own i Lib.MathLoose.min_long.x Lib.MathLoose.min_long.code 4 .long) (hlev : 1 ≤ lev) (hcat : (st.map fun v => v.category).sum ≤ 8) (d : D3 cc pc (.invokestatic i) pc') (k : Vj p l e R s m args below meth c w nL kc ns Q pc' L (.long (jMinL x y) :: st) μ) : Vj p l e R s m args below meth c w nL kc ns Q pc L (.long y :: .long x :: st) μ := by
  obtain ⟨d1, rfl⟩ := d
  have hts := G.2.2.2.2.1
  have h7 := G.2.2.2.2.2.2.1
  have h8 := G.2.2.2.2.2.2.2.1
  exact fun H locs ls hP hS hl => va_mmin_long G.1 G.2.1 (G.2.2.1.trans hl.1.symm) G.2.2.2.1 (hts _ hw.1) (hts _ hw.2.1) (hts _ hw.2.2.1) (hts _ hw.2.2.2) (by omega) (by omega) G.2.2.2.2.2.2.2.2.2.1 G.2.2.2.2.2.2.2.2.2.2 d1 (k H locs ls hP hS hl)
end MoreM

theorem mkX0_74 : MK "PotBook$Account" 74 Lib.Math.min.name Lib.Math.min.code 2 .int := ⟨(BW_at 1354 (by decide +kernel) rfl), (BW_at 690 (by decide +kernel) rfl), (BW_at 120 (by decide +kernel) rfl), (BW_at 691 (by decide +kernel) rfl)⟩
theorem mkX1_53 : MK "PotBook$Copies" 53 Lib.Math.min.name Lib.Math.min.code 2 .int := ⟨(BW_at 1080 (by decide +kernel) rfl), (BW_at 690 (by decide +kernel) rfl), (BW_at 120 (by decide +kernel) rfl), (BW_at 691 (by decide +kernel) rfl)⟩
theorem mkX2_58 : MK "PotBook$Kin" 58 Lib.Math.min.name Lib.Math.min.code 2 .int := ⟨(BW_at 798 (by decide +kernel) rfl), (BW_at 690 (by decide +kernel) rfl), (BW_at 120 (by decide +kernel) rfl), (BW_at 691 (by decide +kernel) rfl)⟩
theorem mkX4_62 : MK "PotBook$Laws" 62 Lib.Math.min.name Lib.Math.min.code 2 .int := ⟨(BW_at 1017 (by decide +kernel) rfl), (BW_at 690 (by decide +kernel) rfl), (BW_at 120 (by decide +kernel) rfl), (BW_at 691 (by decide +kernel) rfl)⟩
theorem mkX4_68 : MK "PotBook$Laws" 68 Lib.Math.max.name Lib.Math.max.code 2 .int := ⟨(BW_at 1018 (by decide +kernel) rfl), (BW_at 869 (by decide +kernel) rfl), (BW_at 120 (by decide +kernel) rfl), (BW_at 870 (by decide +kernel) rfl)⟩
theorem mkX5_117 : MK "PotBook$Menus" 117 Lib.Math.min.name Lib.Math.min.code 2 .int := ⟨(BW_at 1173 (by decide +kernel) rfl), (BW_at 690 (by decide +kernel) rfl), (BW_at 120 (by decide +kernel) rfl), (BW_at 691 (by decide +kernel) rfl)⟩
theorem mkX5_123 : MK "PotBook$Menus" 123 Lib.Math.max.name Lib.Math.max.code 2 .int := ⟨(BW_at 1178 (by decide +kernel) rfl), (BW_at 869 (by decide +kernel) rfl), (BW_at 120 (by decide +kernel) rfl), (BW_at 870 (by decide +kernel) rfl)⟩
theorem mkX8_79 : MK "PotBook$Pot" 79 Lib.Math.max.name Lib.Math.max.code 2 .int := ⟨(BW_at 868 (by decide +kernel) rfl), (BW_at 869 (by decide +kernel) rfl), (BW_at 120 (by decide +kernel) rfl), (BW_at 870 (by decide +kernel) rfl)⟩
theorem mkX8_85 : MK "PotBook$Pot" 85 Lib.Math.min.name Lib.Math.min.code 2 .int := ⟨(BW_at 871 (by decide +kernel) rfl), (BW_at 690 (by decide +kernel) rfl), (BW_at 120 (by decide +kernel) rfl), (BW_at 691 (by decide +kernel) rfl)⟩
theorem mkX9_33 : MK "PotBook$Tape" 33 Lib.Math.min.name Lib.Math.min.code 2 .int := ⟨(BW_at 689 (by decide +kernel) rfl), (BW_at 690 (by decide +kernel) rfl), (BW_at 120 (by decide +kernel) rfl), (BW_at 691 (by decide +kernel) rfl)⟩
theorem mkX10_54 : MK "PotBook$Taster" 54 Lib.Math.min.name Lib.Math.min.code 2 .int := ⟨(BW_at 969 (by decide +kernel) rfl), (BW_at 690 (by decide +kernel) rfl), (BW_at 120 (by decide +kernel) rfl), (BW_at 691 (by decide +kernel) rfl)⟩
theorem mkX10_59 : MK "PotBook$Taster" 59 Lib.Math.max.name Lib.Math.max.code 2 .int := ⟨(BW_at 970 (by decide +kernel) rfl), (BW_at 869 (by decide +kernel) rfl), (BW_at 120 (by decide +kernel) rfl), (BW_at 870 (by decide +kernel) rfl)⟩
theorem mkX10_122 : MK "PotBook$Taster" 122 Lib.Math.abs.name Lib.Math.abs.code 1 .int := ⟨(BW_at 1334 (by decide +kernel) rfl), (BW_at 1335 (by decide +kernel) rfl), (BW_at 120 (by decide +kernel) rfl), (BW_at 1336 (by decide +kernel) rfl)⟩
theorem mkX12_209 : MK "PotBookModel" 209 Lib.Math.max.name Lib.Math.max.code 2 .int := ⟨(BW_at 1764 (by decide +kernel) rfl), (BW_at 869 (by decide +kernel) rfl), (BW_at 120 (by decide +kernel) rfl), (BW_at 870 (by decide +kernel) rfl)⟩
theorem mkX12_309 : MK "PotBookModel" 309 Lib.MathLoose.min_long.x Lib.MathLoose.min_long.code 4 .long := ⟨(BW_at 1947 (by decide +kernel) rfl), (BW_at 1948 (by decide +kernel) rfl), (BW_at 120 (by decide +kernel) rfl), (BW_at 1949 (by decide +kernel) rfl)⟩
theorem mkX12_313 : MK "PotBookModel" 313 Lib.MathLoose.max_long.x Lib.MathLoose.max_long.code 4 .long := ⟨(BW_at 1950 (by decide +kernel) rfl), (BW_at 1951 (by decide +kernel) rfl), (BW_at 120 (by decide +kernel) rfl), (BW_at 1952 (by decide +kernel) rfl)⟩
theorem mkX12_382 : MK "PotBookModel" 382 Lib.Math.min.name Lib.Math.min.code 2 .int := ⟨(BW_at 1965 (by decide +kernel) rfl), (BW_at 690 (by decide +kernel) rfl), (BW_at 120 (by decide +kernel) rfl), (BW_at 691 (by decide +kernel) rfl)⟩
theorem mkX12_507 : MK "PotBookModel" 507 Lib.Math.abs.name Lib.Math.abs.code 1 .int := ⟨(BW_at 2193 (by decide +kernel) rfl), (BW_at 1335 (by decide +kernel) rfl), (BW_at 120 (by decide +kernel) rfl), (BW_at 1336 (by decide +kernel) rfl)⟩
