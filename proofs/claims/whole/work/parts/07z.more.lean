section More
variable {p : Program} {l : Launch} {e : Env} {R : Room} {s : State} {m : MethodId} {args : Array Value} {below : List Frame} {meth : Method} {c : Code} {w : Wld} {cc : ByteArray} {nL : Nat} {own : String} {lev : Nat} {Q : State → Prop} {pc pc' tgt kc ns : Nat} {L : List (Option Value)} {st : List Value} {μ : Mem}
theorem V_ldcw (G : Cxt p R s m args meth c w cc nL own lev kc ns) {i : Nat} {v : Int32} (hw : Cond.constant own i v ∈ BW) (d : D3 cc pc (.ldc_w i) pc') (k : Vj p l e R s m args below meth c w nL kc ns Q pc' L (.int v :: st) μ) : Vj p l e R s m args below meth c w nL kc ns Q pc L st μ := by
  obtain ⟨d1, rfl⟩ := d
  exact fun H locs ls hP hS hl => lv_ldcw G.1 G.2.1 G.2.2.2.1 (G.2.2.2.2.1 _ hw) d1 (k H locs ls hP hS hl)
end More
