def bz (x : Int32) : Int32 := if x = 0 then nI 0 else nI 1
theorem bz_t {x : Int32} (h : x = 0) : bz x = nI 0 := if_pos h
theorem bz_f {x : Int32} (h : ¬ x = 0) : bz x = nI 1 := if_neg h
section LawRows
variable {p : Program} {l : Launch} {e : Env} {R : Room} {s : State} {m : MethodId} {args : Array Value} {below : List Frame} {meth : Method} {c : Code} {w : Wld} {cc : ByteArray} {nL : Nat} {own : String} {lev : Nat} {Q : State → Prop} {pc pc' tgt kc ns : Nat} {L : List (Option Value)} {st : List Value} {μ : Mem}
theorem V_scr (G : Cxt p R s m args meth c w cc nL own lev kc ns) {b N i : Nat} {xs : Nat → Int32} {v : Int32} (hX : va_X b N xs s s.heap) (hbl : b < s.heap.size) (hbA : ¬ w.2.2.2 b) (hv : v = nI i) (hi : i < N) (hN : N ≤ 3584) (d : D1 cc pc .iaload pc') (k : Vj p l e R s m args below meth c w nL kc ns Q pc' L (.int (xs i) :: st) μ) : Vj p l e R s m args below meth c w nL kc ns Q pc L (.int v :: .ref b :: st) μ := by
  obtain ⟨d1, rfl⟩ := d
  subst hv
  intro H locs ls hP hS hl
  refine va_sld G.1 G.2.1 hX hbl hbA hS (vp_in_nI hi (by omega)) d1 ?_
  rw [nI_clamp (by omega)]
  exact k H locs ls hP hS hl
theorem V_slen (G : Cxt p R s m args meth c w cc nL own lev kc ns) {b N : Nat} {xs : Nat → Int32} (hX : va_X b N xs s s.heap) (hbl : b < s.heap.size) (hbA : ¬ w.2.2.2 b) (d : D1 cc pc .arraylength pc') (k : Vj p l e R s m args below meth c w nL kc ns Q pc' L (.int (nI N) :: st) μ) : Vj p l e R s m args below meth c w nL kc ns Q pc L (.ref b :: st) μ := by
  obtain ⟨d1, rfl⟩ := d
  exact fun H locs ls hP hS hl => va_slen G.1 G.2.1 hX hbl hbA hS d1 (k H locs ls hP hS hl)
theorem V_eqT (G : Cxt p R s m args meth c w cc nL own lev kc ns) {x : Int32} (d : DJ cc pc (.ifCond .eq) tgt pc') (hx : x = 0) (k : Vj p l e R s m args below meth c w nL kc ns Q tgt L st μ) : Vj p l e R s m args below meth c w nL kc ns Q pc L (.int x :: st) μ := by
  obtain ⟨off, d1, d2, rfl⟩ := d
  exact fun H locs ls hP hS hl => lv_if_eq G.1 G.2.1 d1 d2 (fun _ => k H locs ls hP hS hl) (fun q => absurd hx q)
theorem V_eqF (G : Cxt p R s m args meth c w cc nL own lev kc ns) {x : Int32} (d : DJ cc pc (.ifCond .eq) tgt pc') (hx : ¬ x = 0) (k : Vj p l e R s m args below meth c w nL kc ns Q pc' L st μ) : Vj p l e R s m args below meth c w nL kc ns Q pc L (.int x :: st) μ := by
  obtain ⟨off, d1, d2, rfl⟩ := d
  exact fun H locs ls hP hS hl => lv_if_eq G.1 G.2.1 d1 d2 (fun q => absurd q hx) (fun _ => k H locs ls hP hS hl)
theorem V_eqqT (G : Cxt p R s m args meth c w cc nL own lev kc ns) {x y : Int32} (d : DJ cc pc (.if_icmp .eq) tgt pc') (hx : x = y) (k : Vj p l e R s m args below meth c w nL kc ns Q tgt L st μ) : Vj p l e R s m args below meth c w nL kc ns Q pc L (.int y :: .int x :: st) μ := by
  obtain ⟨off, d1, d2, rfl⟩ := d
  exact fun H locs ls hP hS hl => lv_icmp_eq G.1 G.2.1 d1 d2 (fun _ => k H locs ls hP hS hl) (fun q => absurd hx q)
end LawRows
theorem lkL_19 : LkV "PotBookLaw" 19 yX11_feed cX11_feed 7 (some .int) 5 11 := ⟨⟨Or.inl (BW_at 618 (by decide +kernel) rfl), (BW_at 621 (by decide +kernel) rfl), (BW_at 107 (by decide +kernel) rfl), by decide +kernel, by decide⟩, (BW_at 619 (by decide +kernel) rfl), (BW_at 620 (by decide +kernel) rfl), TX11, 11, cf_11⟩
theorem lkL_23 : LkV "PotBookLaw" 23 yX12_feed cX12_feed 9 (some .int) 5 12 := ⟨⟨Or.inl (BW_at 1727 (by decide +kernel) rfl), (BW_at 1730 (by decide +kernel) rfl), (BW_at 119 (by decide +kernel) rfl), by decide +kernel, by decide⟩, (BW_at 1728 (by decide +kernel) rfl), (BW_at 1729 (by decide +kernel) rfl), TX12, 82, cf_12⟩
theorem lkL_24 : LkV "PotBookLaw" 24 yX11_end cX11_end 2 (some .boolean) 1 11 := ⟨⟨Or.inl (BW_at 629 (by decide +kernel) rfl), (BW_at 632 (by decide +kernel) rfl), (BW_at 107 (by decide +kernel) rfl), by decide +kernel, by decide⟩, (BW_at 630 (by decide +kernel) rfl), (BW_at 631 (by decide +kernel) rfl), TX11, 11, cf_11⟩
theorem lkL_28 : LkV "PotBookLaw" 28 yX12_end cX12_end 2 (some .boolean) 1 12 := ⟨⟨Or.inl (BW_at 1734 (by decide +kernel) rfl), (BW_at 1737 (by decide +kernel) rfl), (BW_at 119 (by decide +kernel) rfl), by decide +kernel, by decide⟩, (BW_at 1735 (by decide +kernel) rfl), (BW_at 1736 (by decide +kernel) rfl), TX12, 82, cf_12⟩
theorem lkL_29 : LkV "PotBookLaw" 29 yX11_fault cX11_fault 3 (some .int) 1 11 := ⟨⟨Or.inl (BW_at 633 (by decide +kernel) rfl), (BW_at 636 (by decide +kernel) rfl), (BW_at 107 (by decide +kernel) rfl), by decide +kernel, by decide⟩, (BW_at 634 (by decide +kernel) rfl), (BW_at 635 (by decide +kernel) rfl), TX11, 11, cf_11⟩
theorem lkL_33 : LkV "PotBookLaw" 33 yX12_fault cX12_fault 2 (some .int) 1 12 := ⟨⟨Or.inl (BW_at 1765 (by decide +kernel) rfl), (BW_at 1768 (by decide +kernel) rfl), (BW_at 119 (by decide +kernel) rfl), by decide +kernel, by decide⟩, (BW_at 1766 (by decide +kernel) rfl), (BW_at 1767 (by decide +kernel) rfl), TX12, 82, cf_12⟩
theorem lkL_34 : LkV "PotBookLaw" 34 yX11_text cX11_text 2 (some .int) 1 11 := ⟨⟨Or.inl (BW_at 786 (by decide +kernel) rfl), (BW_at 789 (by decide +kernel) rfl), (BW_at 107 (by decide +kernel) rfl), by decide +kernel, by decide⟩, (BW_at 787 (by decide +kernel) rfl), (BW_at 788 (by decide +kernel) rfl), TX11, 11, cf_11⟩
theorem lkL_37 : LkV "PotBookLaw" 37 yX12_text cX12_text 2 (some .int) 1 12 := ⟨⟨Or.inl (BW_at 1865 (by decide +kernel) rfl), (BW_at 1868 (by decide +kernel) rfl), (BW_at 119 (by decide +kernel) rfl), by decide +kernel, by decide⟩, (BW_at 1866 (by decide +kernel) rfl), (BW_at 1867 (by decide +kernel) rfl), TX12, 82, cf_12⟩
theorem lkL_38 : LkV "PotBookLaw" 38 yX11_thing cX11_thing 7 (some .int) 6 11 := ⟨⟨Or.inl (BW_at 805 (by decide +kernel) rfl), (BW_at 808 (by decide +kernel) rfl), (BW_at 107 (by decide +kernel) rfl), by decide +kernel, by decide⟩, (BW_at 806 (by decide +kernel) rfl), (BW_at 807 (by decide +kernel) rfl), TX11, 11, cf_11⟩
theorem lkL_42 : LkV "PotBookLaw" 42 yX12_thing cX12_thing 9 (some .int) 6 12 := ⟨⟨Or.inl (BW_at 1738 (by decide +kernel) rfl), (BW_at 1741 (by decide +kernel) rfl), (BW_at 119 (by decide +kernel) rfl), by decide +kernel, by decide⟩, (BW_at 1739 (by decide +kernel) rfl), (BW_at 1740 (by decide +kernel) rfl), TX12, 82, cf_12⟩
theorem lkL_43 : LkV "PotBookLaw" 43 yX11_sized cX11_sized 4 (some .int) 3 11 := ⟨⟨Or.inl (BW_at 817 (by decide +kernel) rfl), (BW_at 820 (by decide +kernel) rfl), (BW_at 107 (by decide +kernel) rfl), by decide +kernel, by decide⟩, (BW_at 818 (by decide +kernel) rfl), (BW_at 819 (by decide +kernel) rfl), TX11, 11, cf_11⟩
theorem lkL_47 : LkV "PotBookLaw" 47 yX12_sized cX12_sized 4 (some .int) 3 12 := ⟨⟨Or.inl (BW_at 1745 (by decide +kernel) rfl), (BW_at 1748 (by decide +kernel) rfl), (BW_at 119 (by decide +kernel) rfl), by decide +kernel, by decide⟩, (BW_at 1746 (by decide +kernel) rfl), (BW_at 1747 (by decide +kernel) rfl), TX12, 82, cf_12⟩
theorem lkL_48 : LkV "PotBookLaw" 48 yX11_size cX11_size 3 (some .int) 2 11 := ⟨⟨Or.inl (BW_at 829 (by decide +kernel) rfl), (BW_at 832 (by decide +kernel) rfl), (BW_at 107 (by decide +kernel) rfl), by decide +kernel, by decide⟩, (BW_at 830 (by decide +kernel) rfl), (BW_at 831 (by decide +kernel) rfl), TX11, 11, cf_11⟩
theorem lkL_51 : LkV "PotBookLaw" 51 yX12_size cX12_size 3 (some .int) 2 12 := ⟨⟨Or.inl (BW_at 1756 (by decide +kernel) rfl), (BW_at 1759 (by decide +kernel) rfl), (BW_at 119 (by decide +kernel) rfl), by decide +kernel, by decide⟩, (BW_at 1757 (by decide +kernel) rfl), (BW_at 1758 (by decide +kernel) rfl), TX12, 82, cf_12⟩
theorem lkL_62 : LkV "PotBookLaw" 62 yX11_most cX11_most 2 (some .boolean) 1 11 := ⟨⟨Or.inl (BW_at 841 (by decide +kernel) rfl), (BW_at 844 (by decide +kernel) rfl), (BW_at 107 (by decide +kernel) rfl), by decide +kernel, by decide⟩, (BW_at 842 (by decide +kernel) rfl), (BW_at 843 (by decide +kernel) rfl), TX11, 11, cf_11⟩
theorem lkL_65 : LkV "PotBookLaw" 65 yX12_most cX12_most 2 (some .boolean) 1 12 := ⟨⟨Or.inl (BW_at 1885 (by decide +kernel) rfl), (BW_at 1888 (by decide +kernel) rfl), (BW_at 119 (by decide +kernel) rfl), by decide +kernel, by decide⟩, (BW_at 1886 (by decide +kernel) rfl), (BW_at 1887 (by decide +kernel) rfl), TX12, 82, cf_12⟩
theorem lkL_66 : LkV "PotBookLaw" 66 yX11_hold cX11_hold 5 (some .int) 4 11 := ⟨⟨Or.inl (BW_at 849 (by decide +kernel) rfl), (BW_at 852 (by decide +kernel) rfl), (BW_at 107 (by decide +kernel) rfl), by decide +kernel, by decide⟩, (BW_at 850 (by decide +kernel) rfl), (BW_at 851 (by decide +kernel) rfl), TX11, 11, cf_11⟩
theorem lkL_70 : LkV "PotBookLaw" 70 yX12_hold cX12_hold 5 (some .int) 4 12 := ⟨⟨Or.inl (BW_at 1889 (by decide +kernel) rfl), (BW_at 1892 (by decide +kernel) rfl), (BW_at 119 (by decide +kernel) rfl), by decide +kernel, by decide⟩, (BW_at 1890 (by decide +kernel) rfl), (BW_at 1891 (by decide +kernel) rfl), TX12, 82, cf_12⟩
theorem lkL_71 : LkV "PotBookLaw" 71 yX11_dishes cX11_dishes 2 (some .int) 1 11 := ⟨⟨Or.inl (BW_at 872 (by decide +kernel) rfl), (BW_at 875 (by decide +kernel) rfl), (BW_at 107 (by decide +kernel) rfl), by decide +kernel, by decide⟩, (BW_at 873 (by decide +kernel) rfl), (BW_at 874 (by decide +kernel) rfl), TX11, 11, cf_11⟩
theorem lkL_74 : LkV "PotBookLaw" 74 yX12_dishes cX12_dishes 2 (some .int) 1 12 := ⟨⟨Or.inl (BW_at 1899 (by decide +kernel) rfl), (BW_at 1902 (by decide +kernel) rfl), (BW_at 119 (by decide +kernel) rfl), by decide +kernel, by decide⟩, (BW_at 1900 (by decide +kernel) rfl), (BW_at 1901 (by decide +kernel) rfl), TX12, 82, cf_12⟩
theorem lkL_75 : LkV "PotBookLaw" 75 yX11_dish cX11_dish 4 (some .int) 3 11 := ⟨⟨Or.inl (BW_at 929 (by decide +kernel) rfl), (BW_at 932 (by decide +kernel) rfl), (BW_at 107 (by decide +kernel) rfl), by decide +kernel, by decide⟩, (BW_at 930 (by decide +kernel) rfl), (BW_at 931 (by decide +kernel) rfl), TX11, 11, cf_11⟩
theorem lkL_78 : LkV "PotBookLaw" 78 yX12_dish cX12_dish 5 (some .int) 3 12 := ⟨⟨Or.inl (BW_at 1953 (by decide +kernel) rfl), (BW_at 1956 (by decide +kernel) rfl), (BW_at 119 (by decide +kernel) rfl), by decide +kernel, by decide⟩, (BW_at 1954 (by decide +kernel) rfl), (BW_at 1955 (by decide +kernel) rfl), TX12, 82, cf_12⟩
theorem lkL_79 : LkV "PotBookLaw" 79 yX11_span cX11_span 4 (some .int) 3 11 := ⟨⟨Or.inl (BW_at 949 (by decide +kernel) rfl), (BW_at 952 (by decide +kernel) rfl), (BW_at 107 (by decide +kernel) rfl), by decide +kernel, by decide⟩, (BW_at 950 (by decide +kernel) rfl), (BW_at 951 (by decide +kernel) rfl), TX11, 11, cf_11⟩
theorem lkL_82 : LkV "PotBookLaw" 82 yX12_span cX12_span 7 (some .int) 3 12 := ⟨⟨Or.inl (BW_at 1961 (by decide +kernel) rfl), (BW_at 1964 (by decide +kernel) rfl), (BW_at 119 (by decide +kernel) rfl), by decide +kernel, by decide⟩, (BW_at 1962 (by decide +kernel) rfl), (BW_at 1963 (by decide +kernel) rfl), TX12, 82, cf_12⟩
theorem lkL_83 : LkV "PotBookLaw" 83 yX11_shared cX11_shared 2 (some .int) 1 11 := ⟨⟨Or.inl (BW_at 971 (by decide +kernel) rfl), (BW_at 974 (by decide +kernel) rfl), (BW_at 107 (by decide +kernel) rfl), by decide +kernel, by decide⟩, (BW_at 972 (by decide +kernel) rfl), (BW_at 973 (by decide +kernel) rfl), TX11, 11, cf_11⟩
theorem lkL_86 : LkV "PotBookLaw" 86 yX12_shared cX12_shared 4 (some .int) 1 12 := ⟨⟨Or.inl (BW_at 1966 (by decide +kernel) rfl), (BW_at 1969 (by decide +kernel) rfl), (BW_at 119 (by decide +kernel) rfl), by decide +kernel, by decide⟩, (BW_at 1967 (by decide +kernel) rfl), (BW_at 1968 (by decide +kernel) rfl), TX12, 82, cf_12⟩
theorem lkL_87 : LkV "PotBookLaw" 87 yX11_worth cX11_worth 4 (some .int) 3 11 := ⟨⟨Or.inl (BW_at 980 (by decide +kernel) rfl), (BW_at 983 (by decide +kernel) rfl), (BW_at 107 (by decide +kernel) rfl), by decide +kernel, by decide⟩, (BW_at 981 (by decide +kernel) rfl), (BW_at 982 (by decide +kernel) rfl), TX11, 11, cf_11⟩
theorem lkL_90 : LkV "PotBookLaw" 90 yX12_worth cX12_worth 4 (some .int) 3 12 := ⟨⟨Or.inl (BW_at 1978 (by decide +kernel) rfl), (BW_at 1981 (by decide +kernel) rfl), (BW_at 119 (by decide +kernel) rfl), by decide +kernel, by decide⟩, (BW_at 1979 (by decide +kernel) rfl), (BW_at 1980 (by decide +kernel) rfl), TX12, 82, cf_12⟩
theorem lkL_91 : LkV "PotBookLaw" 91 yX11_range cX11_range 4 (some .int) 3 11 := ⟨⟨Or.inl (BW_at 986 (by decide +kernel) rfl), (BW_at 989 (by decide +kernel) rfl), (BW_at 107 (by decide +kernel) rfl), by decide +kernel, by decide⟩, (BW_at 987 (by decide +kernel) rfl), (BW_at 988 (by decide +kernel) rfl), TX11, 11, cf_11⟩
theorem lkL_94 : LkV "PotBookLaw" 94 yX12_range cX12_range 7 (some .int) 3 12 := ⟨⟨Or.inl (BW_at 1983 (by decide +kernel) rfl), (BW_at 1986 (by decide +kernel) rfl), (BW_at 119 (by decide +kernel) rfl), by decide +kernel, by decide⟩, (BW_at 1984 (by decide +kernel) rfl), (BW_at 1985 (by decide +kernel) rfl), TX12, 82, cf_12⟩
theorem lkL_95 : LkV "PotBookLaw" 95 yX11_weigh cX11_weigh 2 (some .int) 1 11 := ⟨⟨Or.inl (BW_at 996 (by decide +kernel) rfl), (BW_at 999 (by decide +kernel) rfl), (BW_at 107 (by decide +kernel) rfl), by decide +kernel, by decide⟩, (BW_at 997 (by decide +kernel) rfl), (BW_at 998 (by decide +kernel) rfl), TX11, 11, cf_11⟩
theorem lkL_98 : LkV "PotBookLaw" 98 yX12_weigh cX12_weigh 4 (some .int) 1 12 := ⟨⟨Or.inl (BW_at 1974 (by decide +kernel) rfl), (BW_at 1977 (by decide +kernel) rfl), (BW_at 119 (by decide +kernel) rfl), by decide +kernel, by decide⟩, (BW_at 1975 (by decide +kernel) rfl), (BW_at 1976 (by decide +kernel) rfl), TX12, 82, cf_12⟩
theorem lkL_99 : LkV "PotBookLaw" 99 yX11_trial cX11_trial 4 (some .int) 3 11 := ⟨⟨Or.inl (BW_at 1009 (by decide +kernel) rfl), (BW_at 1012 (by decide +kernel) rfl), (BW_at 107 (by decide +kernel) rfl), by decide +kernel, by decide⟩, (BW_at 1010 (by decide +kernel) rfl), (BW_at 1011 (by decide +kernel) rfl), TX11, 11, cf_11⟩
theorem lkL_103 : LkV "PotBookLaw" 103 yX12_trial cX12_trial 4 (some .int) 3 12 := ⟨⟨Or.inl (BW_at 1987 (by decide +kernel) rfl), (BW_at 1990 (by decide +kernel) rfl), (BW_at 119 (by decide +kernel) rfl), by decide +kernel, by decide⟩, (BW_at 1988 (by decide +kernel) rfl), (BW_at 1989 (by decide +kernel) rfl), TX12, 82, cf_12⟩
theorem lkL_104 : LkV "PotBookLaw" 104 yX11_stands cX11_stands 4 (some .int) 3 11 := ⟨⟨Or.inl (BW_at 1019 (by decide +kernel) rfl), (BW_at 1022 (by decide +kernel) rfl), (BW_at 107 (by decide +kernel) rfl), by decide +kernel, by decide⟩, (BW_at 1020 (by decide +kernel) rfl), (BW_at 1021 (by decide +kernel) rfl), TX11, 11, cf_11⟩
theorem lkL_107 : LkV "PotBookLaw" 107 yX12_stands cX12_stands 4 (some .int) 3 12 := ⟨⟨Or.inl (BW_at 1991 (by decide +kernel) rfl), (BW_at 1994 (by decide +kernel) rfl), (BW_at 119 (by decide +kernel) rfl), by decide +kernel, by decide⟩, (BW_at 1992 (by decide +kernel) rfl), (BW_at 1993 (by decide +kernel) rfl), TX12, 82, cf_12⟩
theorem lkL_108 : LkV "PotBookLaw" 108 yX11_stand cX11_stand 4 (some .int) 3 11 := ⟨⟨Or.inl (BW_at 1027 (by decide +kernel) rfl), (BW_at 1030 (by decide +kernel) rfl), (BW_at 107 (by decide +kernel) rfl), by decide +kernel, by decide⟩, (BW_at 1028 (by decide +kernel) rfl), (BW_at 1029 (by decide +kernel) rfl), TX11, 11, cf_11⟩
theorem lkL_111 : LkV "PotBookLaw" 111 yX12_stand cX12_stand 6 (some .int) 3 12 := ⟨⟨Or.inl (BW_at 1999 (by decide +kernel) rfl), (BW_at 2002 (by decide +kernel) rfl), (BW_at 119 (by decide +kernel) rfl), by decide +kernel, by decide⟩, (BW_at 2000 (by decide +kernel) rfl), (BW_at 2001 (by decide +kernel) rfl), TX12, 82, cf_12⟩
theorem lkL_112 : LkV "PotBookLaw" 112 yX11_book cX11_book 2 (some .int) 1 11 := ⟨⟨Or.inl (BW_at 1036 (by decide +kernel) rfl), (BW_at 1039 (by decide +kernel) rfl), (BW_at 107 (by decide +kernel) rfl), by decide +kernel, by decide⟩, (BW_at 1037 (by decide +kernel) rfl), (BW_at 1038 (by decide +kernel) rfl), TX11, 11, cf_11⟩
theorem lkL_115 : LkV "PotBookLaw" 115 yX12_book cX12_book 2 (some .int) 1 12 := ⟨⟨Or.inl (BW_at 2003 (by decide +kernel) rfl), (BW_at 2006 (by decide +kernel) rfl), (BW_at 119 (by decide +kernel) rfl), by decide +kernel, by decide⟩, (BW_at 2004 (by decide +kernel) rfl), (BW_at 2005 (by decide +kernel) rfl), TX12, 82, cf_12⟩
theorem lkL_116 : LkV "PotBookLaw" 116 yX11_slip cX11_slip 4 (some .boolean) 3 11 := ⟨⟨Or.inl (BW_at 1048 (by decide +kernel) rfl), (BW_at 1051 (by decide +kernel) rfl), (BW_at 107 (by decide +kernel) rfl), by decide +kernel, by decide⟩, (BW_at 1049 (by decide +kernel) rfl), (BW_at 1050 (by decide +kernel) rfl), TX11, 11, cf_11⟩
theorem lkL_120 : LkV "PotBookLaw" 120 yX12_slip cX12_slip 4 (some .boolean) 3 12 := ⟨⟨Or.inl (BW_at 2007 (by decide +kernel) rfl), (BW_at 2010 (by decide +kernel) rfl), (BW_at 119 (by decide +kernel) rfl), by decide +kernel, by decide⟩, (BW_at 2008 (by decide +kernel) rfl), (BW_at 2009 (by decide +kernel) rfl), TX12, 82, cf_12⟩
theorem lkL_121 : LkV "PotBookLaw" 121 yX11_reads cX11_reads 3 (some .boolean) 2 11 := ⟨⟨Or.inl (BW_at 1055 (by decide +kernel) rfl), (BW_at 1058 (by decide +kernel) rfl), (BW_at 107 (by decide +kernel) rfl), by decide +kernel, by decide⟩, (BW_at 1056 (by decide +kernel) rfl), (BW_at 1057 (by decide +kernel) rfl), TX11, 11, cf_11⟩
theorem lkL_125 : LkV "PotBookLaw" 125 yX12_reads cX12_reads 3 (some .boolean) 2 12 := ⟨⟨Or.inl (BW_at 2011 (by decide +kernel) rfl), (BW_at 2014 (by decide +kernel) rfl), (BW_at 119 (by decide +kernel) rfl), by decide +kernel, by decide⟩, (BW_at 2012 (by decide +kernel) rfl), (BW_at 2013 (by decide +kernel) rfl), TX12, 82, cf_12⟩
theorem lkL_126 : LkV "PotBookLaw" 126 yX11_cost cX11_cost 2 (some .int) 1 11 := ⟨⟨Or.inl (BW_at 1059 (by decide +kernel) rfl), (BW_at 1062 (by decide +kernel) rfl), (BW_at 107 (by decide +kernel) rfl), by decide +kernel, by decide⟩, (BW_at 1060 (by decide +kernel) rfl), (BW_at 1061 (by decide +kernel) rfl), TX11, 11, cf_11⟩
theorem lkL_129 : LkV "PotBookLaw" 129 yX12_cost cX12_cost 2 (some .int) 1 12 := ⟨⟨Or.inl (BW_at 2015 (by decide +kernel) rfl), (BW_at 2018 (by decide +kernel) rfl), (BW_at 119 (by decide +kernel) rfl), by decide +kernel, by decide⟩, (BW_at 2016 (by decide +kernel) rfl), (BW_at 2017 (by decide +kernel) rfl), TX12, 82, cf_12⟩
theorem lkL_130 : LkV "PotBookLaw" 130 yX11_ways cX11_ways 2 (some .long) 1 11 := ⟨⟨Or.inl (BW_at 1081 (by decide +kernel) rfl), (BW_at 1084 (by decide +kernel) rfl), (BW_at 107 (by decide +kernel) rfl), by decide +kernel, by decide⟩, (BW_at 1082 (by decide +kernel) rfl), (BW_at 1083 (by decide +kernel) rfl), TX11, 11, cf_11⟩
theorem lkL_134 : LkV "PotBookLaw" 134 yX12_ways cX12_ways 2 (some .long) 1 12 := ⟨⟨Or.inl (BW_at 2032 (by decide +kernel) rfl), (BW_at 2035 (by decide +kernel) rfl), (BW_at 119 (by decide +kernel) rfl), by decide +kernel, by decide⟩, (BW_at 2033 (by decide +kernel) rfl), (BW_at 2034 (by decide +kernel) rfl), TX12, 82, cf_12⟩
theorem lkL_135 : LkV "PotBookLaw" 135 yX11_first cX11_first 1 (some .int) 0 11 := ⟨⟨Or.inl (BW_at 1086 (by decide +kernel) rfl), (BW_at 1089 (by decide +kernel) rfl), (BW_at 107 (by decide +kernel) rfl), by decide +kernel, by decide⟩, (BW_at 1087 (by decide +kernel) rfl), (BW_at 1088 (by decide +kernel) rfl), TX11, 11, cf_11⟩
theorem lkL_138 : LkV "PotBookLaw" 138 yX12_first cX12_first 1 (some .int) 0 12 := ⟨⟨Or.inl (BW_at 2037 (by decide +kernel) rfl), (BW_at 2040 (by decide +kernel) rfl), (BW_at 119 (by decide +kernel) rfl), by decide +kernel, by decide⟩, (BW_at 2038 (by decide +kernel) rfl), (BW_at 2039 (by decide +kernel) rfl), TX12, 82, cf_12⟩
theorem lkL_139 : LkV "PotBookLaw" 139 yX11_could cX11_could 2 (some .int) 1 11 := ⟨⟨Or.inl (BW_at 1094 (by decide +kernel) rfl), (BW_at 1097 (by decide +kernel) rfl), (BW_at 107 (by decide +kernel) rfl), by decide +kernel, by decide⟩, (BW_at 1095 (by decide +kernel) rfl), (BW_at 1096 (by decide +kernel) rfl), TX11, 11, cf_11⟩
theorem lkL_142 : LkV "PotBookLaw" 142 yX12_could cX12_could 5 (some .int) 1 12 := ⟨⟨Or.inl (BW_at 2045 (by decide +kernel) rfl), (BW_at 2048 (by decide +kernel) rfl), (BW_at 119 (by decide +kernel) rfl), by decide +kernel, by decide⟩, (BW_at 2046 (by decide +kernel) rfl), (BW_at 2047 (by decide +kernel) rfl), TX12, 82, cf_12⟩
theorem lkL_143 : LkV "PotBookLaw" 143 yX11_day cX11_day 3 (some .int) 2 11 := ⟨⟨Or.inl (BW_at 1108 (by decide +kernel) rfl), (BW_at 1111 (by decide +kernel) rfl), (BW_at 107 (by decide +kernel) rfl), by decide +kernel, by decide⟩, (BW_at 1109 (by decide +kernel) rfl), (BW_at 1110 (by decide +kernel) rfl), TX11, 11, cf_11⟩
theorem lkL_147 : LkV "PotBookLaw" 147 yX12_day cX12_day 3 (some .int) 2 12 := ⟨⟨Or.inl (BW_at 2049 (by decide +kernel) rfl), (BW_at 2052 (by decide +kernel) rfl), (BW_at 119 (by decide +kernel) rfl), by decide +kernel, by decide⟩, (BW_at 2050 (by decide +kernel) rfl), (BW_at 2051 (by decide +kernel) rfl), TX12, 82, cf_12⟩
theorem lkL_148 : LkV "PotBookLaw" 148 yX11_bought cX11_bought 4 (some .boolean) 3 11 := ⟨⟨Or.inl (BW_at 1116 (by decide +kernel) rfl), (BW_at 1119 (by decide +kernel) rfl), (BW_at 107 (by decide +kernel) rfl), by decide +kernel, by decide⟩, (BW_at 1117 (by decide +kernel) rfl), (BW_at 1118 (by decide +kernel) rfl), TX11, 11, cf_11⟩
theorem lkL_151 : LkV "PotBookLaw" 151 yX12_bought cX12_bought 4 (some .boolean) 3 12 := ⟨⟨Or.inl (BW_at 2053 (by decide +kernel) rfl), (BW_at 2056 (by decide +kernel) rfl), (BW_at 119 (by decide +kernel) rfl), by decide +kernel, by decide⟩, (BW_at 2054 (by decide +kernel) rfl), (BW_at 2055 (by decide +kernel) rfl), TX12, 82, cf_12⟩
theorem lkL_152 : LkV "PotBookLaw" 152 yX11_may cX11_may 3 (some .int) 2 11 := ⟨⟨Or.inl (BW_at 1124 (by decide +kernel) rfl), (BW_at 1127 (by decide +kernel) rfl), (BW_at 107 (by decide +kernel) rfl), by decide +kernel, by decide⟩, (BW_at 1125 (by decide +kernel) rfl), (BW_at 1126 (by decide +kernel) rfl), TX11, 11, cf_11⟩
theorem lkL_155 : LkV "PotBookLaw" 155 yX12_may cX12_may 3 (some .int) 2 12 := ⟨⟨Or.inl (BW_at 2061 (by decide +kernel) rfl), (BW_at 2064 (by decide +kernel) rfl), (BW_at 119 (by decide +kernel) rfl), by decide +kernel, by decide⟩, (BW_at 2062 (by decide +kernel) rfl), (BW_at 2063 (by decide +kernel) rfl), TX12, 82, cf_12⟩
theorem lkL_156 : LkV "PotBookLaw" 156 yX11_menu cX11_menu 5 (some .int) 4 11 := ⟨⟨Or.inl (BW_at 1142 (by decide +kernel) rfl), (BW_at 1145 (by decide +kernel) rfl), (BW_at 107 (by decide +kernel) rfl), by decide +kernel, by decide⟩, (BW_at 1143 (by decide +kernel) rfl), (BW_at 1144 (by decide +kernel) rfl), TX11, 11, cf_11⟩
theorem lkL_159 : LkV "PotBookLaw" 159 yX12_menu cX12_menu 5 (some .int) 4 12 := ⟨⟨Or.inl (BW_at 2080 (by decide +kernel) rfl), (BW_at 2083 (by decide +kernel) rfl), (BW_at 119 (by decide +kernel) rfl), by decide +kernel, by decide⟩, (BW_at 2081 (by decide +kernel) rfl), (BW_at 2082 (by decide +kernel) rfl), TX12, 82, cf_12⟩
theorem lkL_160 : LkV "PotBookLaw" 160 yX11_messes cX11_messes 6 (some .int) 5 11 := ⟨⟨Or.inl (BW_at 1196 (by decide +kernel) rfl), (BW_at 1199 (by decide +kernel) rfl), (BW_at 107 (by decide +kernel) rfl), by decide +kernel, by decide⟩, (BW_at 1197 (by decide +kernel) rfl), (BW_at 1198 (by decide +kernel) rfl), TX11, 11, cf_11⟩
theorem lkL_163 : LkV "PotBookLaw" 163 yX12_messes cX12_messes 7 (some .int) 5 12 := ⟨⟨Or.inl (BW_at 2112 (by decide +kernel) rfl), (BW_at 2115 (by decide +kernel) rfl), (BW_at 119 (by decide +kernel) rfl), by decide +kernel, by decide⟩, (BW_at 2113 (by decide +kernel) rfl), (BW_at 2114 (by decide +kernel) rfl), TX12, 82, cf_12⟩
theorem lkL_164 : LkV "PotBookLaw" 164 yX11_months cX11_months 2 (some .int) 1 11 := ⟨⟨Or.inl (BW_at 1204 (by decide +kernel) rfl), (BW_at 1207 (by decide +kernel) rfl), (BW_at 107 (by decide +kernel) rfl), by decide +kernel, by decide⟩, (BW_at 1205 (by decide +kernel) rfl), (BW_at 1206 (by decide +kernel) rfl), TX11, 11, cf_11⟩
theorem lkL_167 : LkV "PotBookLaw" 167 yX12_months cX12_months 2 (some .int) 1 12 := ⟨⟨Or.inl (BW_at 2116 (by decide +kernel) rfl), (BW_at 2119 (by decide +kernel) rfl), (BW_at 119 (by decide +kernel) rfl), by decide +kernel, by decide⟩, (BW_at 2117 (by decide +kernel) rfl), (BW_at 2118 (by decide +kernel) rfl), TX12, 82, cf_12⟩
theorem lkL_168 : LkV "PotBookLaw" 168 yX11_far cX11_far 3 (some .int) 2 11 := ⟨⟨Or.inl (BW_at 1209 (by decide +kernel) rfl), (BW_at 1212 (by decide +kernel) rfl), (BW_at 107 (by decide +kernel) rfl), by decide +kernel, by decide⟩, (BW_at 1210 (by decide +kernel) rfl), (BW_at 1211 (by decide +kernel) rfl), TX11, 11, cf_11⟩
theorem lkL_171 : LkV "PotBookLaw" 171 yX12_far cX12_far 3 (some .int) 2 12 := ⟨⟨Or.inl (BW_at 2120 (by decide +kernel) rfl), (BW_at 2123 (by decide +kernel) rfl), (BW_at 119 (by decide +kernel) rfl), by decide +kernel, by decide⟩, (BW_at 2121 (by decide +kernel) rfl), (BW_at 2122 (by decide +kernel) rfl), TX12, 82, cf_12⟩
theorem lkL_172 : LkV "PotBookLaw" 172 yX11_came cX11_came 2 (some .int) 1 11 := ⟨⟨Or.inl (BW_at 1213 (by decide +kernel) rfl), (BW_at 1216 (by decide +kernel) rfl), (BW_at 107 (by decide +kernel) rfl), by decide +kernel, by decide⟩, (BW_at 1214 (by decide +kernel) rfl), (BW_at 1215 (by decide +kernel) rfl), TX11, 11, cf_11⟩
theorem lkL_175 : LkV "PotBookLaw" 175 yX12_came cX12_came 4 (some .int) 1 12 := ⟨⟨Or.inl (BW_at 2128 (by decide +kernel) rfl), (BW_at 2131 (by decide +kernel) rfl), (BW_at 119 (by decide +kernel) rfl), by decide +kernel, by decide⟩, (BW_at 2129 (by decide +kernel) rfl), (BW_at 2130 (by decide +kernel) rfl), TX12, 82, cf_12⟩
theorem lkL_176 : LkV "PotBookLaw" 176 yX11_tree cX11_tree 1 (some .int) 0 11 := ⟨⟨Or.inl (BW_at 1217 (by decide +kernel) rfl), (BW_at 1220 (by decide +kernel) rfl), (BW_at 107 (by decide +kernel) rfl), by decide +kernel, by decide⟩, (BW_at 1218 (by decide +kernel) rfl), (BW_at 1219 (by decide +kernel) rfl), TX11, 11, cf_11⟩
theorem lkL_179 : LkV "PotBookLaw" 179 yX12_tree cX12_tree 5 (some .int) 0 12 := ⟨⟨Or.inl (BW_at 2132 (by decide +kernel) rfl), (BW_at 2135 (by decide +kernel) rfl), (BW_at 119 (by decide +kernel) rfl), by decide +kernel, by decide⟩, (BW_at 2133 (by decide +kernel) rfl), (BW_at 2134 (by decide +kernel) rfl), TX12, 82, cf_12⟩
theorem lkL_180 : LkV "PotBookLaw" 180 yX11_wrote cX11_wrote 3 (some .boolean) 2 11 := ⟨⟨Or.inl (BW_at 1233 (by decide +kernel) rfl), (BW_at 1236 (by decide +kernel) rfl), (BW_at 107 (by decide +kernel) rfl), by decide +kernel, by decide⟩, (BW_at 1234 (by decide +kernel) rfl), (BW_at 1235 (by decide +kernel) rfl), TX11, 11, cf_11⟩
theorem lkL_183 : LkV "PotBookLaw" 183 yX12_wrote cX12_wrote 3 (some .boolean) 2 12 := ⟨⟨Or.inl (BW_at 2136 (by decide +kernel) rfl), (BW_at 2139 (by decide +kernel) rfl), (BW_at 119 (by decide +kernel) rfl), by decide +kernel, by decide⟩, (BW_at 2137 (by decide +kernel) rfl), (BW_at 2138 (by decide +kernel) rfl), TX12, 82, cf_12⟩
theorem lkL_184 : LkV "PotBookLaw" 184 yX11_leaves cX11_leaves 4 (some .int) 3 11 := ⟨⟨Or.inl (BW_at 1240 (by decide +kernel) rfl), (BW_at 1243 (by decide +kernel) rfl), (BW_at 107 (by decide +kernel) rfl), by decide +kernel, by decide⟩, (BW_at 1241 (by decide +kernel) rfl), (BW_at 1242 (by decide +kernel) rfl), TX11, 11, cf_11⟩
theorem lkL_187 : LkV "PotBookLaw" 187 yX12_leaves cX12_leaves 6 (some .int) 3 12 := ⟨⟨Or.inl (BW_at 2140 (by decide +kernel) rfl), (BW_at 2143 (by decide +kernel) rfl), (BW_at 119 (by decide +kernel) rfl), by decide +kernel, by decide⟩, (BW_at 2141 (by decide +kernel) rfl), (BW_at 2142 (by decide +kernel) rfl), TX12, 82, cf_12⟩
theorem lkL_188 : LkV "PotBookLaw" 188 yX11_twice cX11_twice 2 (some .int) 1 11 := ⟨⟨Or.inl (BW_at 1248 (by decide +kernel) rfl), (BW_at 1251 (by decide +kernel) rfl), (BW_at 107 (by decide +kernel) rfl), by decide +kernel, by decide⟩, (BW_at 1249 (by decide +kernel) rfl), (BW_at 1250 (by decide +kernel) rfl), TX11, 11, cf_11⟩
theorem lkL_191 : LkV "PotBookLaw" 191 yX12_twice cX12_twice 5 (some .int) 1 12 := ⟨⟨Or.inl (BW_at 2144 (by decide +kernel) rfl), (BW_at 2147 (by decide +kernel) rfl), (BW_at 119 (by decide +kernel) rfl), by decide +kernel, by decide⟩, (BW_at 2145 (by decide +kernel) rfl), (BW_at 2146 (by decide +kernel) rfl), TX12, 82, cf_12⟩
theorem lkL_192 : LkV "PotBookLaw" 192 yX11_weight cX11_weight 4 (some .int) 3 11 := ⟨⟨Or.inl (BW_at 1256 (by decide +kernel) rfl), (BW_at 1259 (by decide +kernel) rfl), (BW_at 107 (by decide +kernel) rfl), by decide +kernel, by decide⟩, (BW_at 1257 (by decide +kernel) rfl), (BW_at 1258 (by decide +kernel) rfl), TX11, 11, cf_11⟩
theorem lkL_195 : LkV "PotBookLaw" 195 yX12_weight cX12_weight 4 (some .int) 3 12 := ⟨⟨Or.inl (BW_at 2148 (by decide +kernel) rfl), (BW_at 2151 (by decide +kernel) rfl), (BW_at 119 (by decide +kernel) rfl), by decide +kernel, by decide⟩, (BW_at 2149 (by decide +kernel) rfl), (BW_at 2150 (by decide +kernel) rfl), TX12, 82, cf_12⟩
theorem lkL_196 : LkV "PotBookLaw" 196 yX11_serves cX11_serves 5 (some .int) 4 11 := ⟨⟨Or.inl (BW_at 1265 (by decide +kernel) rfl), (BW_at 1268 (by decide +kernel) rfl), (BW_at 107 (by decide +kernel) rfl), by decide +kernel, by decide⟩, (BW_at 1266 (by decide +kernel) rfl), (BW_at 1267 (by decide +kernel) rfl), TX11, 11, cf_11⟩
theorem lkL_199 : LkV "PotBookLaw" 199 yX12_serves cX12_serves 8 (some .int) 4 12 := ⟨⟨Or.inl (BW_at 2156 (by decide +kernel) rfl), (BW_at 2159 (by decide +kernel) rfl), (BW_at 119 (by decide +kernel) rfl), by decide +kernel, by decide⟩, (BW_at 2157 (by decide +kernel) rfl), (BW_at 2158 (by decide +kernel) rfl), TX12, 82, cf_12⟩
theorem lkL_200 : LkV "PotBookLaw" 200 yX11_boil cX11_boil 5 (some .int) 4 11 := ⟨⟨Or.inl (BW_at 1274 (by decide +kernel) rfl), (BW_at 1277 (by decide +kernel) rfl), (BW_at 107 (by decide +kernel) rfl), by decide +kernel, by decide⟩, (BW_at 1275 (by decide +kernel) rfl), (BW_at 1276 (by decide +kernel) rfl), TX11, 11, cf_11⟩
theorem lkL_203 : LkV "PotBookLaw" 203 yX12_boil cX12_boil 7 (some .int) 4 12 := ⟨⟨Or.inl (BW_at 2160 (by decide +kernel) rfl), (BW_at 2163 (by decide +kernel) rfl), (BW_at 119 (by decide +kernel) rfl), by decide +kernel, by decide⟩, (BW_at 2161 (by decide +kernel) rfl), (BW_at 2162 (by decide +kernel) rfl), TX12, 82, cf_12⟩
theorem lkL_204 : LkV "PotBookLaw" 204 yX11_changed cX11_changed 3 (some .int) 2 11 := ⟨⟨Or.inl (BW_at 1282 (by decide +kernel) rfl), (BW_at 1285 (by decide +kernel) rfl), (BW_at 107 (by decide +kernel) rfl), by decide +kernel, by decide⟩, (BW_at 1283 (by decide +kernel) rfl), (BW_at 1284 (by decide +kernel) rfl), TX11, 11, cf_11⟩
theorem lkL_207 : LkV "PotBookLaw" 207 yX12_changed cX12_changed 8 (some .int) 2 12 := ⟨⟨Or.inl (BW_at 2164 (by decide +kernel) rfl), (BW_at 2167 (by decide +kernel) rfl), (BW_at 119 (by decide +kernel) rfl), by decide +kernel, by decide⟩, (BW_at 2165 (by decide +kernel) rfl), (BW_at 2166 (by decide +kernel) rfl), TX12, 82, cf_12⟩
theorem lkL_208 : LkV "PotBookLaw" 208 yX11_line cX11_line 2 (some .int) 1 11 := ⟨⟨Or.inl (BW_at 1295 (by decide +kernel) rfl), (BW_at 1298 (by decide +kernel) rfl), (BW_at 107 (by decide +kernel) rfl), by decide +kernel, by decide⟩, (BW_at 1296 (by decide +kernel) rfl), (BW_at 1297 (by decide +kernel) rfl), TX11, 11, cf_11⟩
theorem lkL_211 : LkV "PotBookLaw" 211 yX12_line cX12_line 4 (some .int) 1 12 := ⟨⟨Or.inl (BW_at 2173 (by decide +kernel) rfl), (BW_at 2176 (by decide +kernel) rfl), (BW_at 119 (by decide +kernel) rfl), by decide +kernel, by decide⟩, (BW_at 2174 (by decide +kernel) rfl), (BW_at 2175 (by decide +kernel) rfl), TX12, 82, cf_12⟩
theorem lkL_212 : LkV "PotBookLaw" 212 yX11_stem cX11_stem 3 (some .int) 2 11 := ⟨⟨Or.inl (BW_at 1303 (by decide +kernel) rfl), (BW_at 1306 (by decide +kernel) rfl), (BW_at 107 (by decide +kernel) rfl), by decide +kernel, by decide⟩, (BW_at 1304 (by decide +kernel) rfl), (BW_at 1305 (by decide +kernel) rfl), TX11, 11, cf_11⟩
theorem lkL_215 : LkV "PotBookLaw" 215 yX12_stem cX12_stem 6 (some .int) 2 12 := ⟨⟨Or.inl (BW_at 2177 (by decide +kernel) rfl), (BW_at 2180 (by decide +kernel) rfl), (BW_at 119 (by decide +kernel) rfl), by decide +kernel, by decide⟩, (BW_at 2178 (by decide +kernel) rfl), (BW_at 2179 (by decide +kernel) rfl), TX12, 82, cf_12⟩
theorem lkL_216 : LkV "PotBookLaw" 216 yX11_guess cX11_guess 3 (some .int) 2 11 := ⟨⟨Or.inl (BW_at 1311 (by decide +kernel) rfl), (BW_at 1314 (by decide +kernel) rfl), (BW_at 107 (by decide +kernel) rfl), by decide +kernel, by decide⟩, (BW_at 1312 (by decide +kernel) rfl), (BW_at 1313 (by decide +kernel) rfl), TX11, 11, cf_11⟩
theorem lkL_219 : LkV "PotBookLaw" 219 yX12_guess cX12_guess 3 (some .int) 2 12 := ⟨⟨Or.inl (BW_at 2181 (by decide +kernel) rfl), (BW_at 2184 (by decide +kernel) rfl), (BW_at 119 (by decide +kernel) rfl), by decide +kernel, by decide⟩, (BW_at 2182 (by decide +kernel) rfl), (BW_at 2183 (by decide +kernel) rfl), TX12, 82, cf_12⟩
theorem lkL_220 : LkV "PotBookLaw" 220 yX11_nearest cX11_nearest 2 (some .int) 1 11 := ⟨⟨Or.inl (BW_at 1320 (by decide +kernel) rfl), (BW_at 1323 (by decide +kernel) rfl), (BW_at 107 (by decide +kernel) rfl), by decide +kernel, by decide⟩, (BW_at 1321 (by decide +kernel) rfl), (BW_at 1322 (by decide +kernel) rfl), TX11, 11, cf_11⟩
theorem lkL_223 : LkV "PotBookLaw" 223 yX12_nearest cX12_nearest 8 (some .int) 1 12 := ⟨⟨Or.inl (BW_at 2189 (by decide +kernel) rfl), (BW_at 2192 (by decide +kernel) rfl), (BW_at 119 (by decide +kernel) rfl), by decide +kernel, by decide⟩, (BW_at 2190 (by decide +kernel) rfl), (BW_at 2191 (by decide +kernel) rfl), TX12, 82, cf_12⟩
theorem lkL_224 : LkV "PotBookLaw" 224 yX11_lacking cX11_lacking 5 (some .int) 4 11 := ⟨⟨Or.inl (BW_at 1337 (by decide +kernel) rfl), (BW_at 1340 (by decide +kernel) rfl), (BW_at 107 (by decide +kernel) rfl), by decide +kernel, by decide⟩, (BW_at 1338 (by decide +kernel) rfl), (BW_at 1339 (by decide +kernel) rfl), TX11, 11, cf_11⟩
theorem lkL_227 : LkV "PotBookLaw" 227 yX12_lacking cX12_lacking 5 (some .int) 4 12 := ⟨⟨Or.inl (BW_at 2194 (by decide +kernel) rfl), (BW_at 2197 (by decide +kernel) rfl), (BW_at 119 (by decide +kernel) rfl), by decide +kernel, by decide⟩, (BW_at 2195 (by decide +kernel) rfl), (BW_at 2196 (by decide +kernel) rfl), TX12, 82, cf_12⟩
theorem lkL_228 : LkV "PotBookLaw" 228 yX11_enough cX11_enough 4 (some .int) 3 11 := ⟨⟨Or.inl (BW_at 1346 (by decide +kernel) rfl), (BW_at 1349 (by decide +kernel) rfl), (BW_at 107 (by decide +kernel) rfl), by decide +kernel, by decide⟩, (BW_at 1347 (by decide +kernel) rfl), (BW_at 1348 (by decide +kernel) rfl), TX11, 11, cf_11⟩
theorem lkL_231 : LkV "PotBookLaw" 231 yX12_enough cX12_enough 5 (some .int) 3 12 := ⟨⟨Or.inl (BW_at 2202 (by decide +kernel) rfl), (BW_at 2205 (by decide +kernel) rfl), (BW_at 119 (by decide +kernel) rfl), by decide +kernel, by decide⟩, (BW_at 2203 (by decide +kernel) rfl), (BW_at 2204 (by decide +kernel) rfl), TX12, 82, cf_12⟩
theorem lkL_232 : LkV "PotBookLaw" 232 yX11_wasted cX11_wasted 5 (some .int) 4 11 := ⟨⟨Or.inl (BW_at 1355 (by decide +kernel) rfl), (BW_at 1358 (by decide +kernel) rfl), (BW_at 107 (by decide +kernel) rfl), by decide +kernel, by decide⟩, (BW_at 1356 (by decide +kernel) rfl), (BW_at 1357 (by decide +kernel) rfl), TX11, 11, cf_11⟩
theorem lkL_235 : LkV "PotBookLaw" 235 yX12_wasted cX12_wasted 5 (some .int) 4 12 := ⟨⟨Or.inl (BW_at 2206 (by decide +kernel) rfl), (BW_at 2209 (by decide +kernel) rfl), (BW_at 119 (by decide +kernel) rfl), by decide +kernel, by decide⟩, (BW_at 2207 (by decide +kernel) rfl), (BW_at 2208 (by decide +kernel) rfl), TX12, 82, cf_12⟩
theorem lkL_236 : LkV "PotBookLaw" 236 yX11_lean cX11_lean 5 (some .int) 4 11 := ⟨⟨Or.inl (BW_at 1359 (by decide +kernel) rfl), (BW_at 1362 (by decide +kernel) rfl), (BW_at 107 (by decide +kernel) rfl), by decide +kernel, by decide⟩, (BW_at 1360 (by decide +kernel) rfl), (BW_at 1361 (by decide +kernel) rfl), TX11, 11, cf_11⟩
theorem lkL_239 : LkV "PotBookLaw" 239 yX12_lean cX12_lean 5 (some .int) 4 12 := ⟨⟨Or.inl (BW_at 2210 (by decide +kernel) rfl), (BW_at 2213 (by decide +kernel) rfl), (BW_at 119 (by decide +kernel) rfl), by decide +kernel, by decide⟩, (BW_at 2211 (by decide +kernel) rfl), (BW_at 2212 (by decide +kernel) rfl), TX12, 82, cf_12⟩
theorem lkL_240 : LkV "PotBookLaw" 240 yX11_softer cX11_softer 5 (some .int) 3 11 := ⟨⟨Or.inl (BW_at 1363 (by decide +kernel) rfl), (BW_at 1366 (by decide +kernel) rfl), (BW_at 107 (by decide +kernel) rfl), by decide +kernel, by decide⟩, (BW_at 1364 (by decide +kernel) rfl), (BW_at 1365 (by decide +kernel) rfl), TX11, 11, cf_11⟩
theorem lkL_243 : LkV "PotBookLaw" 243 yX12_softer cX12_softer 7 (some .int) 3 12 := ⟨⟨Or.inl (BW_at 2214 (by decide +kernel) rfl), (BW_at 2217 (by decide +kernel) rfl), (BW_at 119 (by decide +kernel) rfl), by decide +kernel, by decide⟩, (BW_at 2215 (by decide +kernel) rfl), (BW_at 2216 (by decide +kernel) rfl), TX12, 82, cf_12⟩
theorem lkL_244 : LkV "PotBookLaw" 244 yX11_swapped cX11_swapped 6 (some .int) 3 11 := ⟨⟨Or.inl (BW_at 1374 (by decide +kernel) rfl), (BW_at 1377 (by decide +kernel) rfl), (BW_at 107 (by decide +kernel) rfl), by decide +kernel, by decide⟩, (BW_at 1375 (by decide +kernel) rfl), (BW_at 1376 (by decide +kernel) rfl), TX11, 11, cf_11⟩
theorem lkL_247 : LkV "PotBookLaw" 247 yX12_swapped cX12_swapped 9 (some .int) 3 12 := ⟨⟨Or.inl (BW_at 2219 (by decide +kernel) rfl), (BW_at 2222 (by decide +kernel) rfl), (BW_at 119 (by decide +kernel) rfl), by decide +kernel, by decide⟩, (BW_at 2220 (by decide +kernel) rfl), (BW_at 2221 (by decide +kernel) rfl), TX12, 82, cf_12⟩
theorem lkL_248 : LkV "PotBookLaw" 248 yX11_count cX11_count 2 (some .int) 1 11 := ⟨⟨Or.inl (BW_at 1392 (by decide +kernel) rfl), (BW_at 1395 (by decide +kernel) rfl), (BW_at 107 (by decide +kernel) rfl), by decide +kernel, by decide⟩, (BW_at 1393 (by decide +kernel) rfl), (BW_at 1394 (by decide +kernel) rfl), TX11, 11, cf_11⟩
theorem lkL_251 : LkV "PotBookLaw" 251 yX12_count cX12_count 2 (some .int) 1 12 := ⟨⟨Or.inl (BW_at 2227 (by decide +kernel) rfl), (BW_at 2230 (by decide +kernel) rfl), (BW_at 119 (by decide +kernel) rfl), by decide +kernel, by decide⟩, (BW_at 2228 (by decide +kernel) rfl), (BW_at 2229 (by decide +kernel) rfl), TX12, 82, cf_12⟩
def St_0 (s1 : Int32) (s2 : Int32) (s3 : Int32) (s4 : Int32) (s5 : Int32) (μ μ2 : Mem) : Prop := ∃ (r : Int32) (μ1 : Mem), B_feed s1 s2 s3 s4 s5 μ = some (r, μ1) ∧ M_feed s1 s2 s3 s4 s5 μ1 = some (r, μ2)
def St_1 (s1 : Int32) (μ μ2 : Mem) : Prop := ∃ (r : Int32) (μ1 : Mem), B_end s1 μ = some (r, μ1) ∧ M_end s1 μ1 = some (r, μ2)
def St_2 (s1 : Int32) (μ μ2 : Mem) : Prop := ∃ (r : Int32) (μ1 : Mem), B_fault s1 μ = some (r, μ1) ∧ M_fault s1 μ1 = some (r, μ2)
def St_3 (s1 : Int32) (μ μ2 : Mem) : Prop := ∃ (r : Int32) (μ1 : Mem), B_text s1 μ = some (r, μ1) ∧ M_text s1 μ1 = some (r, μ2)
def St_4 (s1 : Int32) (s2 : Int32) (s3 : Int32) (s4 : Int32) (s5 : Int32) (s6 : Int32) (μ μ2 : Mem) : Prop := ∃ (r : Int32) (μ1 : Mem), B_thing s1 s2 s3 (bz s4) s5 s6 μ = some (r, μ1) ∧ M_thing s1 s2 s3 (bz s4) s5 s6 μ1 = some (r, μ2)
def St_5 (s1 : Int32) (s2 : Int32) (s3 : Int32) (μ μ2 : Mem) : Prop := ∃ (r : Int32) (μ1 : Mem), B_sized s1 s2 s3 μ = some (r, μ1) ∧ M_sized s1 s2 s3 μ1 = some (r, μ2)
def St_6 (s1 : Int32) (s2 : Int32) (μ μ2 : Mem) : Prop := ∃ (r : Int32), B_size s1 s2 μ = some r ∧ M_size s1 s2 μ = some r ∧ μ2 = μ
def St_8 (s1 : Int32) (μ μ2 : Mem) : Prop := ∃ (r : Int32) (μ1 : Mem), B_most s1 μ = some (r, μ1) ∧ M_most s1 μ1 = some (r, μ2)
def St_9 (s1 : Int32) (s2 : Int32) (s3 : Int32) (s4 : Int32) (μ μ2 : Mem) : Prop := ∃ (r : Int32) (μ1 : Mem), B_hold s1 s2 s3 s4 μ = some (r, μ1) ∧ M_hold s1 s2 s3 s4 μ1 = some (r, μ2)
def St_10 (s1 : Int32) (μ μ2 : Mem) : Prop := ∃ (r : Int32) (μ1 : Mem), B_dishes s1 μ = some (r, μ1) ∧ M_dishes s1 μ1 = some (r, μ2)
def St_11 (s1 : Int32) (s2 : Int32) (s3 : Int32) (μ μ2 : Mem) : Prop := ∃ (r : Int32) (μ1 : Mem), B_dish s1 s2 s3 μ = some (r, μ1) ∧ M_dish s1 s2 s3 μ1 = some (r, μ2)
def St_12 (s1 : Int32) (s2 : Int32) (s3 : Int32) (μ μ2 : Mem) : Prop := ∃ (r : Int32) (μ1 : Mem), B_span s1 s2 s3 μ = some (r, μ1) ∧ M_span s1 s2 s3 μ1 = some (r, μ2)
def St_13 (s1 : Int32) (μ μ2 : Mem) : Prop := ∃ (r : Int32) (μ1 : Mem), B_shared s1 μ = some (r, μ1) ∧ M_shared s1 μ1 = some (r, μ2)
def St_14 (s1 : Int32) (s2 : Int32) (s3 : Int32) (μ μ2 : Mem) : Prop := ∃ (r : Int32) (μ1 : Mem), B_worth s1 s2 s3 μ = some (r, μ1) ∧ M_worth s1 s2 s3 μ1 = some (r, μ2)
def St_15 (s1 : Int32) (s2 : Int32) (s3 : Int32) (μ μ2 : Mem) : Prop := ∃ (r : Int32) (μ1 : Mem), B_range s1 s2 s3 μ = some (r, μ1) ∧ M_range s1 s2 s3 μ1 = some (r, μ2)
def St_16 (s1 : Int32) (μ μ2 : Mem) : Prop := ∃ (r : Int32) (μ1 : Mem), B_weigh s1 μ = some (r, μ1) ∧ M_weigh s1 μ1 = some (r, μ2)
def St_17 (s1 : Int32) (s2 : Int32) (s3 : Int32) (μ μ2 : Mem) : Prop := ∃ (r : Int32) (μ1 : Mem), B_trial s1 s2 (bz s3) μ = some (r, μ1) ∧ M_trial s1 s2 (bz s3) μ1 = some (r, μ2)
def St_18 (s1 : Int32) (s2 : Int32) (s3 : Int32) (μ μ2 : Mem) : Prop := ∃ (r : Int32) (μ1 : Mem), B_stands s1 s2 s3 μ = some (r, μ1) ∧ M_stands s1 s2 s3 μ1 = some (r, μ2)
def St_19 (s1 : Int32) (s2 : Int32) (s3 : Int32) (μ μ2 : Mem) : Prop := ∃ (r : Int32) (μ1 : Mem), B_stand s1 s2 s3 μ = some (r, μ1) ∧ M_stand s1 s2 s3 μ1 = some (r, μ2)
def St_20 (s1 : Int32) (μ μ2 : Mem) : Prop := ∃ (r : Int32) (μ1 : Mem), B_book s1 μ = some (r, μ1) ∧ M_book s1 μ1 = some (r, μ2)
def St_21 (s1 : Int32) (s2 : Int32) (s3 : Int32) (μ μ2 : Mem) : Prop := ∃ (r : Int32) (μ1 : Mem), B_slip s1 s2 s3 μ = some (r, μ1) ∧ M_slip s1 s2 s3 μ1 = some (r, μ2)
def St_22 (s1 : Int32) (s2 : Int32) (μ μ2 : Mem) : Prop := ∃ (r : Int32) (μ1 : Mem), B_reads s1 s2 μ = some (r, μ1) ∧ M_reads s1 s2 μ1 = some (r, μ2)
def St_23 (s1 : Int32) (μ μ2 : Mem) : Prop := ∃ (r : Int32) (μ1 : Mem), B_cost s1 μ = some (r, μ1) ∧ M_cost s1 μ1 = some (r, μ2)
def St_24 (s1 : Int32) (μ μ2 : Mem) : Prop := ∃ (r : Int64) (μ1 : Mem), B_ways s1 μ = some (r, μ1) ∧ M_ways s1 μ1 = some (r, μ2)
def St_25 (μ μ2 : Mem) : Prop := ∃ (r : Int32) (μ1 : Mem), B_first μ = some (r, μ1) ∧ M_first μ1 = some (r, μ2)
def St_26 (s1 : Int32) (μ μ2 : Mem) : Prop := ∃ (r : Int32) (μ1 : Mem), B_could s1 μ = some (r, μ1) ∧ M_could s1 μ1 = some (r, μ2)
def St_27 (s1 : Int32) (s2 : Int32) (μ μ2 : Mem) : Prop := ∃ (r : Int32) (μ1 : Mem), B_day s1 (bz s2) μ = some (r, μ1) ∧ M_day s1 (bz s2) μ1 = some (r, μ2)
def St_28 (s1 : Int32) (s2 : Int32) (s3 : Int32) (μ μ2 : Mem) : Prop := ∃ (r : Int32) (μ1 : Mem), B_bought s1 s2 s3 μ = some (r, μ1) ∧ M_bought s1 s2 s3 μ1 = some (r, μ2)
def St_29 (s1 : Int32) (s2 : Int32) (μ μ2 : Mem) : Prop := ∃ (r : Int32) (μ1 : Mem), B_may s1 s2 μ = some (r, μ1) ∧ M_may s1 s2 μ1 = some (r, μ2)
def St_30 (s1 : Int32) (s2 : Int32) (s3 : Int32) (s4 : Int32) (μ μ2 : Mem) : Prop := ∃ (r : Int32) (μ1 : Mem), B_menu s1 s2 s3 s4 μ = some (r, μ1) ∧ M_menu s1 s2 s3 s4 μ1 = some (r, μ2)
def St_31 (s1 : Int32) (s2 : Int32) (s3 : Int32) (s4 : Int32) (s5 : Int32) (μ μ2 : Mem) : Prop := ∃ (r : Int32) (μ1 : Mem), B_messes s1 s2 s3 s4 s5 μ = some (r, μ1) ∧ M_messes s1 s2 s3 s4 s5 μ1 = some (r, μ2)
def St_32 (s1 : Int32) (μ μ2 : Mem) : Prop := ∃ (r : Int32), B_months s1 μ = some r ∧ M_months s1 μ = some r ∧ μ2 = μ
def St_33 (s1 : Int32) (s2 : Int32) (μ μ2 : Mem) : Prop := ∃ (r : Int32), B_far s1 s2 μ = some r ∧ M_far s1 s2 μ = some (r, μ2)
def St_34 (s1 : Int32) (μ μ2 : Mem) : Prop := ∃ (r : Int32), B_came s1 μ = some r ∧ M_came s1 μ = some (r, μ2)
def St_35 (μ μ2 : Mem) : Prop := ∃ (r : Int32) (μ1 : Mem), B_tree μ = some (r, μ1) ∧ M_tree μ1 = some (r, μ2)
def St_36 (s1 : Int32) (s2 : Int32) (μ μ2 : Mem) : Prop := ∃ (r : Int32) (μ1 : Mem), B_wrote s1 s2 μ = some (r, μ1) ∧ M_wrote s1 s2 μ1 = some (r, μ2)
def St_37 (s1 : Int32) (s2 : Int32) (s3 : Int32) (μ μ2 : Mem) : Prop := ∃ (r : Int32), B_leaves s1 s2 s3 μ = some r ∧ M_leaves s1 s2 s3 μ = some r ∧ μ2 = μ
def St_38 (s1 : Int32) (μ μ2 : Mem) : Prop := ∃ (r : Int32), B_twice s1 μ = some r ∧ M_twice s1 μ = some r ∧ μ2 = μ
def St_39 (s1 : Int32) (s2 : Int32) (s3 : Int32) (μ μ2 : Mem) : Prop := ∃ (r : Int32) (μ1 : Mem), B_weight s1 s2 s3 μ = some (r, μ1) ∧ M_weight s1 s2 s3 μ1 = some (r, μ2)
def St_40 (s1 : Int32) (s2 : Int32) (s3 : Int32) (s4 : Int32) (μ μ2 : Mem) : Prop := ∃ (r : Int32) (μ1 : Mem), B_serves s1 s2 s3 s4 μ = some (r, μ1) ∧ M_serves s1 s2 s3 s4 μ1 = some (r, μ2)
def St_41 (s1 : Int32) (s2 : Int32) (s3 : Int32) (s4 : Int32) (μ μ2 : Mem) : Prop := ∃ (r : Int32) (μ1 : Mem), B_boil s1 s2 s3 s4 μ = some (r, μ1) ∧ M_boil s1 s2 s3 s4 μ1 = some (r, μ2)
def St_42 (s1 : Int32) (s2 : Int32) (μ μ2 : Mem) : Prop := ∃ (r : Int32), B_changed s1 s2 μ = some r ∧ M_changed s1 s2 μ = some (r, μ2)
def St_43 (s1 : Int32) (μ μ2 : Mem) : Prop := ∃ (r : Int32), B_line s1 μ = some r ∧ M_line s1 μ = some (r, μ2)
def St_44 (s1 : Int32) (s2 : Int32) (μ μ2 : Mem) : Prop := ∃ (r : Int32), B_stem s1 s2 μ = some r ∧ M_stem s1 s2 μ = some (r, μ2)
def St_45 (s1 : Int32) (s2 : Int32) (μ μ2 : Mem) : Prop := ∃ (r : Int32), B_guess s1 s2 μ = some r ∧ M_guess s1 s2 μ = some r ∧ μ2 = μ
def St_46 (s1 : Int32) (μ μ2 : Mem) : Prop := ∃ (r : Int32) (μ1 : Mem), B_nearest s1 μ = some (r, μ1) ∧ M_nearest s1 μ1 = some (r, μ2)
def St_47 (s1 : Int32) (s2 : Int32) (s3 : Int32) (s4 : Int32) (μ μ2 : Mem) : Prop := ∃ (r : Int32) (μ1 : Mem), B_lacking s1 s2 s3 s4 μ = some (r, μ1) ∧ M_lacking s1 s2 s3 s4 μ1 = some (r, μ2)
def St_48 (s1 : Int32) (s2 : Int32) (s3 : Int32) (μ μ2 : Mem) : Prop := ∃ (r : Int32) (μ1 : Mem), B_enough s1 s2 s3 μ = some (r, μ1) ∧ M_enough s1 s2 s3 μ1 = some (r, μ2)
def St_49 (s1 : Int32) (s2 : Int32) (s3 : Int32) (s4 : Int32) (μ μ2 : Mem) : Prop := ∃ (r : Int32) (μ1 : Mem), B_wasted s1 s2 s3 s4 μ = some (r, μ1) ∧ M_wasted s1 s2 s3 s4 μ1 = some (r, μ2)
def St_50 (s1 : Int32) (s2 : Int32) (s3 : Int32) (s4 : Int32) (μ μ2 : Mem) : Prop := ∃ (r : Int32) (μ1 : Mem), B_lean s1 s2 s3 s4 μ = some (r, μ1) ∧ M_lean s1 s2 s3 s4 μ1 = some (r, μ2)
def St_51 (s1 : Int32) (s2 : Int32) (s3 : Int32) (μ μ2 : Mem) : Prop := ∃ (r : Int32) (μ1 : Mem), B_softer s1 s2 s3 μ = some (r, μ1) ∧ M_softer s1 s2 s3 μ1 = some (r, μ2)
def St_52 (s1 : Int32) (s2 : Int32) (s3 : Int32) (μ μ2 : Mem) : Prop := ∃ (r : Int32) (μ1 : Mem), B_swapped s1 s2 s3 μ = some (r, μ1) ∧ M_swapped s1 s2 s3 μ1 = some (r, μ2)
def St_53 (s1 : Int32) (μ μ2 : Mem) : Prop := ∃ (r : Int32), B_count s1 μ = some r ∧ M_count s1 μ = some r ∧ μ2 = μ
set_option maxRecDepth 100000 in
set_option maxHeartbeats 4000000 in
theorem law_0 {p : Program} {l : Launch} {e : Env} {R : Room} {s : State} {m : MethodId} {args : Array Value} {below : List Frame} {meth : Method} {c : Code} {w : Wld} {Q : State → Prop} {kc ns : Nat} (G : Cxt p R s m args meth c w code 7 "PotBookLaw" 200 kc ns) {b N i : Nat} {xs : Nat → Int32} (hX : va_X b N xs s s.heap) (hbl : b < s.heap.size) (hbA : ¬ w.2.2.2 b) (hi : i + 7 ≤ N) (hN : N ≤ 3584) {μ μ2 : Mem} (h : St_0 (xs (i + 1)) (xs (i + 2)) (xs (i + 3)) (xs (i + 4)) (xs (i + 5)) μ μ2) (k : Vj p l e R s m args below meth c w 7 kc ns Q 2568 [some (.ref b), some (.ref (wad w 11 0)), some (.ref (wad w 12 0)), some (.ref (wad w 1400 0)), some (.int (nI i)), none, none] [] μ2) : Vj p l e R s m args below meth c w 7 kc ns Q 272 [some (.ref b), some (.ref (wad w 11 0)), some (.ref (wad w 12 0)), some (.ref (wad w 1400 0)), some (.int (nI i)), none, none] [] μ := by
  obtain ⟨r, μ1, h1, h2⟩ := h
  refine V_aload_n (i := 1) G eL_law_272 rfl rfl ?_
  refine V_aload_n (i := 0) G eL_law_273 rfl rfl ?_
  refine V_iload G eL_law_274 rfl ?_
  refine V_iconst (n := 1) (v := (nI 1)) G eL_law_276 rfl ?_
  refine V_iadd G eL_law_277 ?_
  refine V_scr (i := i + 1) G hX hbl hbA (nI_add i 1) (by omega) hN eL_law_278 ?_
  refine V_aload_n (i := 0) G eL_law_279 rfl rfl ?_
  refine V_iload G eL_law_280 rfl ?_
  refine V_iconst (n := 2) (v := (nI 2)) G eL_law_282 rfl ?_
  refine V_iadd G eL_law_283 ?_
  refine V_scr (i := i + 2) G hX hbl hbA (nI_add i 2) (by omega) hN eL_law_284 ?_
  refine V_aload_n (i := 0) G eL_law_285 rfl rfl ?_
  refine V_iload G eL_law_286 rfl ?_
  refine V_iconst (n := 3) (v := (nI 3)) G eL_law_288 rfl ?_
  refine V_iadd G eL_law_289 ?_
  refine V_scr (i := i + 3) G hX hbl hbA (nI_add i 3) (by omega) hN eL_law_290 ?_
  refine V_aload_n (i := 0) G eL_law_291 rfl rfl ?_
  refine V_iload G eL_law_292 rfl ?_
  refine V_iconst (n := 4) (v := (nI 4)) G eL_law_294 rfl ?_
  refine V_iadd G eL_law_295 ?_
  refine V_scr (i := i + 4) G hX hbl hbA (nI_add i 4) (by omega) hN eL_law_296 ?_
  refine V_aload_n (i := 0) G eL_law_297 rfl rfl ?_
  refine V_iload G eL_law_298 rfl ?_
  refine V_iconst (n := 5) (v := (nI 5)) G eL_law_300 rfl ?_
  refine V_iadd G eL_law_301 ?_
  refine V_scr (i := i + 5) G hX hbl hbA (nI_add i 5) (by omega) hN eL_law_302 ?_
  refine V_callI (As := [.int (xs (i + 1)), .int (xs (i + 2)), .int (xs (i + 3)), .int (xs (i + 4)), .int (xs (i + 5))]) (st := []) G lkL_19 (B_feed_ok h1) (by decide) rfl rfl (Nat.le_of_ble_eq_true rfl) eL_law_303 ?_
  refine V_aload_n (i := 2) G eL_law_306 rfl rfl ?_
  refine V_aload_n (i := 0) G eL_law_307 rfl rfl ?_
  refine V_iload G eL_law_308 rfl ?_
  refine V_iconst (n := 1) (v := (nI 1)) G eL_law_310 rfl ?_
  refine V_iadd G eL_law_311 ?_
  refine V_scr (i := i + 1) G hX hbl hbA (nI_add i 1) (by omega) hN eL_law_312 ?_
  refine V_aload_n (i := 0) G eL_law_313 rfl rfl ?_
  refine V_iload G eL_law_314 rfl ?_
  refine V_iconst (n := 2) (v := (nI 2)) G eL_law_316 rfl ?_
  refine V_iadd G eL_law_317 ?_
  refine V_scr (i := i + 2) G hX hbl hbA (nI_add i 2) (by omega) hN eL_law_318 ?_
  refine V_aload_n (i := 0) G eL_law_319 rfl rfl ?_
  refine V_iload G eL_law_320 rfl ?_
  refine V_iconst (n := 3) (v := (nI 3)) G eL_law_322 rfl ?_
  refine V_iadd G eL_law_323 ?_
  refine V_scr (i := i + 3) G hX hbl hbA (nI_add i 3) (by omega) hN eL_law_324 ?_
  refine V_aload_n (i := 0) G eL_law_325 rfl rfl ?_
  refine V_iload G eL_law_326 rfl ?_
  refine V_iconst (n := 4) (v := (nI 4)) G eL_law_328 rfl ?_
  refine V_iadd G eL_law_329 ?_
  refine V_scr (i := i + 4) G hX hbl hbA (nI_add i 4) (by omega) hN eL_law_330 ?_
  refine V_aload_n (i := 0) G eL_law_331 rfl rfl ?_
  refine V_iload G eL_law_332 rfl ?_
  refine V_iconst (n := 5) (v := (nI 5)) G eL_law_334 rfl ?_
  refine V_iadd G eL_law_335 ?_
  refine V_scr (i := i + 5) G hX hbl hbA (nI_add i 5) (by omega) hN eL_law_336 ?_
  refine V_callI (As := [.int (xs (i + 1)), .int (xs (i + 2)), .int (xs (i + 3)), .int (xs (i + 4)), .int (xs (i + 5))]) (st := [.int r]) G lkL_23 (M_feed_ok h2) (by decide) rfl rfl (Nat.le_of_ble_eq_true rfl) eL_law_337 ?_
  refine V_eqqT G eL_law_340 rfl ?_
  exact k
set_option maxRecDepth 100000 in
set_option maxHeartbeats 4000000 in
theorem law_1 {p : Program} {l : Launch} {e : Env} {R : Room} {s : State} {m : MethodId} {args : Array Value} {below : List Frame} {meth : Method} {c : Code} {w : Wld} {Q : State → Prop} {kc ns : Nat} (G : Cxt p R s m args meth c w code 7 "PotBookLaw" 200 kc ns) {b N i : Nat} {xs : Nat → Int32} (hX : va_X b N xs s s.heap) (hbl : b < s.heap.size) (hbA : ¬ w.2.2.2 b) (hi : i + 7 ≤ N) (hN : N ≤ 3584) {μ μ2 : Mem} (h : St_1 (xs (i + 1)) μ μ2) (k : Vj p l e R s m args below meth c w 7 kc ns Q 2568 [some (.ref b), some (.ref (wad w 11 0)), some (.ref (wad w 12 0)), some (.ref (wad w 1400 0)), some (.int (nI i)), none, none] [] μ2) : Vj p l e R s m args below meth c w 7 kc ns Q 345 [some (.ref b), some (.ref (wad w 11 0)), some (.ref (wad w 12 0)), some (.ref (wad w 1400 0)), some (.int (nI i)), none, none] [] μ := by
  obtain ⟨r, μ1, h1, h2⟩ := h
  refine V_aload_n (i := 1) G eL_law_345 rfl rfl ?_
  refine V_aload_n (i := 0) G eL_law_346 rfl rfl ?_
  refine V_iload G eL_law_347 rfl ?_
  refine V_iconst (n := 1) (v := (nI 1)) G eL_law_349 rfl ?_
  refine V_iadd G eL_law_350 ?_
  refine V_scr (i := i + 1) G hX hbl hbA (nI_add i 1) (by omega) hN eL_law_351 ?_
  refine V_callI (As := [.int (xs (i + 1))]) (st := []) G lkL_24 (B_end_ok h1) (by decide) rfl rfl (Nat.le_of_ble_eq_true rfl) eL_law_352 ?_
  refine V_aload_n (i := 2) G eL_law_355 rfl rfl ?_
  refine V_aload_n (i := 0) G eL_law_356 rfl rfl ?_
  refine V_iload G eL_law_357 rfl ?_
  refine V_iconst (n := 1) (v := (nI 1)) G eL_law_359 rfl ?_
  refine V_iadd G eL_law_360 ?_
  refine V_scr (i := i + 1) G hX hbl hbA (nI_add i 1) (by omega) hN eL_law_361 ?_
  refine V_callI (As := [.int (xs (i + 1))]) (st := [.int r]) G lkL_28 (M_end_ok h2) (by decide) rfl rfl (Nat.le_of_ble_eq_true rfl) eL_law_362 ?_
  refine V_eqqT G eL_law_365 rfl ?_
  exact k
set_option maxRecDepth 100000 in
set_option maxHeartbeats 4000000 in
theorem law_2 {p : Program} {l : Launch} {e : Env} {R : Room} {s : State} {m : MethodId} {args : Array Value} {below : List Frame} {meth : Method} {c : Code} {w : Wld} {Q : State → Prop} {kc ns : Nat} (G : Cxt p R s m args meth c w code 7 "PotBookLaw" 200 kc ns) {b N i : Nat} {xs : Nat → Int32} (hX : va_X b N xs s s.heap) (hbl : b < s.heap.size) (hbA : ¬ w.2.2.2 b) (hi : i + 7 ≤ N) (hN : N ≤ 3584) {μ μ2 : Mem} (h : St_2 (xs (i + 1)) μ μ2) (k : Vj p l e R s m args below meth c w 7 kc ns Q 2568 [some (.ref b), some (.ref (wad w 11 0)), some (.ref (wad w 12 0)), some (.ref (wad w 1400 0)), some (.int (nI i)), none, none] [] μ2) : Vj p l e R s m args below meth c w 7 kc ns Q 370 [some (.ref b), some (.ref (wad w 11 0)), some (.ref (wad w 12 0)), some (.ref (wad w 1400 0)), some (.int (nI i)), none, none] [] μ := by
  obtain ⟨r, μ1, h1, h2⟩ := h
  refine V_aload_n (i := 1) G eL_law_370 rfl rfl ?_
  refine V_aload_n (i := 0) G eL_law_371 rfl rfl ?_
  refine V_iload G eL_law_372 rfl ?_
  refine V_iconst (n := 1) (v := (nI 1)) G eL_law_374 rfl ?_
  refine V_iadd G eL_law_375 ?_
  refine V_scr (i := i + 1) G hX hbl hbA (nI_add i 1) (by omega) hN eL_law_376 ?_
  refine V_callI (As := [.int (xs (i + 1))]) (st := []) G lkL_29 (B_fault_ok h1) (by decide) rfl rfl (Nat.le_of_ble_eq_true rfl) eL_law_377 ?_
  refine V_aload_n (i := 2) G eL_law_380 rfl rfl ?_
  refine V_aload_n (i := 0) G eL_law_381 rfl rfl ?_
  refine V_iload G eL_law_382 rfl ?_
  refine V_iconst (n := 1) (v := (nI 1)) G eL_law_384 rfl ?_
  refine V_iadd G eL_law_385 ?_
  refine V_scr (i := i + 1) G hX hbl hbA (nI_add i 1) (by omega) hN eL_law_386 ?_
  refine V_callI (As := [.int (xs (i + 1))]) (st := [.int r]) G lkL_33 (M_fault_ok h2) (by decide) rfl rfl (Nat.le_of_ble_eq_true rfl) eL_law_387 ?_
  refine V_eqqT G eL_law_390 rfl ?_
  exact k
set_option maxRecDepth 100000 in
set_option maxHeartbeats 4000000 in
theorem law_3 {p : Program} {l : Launch} {e : Env} {R : Room} {s : State} {m : MethodId} {args : Array Value} {below : List Frame} {meth : Method} {c : Code} {w : Wld} {Q : State → Prop} {kc ns : Nat} (G : Cxt p R s m args meth c w code 7 "PotBookLaw" 200 kc ns) {b N i : Nat} {xs : Nat → Int32} (hX : va_X b N xs s s.heap) (hbl : b < s.heap.size) (hbA : ¬ w.2.2.2 b) (hi : i + 7 ≤ N) (hN : N ≤ 3584) {μ μ2 : Mem} (h : St_3 (xs (i + 1)) μ μ2) (k : Vj p l e R s m args below meth c w 7 kc ns Q 2568 [some (.ref b), some (.ref (wad w 11 0)), some (.ref (wad w 12 0)), some (.ref (wad w 1400 0)), some (.int (nI i)), none, none] [] μ2) : Vj p l e R s m args below meth c w 7 kc ns Q 395 [some (.ref b), some (.ref (wad w 11 0)), some (.ref (wad w 12 0)), some (.ref (wad w 1400 0)), some (.int (nI i)), none, none] [] μ := by
  obtain ⟨r, μ1, h1, h2⟩ := h
  refine V_aload_n (i := 1) G eL_law_395 rfl rfl ?_
  refine V_aload_n (i := 0) G eL_law_396 rfl rfl ?_
  refine V_iload G eL_law_397 rfl ?_
  refine V_iconst (n := 1) (v := (nI 1)) G eL_law_399 rfl ?_
  refine V_iadd G eL_law_400 ?_
  refine V_scr (i := i + 1) G hX hbl hbA (nI_add i 1) (by omega) hN eL_law_401 ?_
  refine V_callI (As := [.int (xs (i + 1))]) (st := []) G lkL_34 (B_text_ok h1) (by decide) rfl rfl (Nat.le_of_ble_eq_true rfl) eL_law_402 ?_
  refine V_aload_n (i := 2) G eL_law_405 rfl rfl ?_
  refine V_aload_n (i := 0) G eL_law_406 rfl rfl ?_
  refine V_iload G eL_law_407 rfl ?_
  refine V_iconst (n := 1) (v := (nI 1)) G eL_law_409 rfl ?_
  refine V_iadd G eL_law_410 ?_
  refine V_scr (i := i + 1) G hX hbl hbA (nI_add i 1) (by omega) hN eL_law_411 ?_
  refine V_callI (As := [.int (xs (i + 1))]) (st := [.int r]) G lkL_37 (M_text_ok h2) (by decide) rfl rfl (Nat.le_of_ble_eq_true rfl) eL_law_412 ?_
  refine V_eqqT G eL_law_415 rfl ?_
  exact k
set_option maxRecDepth 100000 in
set_option maxHeartbeats 4000000 in
theorem law_4 {p : Program} {l : Launch} {e : Env} {R : Room} {s : State} {m : MethodId} {args : Array Value} {below : List Frame} {meth : Method} {c : Code} {w : Wld} {Q : State → Prop} {kc ns : Nat} (G : Cxt p R s m args meth c w code 7 "PotBookLaw" 200 kc ns) {b N i : Nat} {xs : Nat → Int32} (hX : va_X b N xs s s.heap) (hbl : b < s.heap.size) (hbA : ¬ w.2.2.2 b) (hi : i + 7 ≤ N) (hN : N ≤ 3584) {μ μ2 : Mem} (h : St_4 (xs (i + 1)) (xs (i + 2)) (xs (i + 3)) (xs (i + 4)) (xs (i + 5)) (xs (i + 6)) μ μ2) (k : Vj p l e R s m args below meth c w 7 kc ns Q 2568 [some (.ref b), some (.ref (wad w 11 0)), some (.ref (wad w 12 0)), some (.ref (wad w 1400 0)), some (.int (nI i)), none, none] [] μ2) : Vj p l e R s m args below meth c w 7 kc ns Q 420 [some (.ref b), some (.ref (wad w 11 0)), some (.ref (wad w 12 0)), some (.ref (wad w 1400 0)), some (.int (nI i)), none, none] [] μ := by
  obtain ⟨r, μ1, h1, h2⟩ := h
  refine V_aload_n (i := 1) G eL_law_420 rfl rfl ?_
  refine V_aload_n (i := 0) G eL_law_421 rfl rfl ?_
  refine V_iload G eL_law_422 rfl ?_
  refine V_iconst (n := 1) (v := (nI 1)) G eL_law_424 rfl ?_
  refine V_iadd G eL_law_425 ?_
  refine V_scr (i := i + 1) G hX hbl hbA (nI_add i 1) (by omega) hN eL_law_426 ?_
  refine V_aload_n (i := 0) G eL_law_427 rfl rfl ?_
  refine V_iload G eL_law_428 rfl ?_
  refine V_iconst (n := 2) (v := (nI 2)) G eL_law_430 rfl ?_
  refine V_iadd G eL_law_431 ?_
  refine V_scr (i := i + 2) G hX hbl hbA (nI_add i 2) (by omega) hN eL_law_432 ?_
  refine V_aload_n (i := 0) G eL_law_433 rfl rfl ?_
  refine V_iload G eL_law_434 rfl ?_
  refine V_iconst (n := 3) (v := (nI 3)) G eL_law_436 rfl ?_
  refine V_iadd G eL_law_437 ?_
  refine V_scr (i := i + 3) G hX hbl hbA (nI_add i 3) (by omega) hN eL_law_438 ?_
  refine V_aload_n (i := 0) G eL_law_439 rfl rfl ?_
  refine V_iload G eL_law_440 rfl ?_
  refine V_iconst (n := 4) (v := (nI 4)) G eL_law_442 rfl ?_
  refine V_iadd G eL_law_443 ?_
  refine V_scr (i := i + 4) G hX hbl hbA (nI_add i 4) (by omega) hN eL_law_444 ?_
  by_cases z4 : xs (i + 4) = 0
  · rw [bz_t z4] at h1 h2
    refine V_eqT G eL_law_445 z4 ?_
    refine V_iconst (n := 0) (v := (nI 0)) G eL_law_452 rfl ?_
    refine V_aload_n (i := 0) G eL_law_453 rfl rfl ?_
    refine V_iload G eL_law_454 rfl ?_
    refine V_iconst (n := 5) (v := (nI 5)) G eL_law_456 rfl ?_
    refine V_iadd G eL_law_457 ?_
    refine V_scr (i := i + 5) G hX hbl hbA (nI_add i 5) (by omega) hN eL_law_458 ?_
    refine V_aload_n (i := 0) G eL_law_459 rfl rfl ?_
    refine V_iload G eL_law_460 rfl ?_
    refine V_bipush (n := 6) (v := (nI 6)) G eL_law_462 rfl ?_
    refine V_iadd G eL_law_464 ?_
    refine V_scr (i := i + 6) G hX hbl hbA (nI_add i 6) (by omega) hN eL_law_465 ?_
    refine V_callI (As := [.int (xs (i + 1)), .int (xs (i + 2)), .int (xs (i + 3)), .int (nI 0), .int (xs (i + 5)), .int (xs (i + 6))]) (st := []) G lkL_38 (B_thing_ok h1) (by decide) rfl rfl (Nat.le_of_ble_eq_true rfl) eL_law_466 ?_
    refine V_aload_n (i := 2) G eL_law_469 rfl rfl ?_
    refine V_aload_n (i := 0) G eL_law_470 rfl rfl ?_
    refine V_iload G eL_law_471 rfl ?_
    refine V_iconst (n := 1) (v := (nI 1)) G eL_law_473 rfl ?_
    refine V_iadd G eL_law_474 ?_
    refine V_scr (i := i + 1) G hX hbl hbA (nI_add i 1) (by omega) hN eL_law_475 ?_
    refine V_aload_n (i := 0) G eL_law_476 rfl rfl ?_
    refine V_iload G eL_law_477 rfl ?_
    refine V_iconst (n := 2) (v := (nI 2)) G eL_law_479 rfl ?_
    refine V_iadd G eL_law_480 ?_
    refine V_scr (i := i + 2) G hX hbl hbA (nI_add i 2) (by omega) hN eL_law_481 ?_
    refine V_aload_n (i := 0) G eL_law_482 rfl rfl ?_
    refine V_iload G eL_law_483 rfl ?_
    refine V_iconst (n := 3) (v := (nI 3)) G eL_law_485 rfl ?_
    refine V_iadd G eL_law_486 ?_
    refine V_scr (i := i + 3) G hX hbl hbA (nI_add i 3) (by omega) hN eL_law_487 ?_
    refine V_aload_n (i := 0) G eL_law_488 rfl rfl ?_
    refine V_iload G eL_law_489 rfl ?_
    refine V_iconst (n := 4) (v := (nI 4)) G eL_law_491 rfl ?_
    refine V_iadd G eL_law_492 ?_
    refine V_scr (i := i + 4) G hX hbl hbA (nI_add i 4) (by omega) hN eL_law_493 ?_
    refine V_eqT G eL_law_494 z4 ?_
    refine V_iconst (n := 0) (v := (nI 0)) G eL_law_501 rfl ?_
    refine V_aload_n (i := 0) G eL_law_502 rfl rfl ?_
    refine V_iload G eL_law_503 rfl ?_
    refine V_iconst (n := 5) (v := (nI 5)) G eL_law_505 rfl ?_
    refine V_iadd G eL_law_506 ?_
    refine V_scr (i := i + 5) G hX hbl hbA (nI_add i 5) (by omega) hN eL_law_507 ?_
    refine V_aload_n (i := 0) G eL_law_508 rfl rfl ?_
    refine V_iload G eL_law_509 rfl ?_
    refine V_bipush (n := 6) (v := (nI 6)) G eL_law_511 rfl ?_
    refine V_iadd G eL_law_513 ?_
    refine V_scr (i := i + 6) G hX hbl hbA (nI_add i 6) (by omega) hN eL_law_514 ?_
    refine V_callI (As := [.int (xs (i + 1)), .int (xs (i + 2)), .int (xs (i + 3)), .int (nI 0), .int (xs (i + 5)), .int (xs (i + 6))]) (st := [.int r]) G lkL_42 (M_thing_ok h2) (by decide) rfl rfl (Nat.le_of_ble_eq_true rfl) eL_law_515 ?_
    refine V_eqqT G eL_law_518 rfl ?_
    exact k
  · rw [bz_f z4] at h1 h2
    refine V_eqF G eL_law_445 z4 ?_
    refine V_iconst (n := 1) (v := (nI 1)) G eL_law_448 rfl ?_
    refine V_goto G eL_law_449 ?_
    refine V_aload_n (i := 0) G eL_law_453 rfl rfl ?_
    refine V_iload G eL_law_454 rfl ?_
    refine V_iconst (n := 5) (v := (nI 5)) G eL_law_456 rfl ?_
    refine V_iadd G eL_law_457 ?_
    refine V_scr (i := i + 5) G hX hbl hbA (nI_add i 5) (by omega) hN eL_law_458 ?_
    refine V_aload_n (i := 0) G eL_law_459 rfl rfl ?_
    refine V_iload G eL_law_460 rfl ?_
    refine V_bipush (n := 6) (v := (nI 6)) G eL_law_462 rfl ?_
    refine V_iadd G eL_law_464 ?_
    refine V_scr (i := i + 6) G hX hbl hbA (nI_add i 6) (by omega) hN eL_law_465 ?_
    refine V_callI (As := [.int (xs (i + 1)), .int (xs (i + 2)), .int (xs (i + 3)), .int (nI 1), .int (xs (i + 5)), .int (xs (i + 6))]) (st := []) G lkL_38 (B_thing_ok h1) (by decide) rfl rfl (Nat.le_of_ble_eq_true rfl) eL_law_466 ?_
    refine V_aload_n (i := 2) G eL_law_469 rfl rfl ?_
    refine V_aload_n (i := 0) G eL_law_470 rfl rfl ?_
    refine V_iload G eL_law_471 rfl ?_
    refine V_iconst (n := 1) (v := (nI 1)) G eL_law_473 rfl ?_
    refine V_iadd G eL_law_474 ?_
    refine V_scr (i := i + 1) G hX hbl hbA (nI_add i 1) (by omega) hN eL_law_475 ?_
    refine V_aload_n (i := 0) G eL_law_476 rfl rfl ?_
    refine V_iload G eL_law_477 rfl ?_
    refine V_iconst (n := 2) (v := (nI 2)) G eL_law_479 rfl ?_
    refine V_iadd G eL_law_480 ?_
    refine V_scr (i := i + 2) G hX hbl hbA (nI_add i 2) (by omega) hN eL_law_481 ?_
    refine V_aload_n (i := 0) G eL_law_482 rfl rfl ?_
    refine V_iload G eL_law_483 rfl ?_
    refine V_iconst (n := 3) (v := (nI 3)) G eL_law_485 rfl ?_
    refine V_iadd G eL_law_486 ?_
    refine V_scr (i := i + 3) G hX hbl hbA (nI_add i 3) (by omega) hN eL_law_487 ?_
    refine V_aload_n (i := 0) G eL_law_488 rfl rfl ?_
    refine V_iload G eL_law_489 rfl ?_
    refine V_iconst (n := 4) (v := (nI 4)) G eL_law_491 rfl ?_
    refine V_iadd G eL_law_492 ?_
    refine V_scr (i := i + 4) G hX hbl hbA (nI_add i 4) (by omega) hN eL_law_493 ?_
    refine V_eqF G eL_law_494 z4 ?_
    refine V_iconst (n := 1) (v := (nI 1)) G eL_law_497 rfl ?_
    refine V_goto G eL_law_498 ?_
    refine V_aload_n (i := 0) G eL_law_502 rfl rfl ?_
    refine V_iload G eL_law_503 rfl ?_
    refine V_iconst (n := 5) (v := (nI 5)) G eL_law_505 rfl ?_
    refine V_iadd G eL_law_506 ?_
    refine V_scr (i := i + 5) G hX hbl hbA (nI_add i 5) (by omega) hN eL_law_507 ?_
    refine V_aload_n (i := 0) G eL_law_508 rfl rfl ?_
    refine V_iload G eL_law_509 rfl ?_
    refine V_bipush (n := 6) (v := (nI 6)) G eL_law_511 rfl ?_
    refine V_iadd G eL_law_513 ?_
    refine V_scr (i := i + 6) G hX hbl hbA (nI_add i 6) (by omega) hN eL_law_514 ?_
    refine V_callI (As := [.int (xs (i + 1)), .int (xs (i + 2)), .int (xs (i + 3)), .int (nI 1), .int (xs (i + 5)), .int (xs (i + 6))]) (st := [.int r]) G lkL_42 (M_thing_ok h2) (by decide) rfl rfl (Nat.le_of_ble_eq_true rfl) eL_law_515 ?_
    refine V_eqqT G eL_law_518 rfl ?_
    exact k
set_option maxRecDepth 100000 in
set_option maxHeartbeats 4000000 in
theorem law_5 {p : Program} {l : Launch} {e : Env} {R : Room} {s : State} {m : MethodId} {args : Array Value} {below : List Frame} {meth : Method} {c : Code} {w : Wld} {Q : State → Prop} {kc ns : Nat} (G : Cxt p R s m args meth c w code 7 "PotBookLaw" 200 kc ns) {b N i : Nat} {xs : Nat → Int32} (hX : va_X b N xs s s.heap) (hbl : b < s.heap.size) (hbA : ¬ w.2.2.2 b) (hi : i + 7 ≤ N) (hN : N ≤ 3584) {μ μ2 : Mem} (h : St_5 (xs (i + 1)) (xs (i + 2)) (xs (i + 3)) μ μ2) (k : Vj p l e R s m args below meth c w 7 kc ns Q 2568 [some (.ref b), some (.ref (wad w 11 0)), some (.ref (wad w 12 0)), some (.ref (wad w 1400 0)), some (.int (nI i)), none, none] [] μ2) : Vj p l e R s m args below meth c w 7 kc ns Q 523 [some (.ref b), some (.ref (wad w 11 0)), some (.ref (wad w 12 0)), some (.ref (wad w 1400 0)), some (.int (nI i)), none, none] [] μ := by
  obtain ⟨r, μ1, h1, h2⟩ := h
  refine V_aload_n (i := 1) G eL_law_523 rfl rfl ?_
  refine V_aload_n (i := 0) G eL_law_524 rfl rfl ?_
  refine V_iload G eL_law_525 rfl ?_
  refine V_iconst (n := 1) (v := (nI 1)) G eL_law_527 rfl ?_
  refine V_iadd G eL_law_528 ?_
  refine V_scr (i := i + 1) G hX hbl hbA (nI_add i 1) (by omega) hN eL_law_529 ?_
  refine V_aload_n (i := 0) G eL_law_530 rfl rfl ?_
  refine V_iload G eL_law_531 rfl ?_
  refine V_iconst (n := 2) (v := (nI 2)) G eL_law_533 rfl ?_
  refine V_iadd G eL_law_534 ?_
  refine V_scr (i := i + 2) G hX hbl hbA (nI_add i 2) (by omega) hN eL_law_535 ?_
  refine V_aload_n (i := 0) G eL_law_536 rfl rfl ?_
  refine V_iload G eL_law_537 rfl ?_
  refine V_iconst (n := 3) (v := (nI 3)) G eL_law_539 rfl ?_
  refine V_iadd G eL_law_540 ?_
  refine V_scr (i := i + 3) G hX hbl hbA (nI_add i 3) (by omega) hN eL_law_541 ?_
  refine V_callI (As := [.int (xs (i + 1)), .int (xs (i + 2)), .int (xs (i + 3))]) (st := []) G lkL_43 (B_sized_ok h1) (by decide) rfl rfl (Nat.le_of_ble_eq_true rfl) eL_law_542 ?_
  refine V_aload_n (i := 2) G eL_law_545 rfl rfl ?_
  refine V_aload_n (i := 0) G eL_law_546 rfl rfl ?_
  refine V_iload G eL_law_547 rfl ?_
  refine V_iconst (n := 1) (v := (nI 1)) G eL_law_549 rfl ?_
  refine V_iadd G eL_law_550 ?_
  refine V_scr (i := i + 1) G hX hbl hbA (nI_add i 1) (by omega) hN eL_law_551 ?_
  refine V_aload_n (i := 0) G eL_law_552 rfl rfl ?_
  refine V_iload G eL_law_553 rfl ?_
  refine V_iconst (n := 2) (v := (nI 2)) G eL_law_555 rfl ?_
  refine V_iadd G eL_law_556 ?_
  refine V_scr (i := i + 2) G hX hbl hbA (nI_add i 2) (by omega) hN eL_law_557 ?_
  refine V_aload_n (i := 0) G eL_law_558 rfl rfl ?_
  refine V_iload G eL_law_559 rfl ?_
  refine V_iconst (n := 3) (v := (nI 3)) G eL_law_561 rfl ?_
  refine V_iadd G eL_law_562 ?_
  refine V_scr (i := i + 3) G hX hbl hbA (nI_add i 3) (by omega) hN eL_law_563 ?_
  refine V_callI (As := [.int (xs (i + 1)), .int (xs (i + 2)), .int (xs (i + 3))]) (st := [.int r]) G lkL_47 (M_sized_ok h2) (by decide) rfl rfl (Nat.le_of_ble_eq_true rfl) eL_law_564 ?_
  refine V_eqqT G eL_law_567 rfl ?_
  exact k
set_option maxRecDepth 100000 in
set_option maxHeartbeats 4000000 in
theorem law_6 {p : Program} {l : Launch} {e : Env} {R : Room} {s : State} {m : MethodId} {args : Array Value} {below : List Frame} {meth : Method} {c : Code} {w : Wld} {Q : State → Prop} {kc ns : Nat} (G : Cxt p R s m args meth c w code 7 "PotBookLaw" 200 kc ns) {b N i : Nat} {xs : Nat → Int32} (hX : va_X b N xs s s.heap) (hbl : b < s.heap.size) (hbA : ¬ w.2.2.2 b) (hi : i + 7 ≤ N) (hN : N ≤ 3584) {μ μ2 : Mem} (h : St_6 (xs (i + 1)) (xs (i + 2)) μ μ2) (k : Vj p l e R s m args below meth c w 7 kc ns Q 2568 [some (.ref b), some (.ref (wad w 11 0)), some (.ref (wad w 12 0)), some (.ref (wad w 1400 0)), some (.int (nI i)), none, none] [] μ2) : Vj p l e R s m args below meth c w 7 kc ns Q 572 [some (.ref b), some (.ref (wad w 11 0)), some (.ref (wad w 12 0)), some (.ref (wad w 1400 0)), some (.int (nI i)), none, none] [] μ := by
  obtain ⟨r, h1, h2, rfl⟩ := h
  refine V_aload_n (i := 1) G eL_law_572 rfl rfl ?_
  refine V_aload_n (i := 0) G eL_law_573 rfl rfl ?_
  refine V_iload G eL_law_574 rfl ?_
  refine V_iconst (n := 1) (v := (nI 1)) G eL_law_576 rfl ?_
  refine V_iadd G eL_law_577 ?_
  refine V_scr (i := i + 1) G hX hbl hbA (nI_add i 1) (by omega) hN eL_law_578 ?_
  refine V_aload_n (i := 0) G eL_law_579 rfl rfl ?_
  refine V_iload G eL_law_580 rfl ?_
  refine V_iconst (n := 2) (v := (nI 2)) G eL_law_582 rfl ?_
  refine V_iadd G eL_law_583 ?_
  refine V_scr (i := i + 2) G hX hbl hbA (nI_add i 2) (by omega) hN eL_law_584 ?_
  refine V_callI (As := [.int (xs (i + 1)), .int (xs (i + 2))]) (st := []) G lkL_48 (B_size_ok h1) (by decide) rfl rfl (Nat.le_of_ble_eq_true rfl) eL_law_585 ?_
  refine V_aload_n (i := 2) G eL_law_588 rfl rfl ?_
  refine V_aload_n (i := 0) G eL_law_589 rfl rfl ?_
  refine V_iload G eL_law_590 rfl ?_
  refine V_iconst (n := 1) (v := (nI 1)) G eL_law_592 rfl ?_
  refine V_iadd G eL_law_593 ?_
  refine V_scr (i := i + 1) G hX hbl hbA (nI_add i 1) (by omega) hN eL_law_594 ?_
  refine V_aload_n (i := 0) G eL_law_595 rfl rfl ?_
  refine V_iload G eL_law_596 rfl ?_
  refine V_iconst (n := 2) (v := (nI 2)) G eL_law_598 rfl ?_
  refine V_iadd G eL_law_599 ?_
  refine V_scr (i := i + 2) G hX hbl hbA (nI_add i 2) (by omega) hN eL_law_600 ?_
  refine V_callI (As := [.int (xs (i + 1)), .int (xs (i + 2))]) (st := [.int r]) G lkL_51 (M_size_ok h2) (by decide) rfl rfl (Nat.le_of_ble_eq_true rfl) eL_law_601 ?_
  refine V_eqqT G eL_law_604 rfl ?_
  exact k
set_option maxRecDepth 100000 in
set_option maxHeartbeats 4000000 in
theorem law_8 {p : Program} {l : Launch} {e : Env} {R : Room} {s : State} {m : MethodId} {args : Array Value} {below : List Frame} {meth : Method} {c : Code} {w : Wld} {Q : State → Prop} {kc ns : Nat} (G : Cxt p R s m args meth c w code 7 "PotBookLaw" 200 kc ns) {b N i : Nat} {xs : Nat → Int32} (hX : va_X b N xs s s.heap) (hbl : b < s.heap.size) (hbA : ¬ w.2.2.2 b) (hi : i + 7 ≤ N) (hN : N ≤ 3584) {μ μ2 : Mem} (h : St_8 (xs (i + 1)) μ μ2) (k : Vj p l e R s m args below meth c w 7 kc ns Q 2568 [some (.ref b), some (.ref (wad w 11 0)), some (.ref (wad w 12 0)), some (.ref (wad w 1400 0)), some (.int (nI i)), none, none] [] μ2) : Vj p l e R s m args below meth c w 7 kc ns Q 677 [some (.ref b), some (.ref (wad w 11 0)), some (.ref (wad w 12 0)), some (.ref (wad w 1400 0)), some (.int (nI i)), none, none] [] μ := by
  obtain ⟨r, μ1, h1, h2⟩ := h
  refine V_aload_n (i := 1) G eL_law_677 rfl rfl ?_
  refine V_aload_n (i := 0) G eL_law_678 rfl rfl ?_
  refine V_iload G eL_law_679 rfl ?_
  refine V_iconst (n := 1) (v := (nI 1)) G eL_law_681 rfl ?_
  refine V_iadd G eL_law_682 ?_
  refine V_scr (i := i + 1) G hX hbl hbA (nI_add i 1) (by omega) hN eL_law_683 ?_
  refine V_callI (As := [.int (xs (i + 1))]) (st := []) G lkL_62 (B_most_ok h1) (by decide) rfl rfl (Nat.le_of_ble_eq_true rfl) eL_law_684 ?_
  refine V_aload_n (i := 2) G eL_law_687 rfl rfl ?_
  refine V_aload_n (i := 0) G eL_law_688 rfl rfl ?_
  refine V_iload G eL_law_689 rfl ?_
  refine V_iconst (n := 1) (v := (nI 1)) G eL_law_691 rfl ?_
  refine V_iadd G eL_law_692 ?_
  refine V_scr (i := i + 1) G hX hbl hbA (nI_add i 1) (by omega) hN eL_law_693 ?_
  refine V_callI (As := [.int (xs (i + 1))]) (st := [.int r]) G lkL_65 (M_most_ok h2) (by decide) rfl rfl (Nat.le_of_ble_eq_true rfl) eL_law_694 ?_
  refine V_eqqT G eL_law_697 rfl ?_
  exact k
set_option maxRecDepth 100000 in
set_option maxHeartbeats 4000000 in
theorem law_9 {p : Program} {l : Launch} {e : Env} {R : Room} {s : State} {m : MethodId} {args : Array Value} {below : List Frame} {meth : Method} {c : Code} {w : Wld} {Q : State → Prop} {kc ns : Nat} (G : Cxt p R s m args meth c w code 7 "PotBookLaw" 200 kc ns) {b N i : Nat} {xs : Nat → Int32} (hX : va_X b N xs s s.heap) (hbl : b < s.heap.size) (hbA : ¬ w.2.2.2 b) (hi : i + 7 ≤ N) (hN : N ≤ 3584) {μ μ2 : Mem} (h : St_9 (xs (i + 1)) (xs (i + 2)) (xs (i + 3)) (xs (i + 4)) μ μ2) (k : Vj p l e R s m args below meth c w 7 kc ns Q 2568 [some (.ref b), some (.ref (wad w 11 0)), some (.ref (wad w 12 0)), some (.ref (wad w 1400 0)), some (.int (nI i)), none, none] [] μ2) : Vj p l e R s m args below meth c w 7 kc ns Q 702 [some (.ref b), some (.ref (wad w 11 0)), some (.ref (wad w 12 0)), some (.ref (wad w 1400 0)), some (.int (nI i)), none, none] [] μ := by
  obtain ⟨r, μ1, h1, h2⟩ := h
  refine V_aload_n (i := 1) G eL_law_702 rfl rfl ?_
  refine V_aload_n (i := 0) G eL_law_703 rfl rfl ?_
  refine V_iload G eL_law_704 rfl ?_
  refine V_iconst (n := 1) (v := (nI 1)) G eL_law_706 rfl ?_
  refine V_iadd G eL_law_707 ?_
  refine V_scr (i := i + 1) G hX hbl hbA (nI_add i 1) (by omega) hN eL_law_708 ?_
  refine V_aload_n (i := 0) G eL_law_709 rfl rfl ?_
  refine V_iload G eL_law_710 rfl ?_
  refine V_iconst (n := 2) (v := (nI 2)) G eL_law_712 rfl ?_
  refine V_iadd G eL_law_713 ?_
  refine V_scr (i := i + 2) G hX hbl hbA (nI_add i 2) (by omega) hN eL_law_714 ?_
  refine V_aload_n (i := 0) G eL_law_715 rfl rfl ?_
  refine V_iload G eL_law_716 rfl ?_
  refine V_iconst (n := 3) (v := (nI 3)) G eL_law_718 rfl ?_
  refine V_iadd G eL_law_719 ?_
  refine V_scr (i := i + 3) G hX hbl hbA (nI_add i 3) (by omega) hN eL_law_720 ?_
  refine V_aload_n (i := 0) G eL_law_721 rfl rfl ?_
  refine V_iload G eL_law_722 rfl ?_
  refine V_iconst (n := 4) (v := (nI 4)) G eL_law_724 rfl ?_
  refine V_iadd G eL_law_725 ?_
  refine V_scr (i := i + 4) G hX hbl hbA (nI_add i 4) (by omega) hN eL_law_726 ?_
  refine V_callI (As := [.int (xs (i + 1)), .int (xs (i + 2)), .int (xs (i + 3)), .int (xs (i + 4))]) (st := []) G lkL_66 (B_hold_ok h1) (by decide) rfl rfl (Nat.le_of_ble_eq_true rfl) eL_law_727 ?_
  refine V_aload_n (i := 2) G eL_law_730 rfl rfl ?_
  refine V_aload_n (i := 0) G eL_law_731 rfl rfl ?_
  refine V_iload G eL_law_732 rfl ?_
  refine V_iconst (n := 1) (v := (nI 1)) G eL_law_734 rfl ?_
  refine V_iadd G eL_law_735 ?_
  refine V_scr (i := i + 1) G hX hbl hbA (nI_add i 1) (by omega) hN eL_law_736 ?_
  refine V_aload_n (i := 0) G eL_law_737 rfl rfl ?_
  refine V_iload G eL_law_738 rfl ?_
  refine V_iconst (n := 2) (v := (nI 2)) G eL_law_740 rfl ?_
  refine V_iadd G eL_law_741 ?_
  refine V_scr (i := i + 2) G hX hbl hbA (nI_add i 2) (by omega) hN eL_law_742 ?_
  refine V_aload_n (i := 0) G eL_law_743 rfl rfl ?_
  refine V_iload G eL_law_744 rfl ?_
  refine V_iconst (n := 3) (v := (nI 3)) G eL_law_746 rfl ?_
  refine V_iadd G eL_law_747 ?_
  refine V_scr (i := i + 3) G hX hbl hbA (nI_add i 3) (by omega) hN eL_law_748 ?_
  refine V_aload_n (i := 0) G eL_law_749 rfl rfl ?_
  refine V_iload G eL_law_750 rfl ?_
  refine V_iconst (n := 4) (v := (nI 4)) G eL_law_752 rfl ?_
  refine V_iadd G eL_law_753 ?_
  refine V_scr (i := i + 4) G hX hbl hbA (nI_add i 4) (by omega) hN eL_law_754 ?_
  refine V_callI (As := [.int (xs (i + 1)), .int (xs (i + 2)), .int (xs (i + 3)), .int (xs (i + 4))]) (st := [.int r]) G lkL_70 (M_hold_ok h2) (by decide) rfl rfl (Nat.le_of_ble_eq_true rfl) eL_law_755 ?_
  refine V_eqqT G eL_law_758 rfl ?_
  exact k
set_option maxRecDepth 100000 in
set_option maxHeartbeats 4000000 in
theorem law_10 {p : Program} {l : Launch} {e : Env} {R : Room} {s : State} {m : MethodId} {args : Array Value} {below : List Frame} {meth : Method} {c : Code} {w : Wld} {Q : State → Prop} {kc ns : Nat} (G : Cxt p R s m args meth c w code 7 "PotBookLaw" 200 kc ns) {b N i : Nat} {xs : Nat → Int32} (hX : va_X b N xs s s.heap) (hbl : b < s.heap.size) (hbA : ¬ w.2.2.2 b) (hi : i + 7 ≤ N) (hN : N ≤ 3584) {μ μ2 : Mem} (h : St_10 (xs (i + 1)) μ μ2) (k : Vj p l e R s m args below meth c w 7 kc ns Q 2568 [some (.ref b), some (.ref (wad w 11 0)), some (.ref (wad w 12 0)), some (.ref (wad w 1400 0)), some (.int (nI i)), none, none] [] μ2) : Vj p l e R s m args below meth c w 7 kc ns Q 763 [some (.ref b), some (.ref (wad w 11 0)), some (.ref (wad w 12 0)), some (.ref (wad w 1400 0)), some (.int (nI i)), none, none] [] μ := by
  obtain ⟨r, μ1, h1, h2⟩ := h
  refine V_aload_n (i := 1) G eL_law_763 rfl rfl ?_
  refine V_aload_n (i := 0) G eL_law_764 rfl rfl ?_
  refine V_iload G eL_law_765 rfl ?_
  refine V_iconst (n := 1) (v := (nI 1)) G eL_law_767 rfl ?_
  refine V_iadd G eL_law_768 ?_
  refine V_scr (i := i + 1) G hX hbl hbA (nI_add i 1) (by omega) hN eL_law_769 ?_
  refine V_callI (As := [.int (xs (i + 1))]) (st := []) G lkL_71 (B_dishes_ok h1) (by decide) rfl rfl (Nat.le_of_ble_eq_true rfl) eL_law_770 ?_
  refine V_aload_n (i := 2) G eL_law_773 rfl rfl ?_
  refine V_aload_n (i := 0) G eL_law_774 rfl rfl ?_
  refine V_iload G eL_law_775 rfl ?_
  refine V_iconst (n := 1) (v := (nI 1)) G eL_law_777 rfl ?_
  refine V_iadd G eL_law_778 ?_
  refine V_scr (i := i + 1) G hX hbl hbA (nI_add i 1) (by omega) hN eL_law_779 ?_
  refine V_callI (As := [.int (xs (i + 1))]) (st := [.int r]) G lkL_74 (M_dishes_ok h2) (by decide) rfl rfl (Nat.le_of_ble_eq_true rfl) eL_law_780 ?_
  refine V_eqqT G eL_law_783 rfl ?_
  exact k
set_option maxRecDepth 100000 in
set_option maxHeartbeats 4000000 in
theorem law_11 {p : Program} {l : Launch} {e : Env} {R : Room} {s : State} {m : MethodId} {args : Array Value} {below : List Frame} {meth : Method} {c : Code} {w : Wld} {Q : State → Prop} {kc ns : Nat} (G : Cxt p R s m args meth c w code 7 "PotBookLaw" 200 kc ns) {b N i : Nat} {xs : Nat → Int32} (hX : va_X b N xs s s.heap) (hbl : b < s.heap.size) (hbA : ¬ w.2.2.2 b) (hi : i + 7 ≤ N) (hN : N ≤ 3584) {μ μ2 : Mem} (h : St_11 (xs (i + 1)) (xs (i + 2)) (xs (i + 3)) μ μ2) (k : Vj p l e R s m args below meth c w 7 kc ns Q 2568 [some (.ref b), some (.ref (wad w 11 0)), some (.ref (wad w 12 0)), some (.ref (wad w 1400 0)), some (.int (nI i)), none, none] [] μ2) : Vj p l e R s m args below meth c w 7 kc ns Q 788 [some (.ref b), some (.ref (wad w 11 0)), some (.ref (wad w 12 0)), some (.ref (wad w 1400 0)), some (.int (nI i)), none, none] [] μ := by
  obtain ⟨r, μ1, h1, h2⟩ := h
  refine V_aload_n (i := 1) G eL_law_788 rfl rfl ?_
  refine V_aload_n (i := 0) G eL_law_789 rfl rfl ?_
  refine V_iload G eL_law_790 rfl ?_
  refine V_iconst (n := 1) (v := (nI 1)) G eL_law_792 rfl ?_
  refine V_iadd G eL_law_793 ?_
  refine V_scr (i := i + 1) G hX hbl hbA (nI_add i 1) (by omega) hN eL_law_794 ?_
  refine V_aload_n (i := 0) G eL_law_795 rfl rfl ?_
  refine V_iload G eL_law_796 rfl ?_
  refine V_iconst (n := 2) (v := (nI 2)) G eL_law_798 rfl ?_
  refine V_iadd G eL_law_799 ?_
  refine V_scr (i := i + 2) G hX hbl hbA (nI_add i 2) (by omega) hN eL_law_800 ?_
  refine V_aload_n (i := 0) G eL_law_801 rfl rfl ?_
  refine V_iload G eL_law_802 rfl ?_
  refine V_iconst (n := 3) (v := (nI 3)) G eL_law_804 rfl ?_
  refine V_iadd G eL_law_805 ?_
  refine V_scr (i := i + 3) G hX hbl hbA (nI_add i 3) (by omega) hN eL_law_806 ?_
  refine V_callI (As := [.int (xs (i + 1)), .int (xs (i + 2)), .int (xs (i + 3))]) (st := []) G lkL_75 (B_dish_ok h1) (by decide) rfl rfl (Nat.le_of_ble_eq_true rfl) eL_law_807 ?_
  refine V_aload_n (i := 2) G eL_law_810 rfl rfl ?_
  refine V_aload_n (i := 0) G eL_law_811 rfl rfl ?_
  refine V_iload G eL_law_812 rfl ?_
  refine V_iconst (n := 1) (v := (nI 1)) G eL_law_814 rfl ?_
  refine V_iadd G eL_law_815 ?_
  refine V_scr (i := i + 1) G hX hbl hbA (nI_add i 1) (by omega) hN eL_law_816 ?_
  refine V_aload_n (i := 0) G eL_law_817 rfl rfl ?_
  refine V_iload G eL_law_818 rfl ?_
  refine V_iconst (n := 2) (v := (nI 2)) G eL_law_820 rfl ?_
  refine V_iadd G eL_law_821 ?_
  refine V_scr (i := i + 2) G hX hbl hbA (nI_add i 2) (by omega) hN eL_law_822 ?_
  refine V_aload_n (i := 0) G eL_law_823 rfl rfl ?_
  refine V_iload G eL_law_824 rfl ?_
  refine V_iconst (n := 3) (v := (nI 3)) G eL_law_826 rfl ?_
  refine V_iadd G eL_law_827 ?_
  refine V_scr (i := i + 3) G hX hbl hbA (nI_add i 3) (by omega) hN eL_law_828 ?_
  refine V_callI (As := [.int (xs (i + 1)), .int (xs (i + 2)), .int (xs (i + 3))]) (st := [.int r]) G lkL_78 (M_dish_ok h2) (by decide) rfl rfl (Nat.le_of_ble_eq_true rfl) eL_law_829 ?_
  refine V_eqqT G eL_law_832 rfl ?_
  exact k
set_option maxRecDepth 100000 in
set_option maxHeartbeats 4000000 in
theorem law_12 {p : Program} {l : Launch} {e : Env} {R : Room} {s : State} {m : MethodId} {args : Array Value} {below : List Frame} {meth : Method} {c : Code} {w : Wld} {Q : State → Prop} {kc ns : Nat} (G : Cxt p R s m args meth c w code 7 "PotBookLaw" 200 kc ns) {b N i : Nat} {xs : Nat → Int32} (hX : va_X b N xs s s.heap) (hbl : b < s.heap.size) (hbA : ¬ w.2.2.2 b) (hi : i + 7 ≤ N) (hN : N ≤ 3584) {μ μ2 : Mem} (h : St_12 (xs (i + 1)) (xs (i + 2)) (xs (i + 3)) μ μ2) (k : Vj p l e R s m args below meth c w 7 kc ns Q 2568 [some (.ref b), some (.ref (wad w 11 0)), some (.ref (wad w 12 0)), some (.ref (wad w 1400 0)), some (.int (nI i)), none, none] [] μ2) : Vj p l e R s m args below meth c w 7 kc ns Q 837 [some (.ref b), some (.ref (wad w 11 0)), some (.ref (wad w 12 0)), some (.ref (wad w 1400 0)), some (.int (nI i)), none, none] [] μ := by
  obtain ⟨r, μ1, h1, h2⟩ := h
  refine V_aload_n (i := 1) G eL_law_837 rfl rfl ?_
  refine V_aload_n (i := 0) G eL_law_838 rfl rfl ?_
  refine V_iload G eL_law_839 rfl ?_
  refine V_iconst (n := 1) (v := (nI 1)) G eL_law_841 rfl ?_
  refine V_iadd G eL_law_842 ?_
  refine V_scr (i := i + 1) G hX hbl hbA (nI_add i 1) (by omega) hN eL_law_843 ?_
  refine V_aload_n (i := 0) G eL_law_844 rfl rfl ?_
  refine V_iload G eL_law_845 rfl ?_
  refine V_iconst (n := 2) (v := (nI 2)) G eL_law_847 rfl ?_
  refine V_iadd G eL_law_848 ?_
  refine V_scr (i := i + 2) G hX hbl hbA (nI_add i 2) (by omega) hN eL_law_849 ?_
  refine V_aload_n (i := 0) G eL_law_850 rfl rfl ?_
  refine V_iload G eL_law_851 rfl ?_
  refine V_iconst (n := 3) (v := (nI 3)) G eL_law_853 rfl ?_
  refine V_iadd G eL_law_854 ?_
  refine V_scr (i := i + 3) G hX hbl hbA (nI_add i 3) (by omega) hN eL_law_855 ?_
  refine V_callI (As := [.int (xs (i + 1)), .int (xs (i + 2)), .int (xs (i + 3))]) (st := []) G lkL_79 (B_span_ok h1) (by decide) rfl rfl (Nat.le_of_ble_eq_true rfl) eL_law_856 ?_
  refine V_aload_n (i := 2) G eL_law_859 rfl rfl ?_
  refine V_aload_n (i := 0) G eL_law_860 rfl rfl ?_
  refine V_iload G eL_law_861 rfl ?_
  refine V_iconst (n := 1) (v := (nI 1)) G eL_law_863 rfl ?_
  refine V_iadd G eL_law_864 ?_
  refine V_scr (i := i + 1) G hX hbl hbA (nI_add i 1) (by omega) hN eL_law_865 ?_
  refine V_aload_n (i := 0) G eL_law_866 rfl rfl ?_
  refine V_iload G eL_law_867 rfl ?_
  refine V_iconst (n := 2) (v := (nI 2)) G eL_law_869 rfl ?_
  refine V_iadd G eL_law_870 ?_
  refine V_scr (i := i + 2) G hX hbl hbA (nI_add i 2) (by omega) hN eL_law_871 ?_
  refine V_aload_n (i := 0) G eL_law_872 rfl rfl ?_
  refine V_iload G eL_law_873 rfl ?_
  refine V_iconst (n := 3) (v := (nI 3)) G eL_law_875 rfl ?_
  refine V_iadd G eL_law_876 ?_
  refine V_scr (i := i + 3) G hX hbl hbA (nI_add i 3) (by omega) hN eL_law_877 ?_
  refine V_callI (As := [.int (xs (i + 1)), .int (xs (i + 2)), .int (xs (i + 3))]) (st := [.int r]) G lkL_82 (M_span_ok h2) (by decide) rfl rfl (Nat.le_of_ble_eq_true rfl) eL_law_878 ?_
  refine V_eqqT G eL_law_881 rfl ?_
  exact k
set_option maxRecDepth 100000 in
set_option maxHeartbeats 4000000 in
theorem law_13 {p : Program} {l : Launch} {e : Env} {R : Room} {s : State} {m : MethodId} {args : Array Value} {below : List Frame} {meth : Method} {c : Code} {w : Wld} {Q : State → Prop} {kc ns : Nat} (G : Cxt p R s m args meth c w code 7 "PotBookLaw" 200 kc ns) {b N i : Nat} {xs : Nat → Int32} (hX : va_X b N xs s s.heap) (hbl : b < s.heap.size) (hbA : ¬ w.2.2.2 b) (hi : i + 7 ≤ N) (hN : N ≤ 3584) {μ μ2 : Mem} (h : St_13 (xs (i + 1)) μ μ2) (k : Vj p l e R s m args below meth c w 7 kc ns Q 2568 [some (.ref b), some (.ref (wad w 11 0)), some (.ref (wad w 12 0)), some (.ref (wad w 1400 0)), some (.int (nI i)), none, none] [] μ2) : Vj p l e R s m args below meth c w 7 kc ns Q 886 [some (.ref b), some (.ref (wad w 11 0)), some (.ref (wad w 12 0)), some (.ref (wad w 1400 0)), some (.int (nI i)), none, none] [] μ := by
  obtain ⟨r, μ1, h1, h2⟩ := h
  refine V_aload_n (i := 1) G eL_law_886 rfl rfl ?_
  refine V_aload_n (i := 0) G eL_law_887 rfl rfl ?_
  refine V_iload G eL_law_888 rfl ?_
  refine V_iconst (n := 1) (v := (nI 1)) G eL_law_890 rfl ?_
  refine V_iadd G eL_law_891 ?_
  refine V_scr (i := i + 1) G hX hbl hbA (nI_add i 1) (by omega) hN eL_law_892 ?_
  refine V_callI (As := [.int (xs (i + 1))]) (st := []) G lkL_83 (B_shared_ok h1) (by decide) rfl rfl (Nat.le_of_ble_eq_true rfl) eL_law_893 ?_
  refine V_aload_n (i := 2) G eL_law_896 rfl rfl ?_
  refine V_aload_n (i := 0) G eL_law_897 rfl rfl ?_
  refine V_iload G eL_law_898 rfl ?_
  refine V_iconst (n := 1) (v := (nI 1)) G eL_law_900 rfl ?_
  refine V_iadd G eL_law_901 ?_
  refine V_scr (i := i + 1) G hX hbl hbA (nI_add i 1) (by omega) hN eL_law_902 ?_
  refine V_callI (As := [.int (xs (i + 1))]) (st := [.int r]) G lkL_86 (M_shared_ok h2) (by decide) rfl rfl (Nat.le_of_ble_eq_true rfl) eL_law_903 ?_
  refine V_eqqT G eL_law_906 rfl ?_
  exact k
set_option maxRecDepth 100000 in
set_option maxHeartbeats 4000000 in
theorem law_14 {p : Program} {l : Launch} {e : Env} {R : Room} {s : State} {m : MethodId} {args : Array Value} {below : List Frame} {meth : Method} {c : Code} {w : Wld} {Q : State → Prop} {kc ns : Nat} (G : Cxt p R s m args meth c w code 7 "PotBookLaw" 200 kc ns) {b N i : Nat} {xs : Nat → Int32} (hX : va_X b N xs s s.heap) (hbl : b < s.heap.size) (hbA : ¬ w.2.2.2 b) (hi : i + 7 ≤ N) (hN : N ≤ 3584) {μ μ2 : Mem} (h : St_14 (xs (i + 1)) (xs (i + 2)) (xs (i + 3)) μ μ2) (k : Vj p l e R s m args below meth c w 7 kc ns Q 2568 [some (.ref b), some (.ref (wad w 11 0)), some (.ref (wad w 12 0)), some (.ref (wad w 1400 0)), some (.int (nI i)), none, none] [] μ2) : Vj p l e R s m args below meth c w 7 kc ns Q 911 [some (.ref b), some (.ref (wad w 11 0)), some (.ref (wad w 12 0)), some (.ref (wad w 1400 0)), some (.int (nI i)), none, none] [] μ := by
  obtain ⟨r, μ1, h1, h2⟩ := h
  refine V_aload_n (i := 1) G eL_law_911 rfl rfl ?_
  refine V_aload_n (i := 0) G eL_law_912 rfl rfl ?_
  refine V_iload G eL_law_913 rfl ?_
  refine V_iconst (n := 1) (v := (nI 1)) G eL_law_915 rfl ?_
  refine V_iadd G eL_law_916 ?_
  refine V_scr (i := i + 1) G hX hbl hbA (nI_add i 1) (by omega) hN eL_law_917 ?_
  refine V_aload_n (i := 0) G eL_law_918 rfl rfl ?_
  refine V_iload G eL_law_919 rfl ?_
  refine V_iconst (n := 2) (v := (nI 2)) G eL_law_921 rfl ?_
  refine V_iadd G eL_law_922 ?_
  refine V_scr (i := i + 2) G hX hbl hbA (nI_add i 2) (by omega) hN eL_law_923 ?_
  refine V_aload_n (i := 0) G eL_law_924 rfl rfl ?_
  refine V_iload G eL_law_925 rfl ?_
  refine V_iconst (n := 3) (v := (nI 3)) G eL_law_927 rfl ?_
  refine V_iadd G eL_law_928 ?_
  refine V_scr (i := i + 3) G hX hbl hbA (nI_add i 3) (by omega) hN eL_law_929 ?_
  refine V_callI (As := [.int (xs (i + 1)), .int (xs (i + 2)), .int (xs (i + 3))]) (st := []) G lkL_87 (B_worth_ok h1) (by decide) rfl rfl (Nat.le_of_ble_eq_true rfl) eL_law_930 ?_
  refine V_aload_n (i := 2) G eL_law_933 rfl rfl ?_
  refine V_aload_n (i := 0) G eL_law_934 rfl rfl ?_
  refine V_iload G eL_law_935 rfl ?_
  refine V_iconst (n := 1) (v := (nI 1)) G eL_law_937 rfl ?_
  refine V_iadd G eL_law_938 ?_
  refine V_scr (i := i + 1) G hX hbl hbA (nI_add i 1) (by omega) hN eL_law_939 ?_
  refine V_aload_n (i := 0) G eL_law_940 rfl rfl ?_
  refine V_iload G eL_law_941 rfl ?_
  refine V_iconst (n := 2) (v := (nI 2)) G eL_law_943 rfl ?_
  refine V_iadd G eL_law_944 ?_
  refine V_scr (i := i + 2) G hX hbl hbA (nI_add i 2) (by omega) hN eL_law_945 ?_
  refine V_aload_n (i := 0) G eL_law_946 rfl rfl ?_
  refine V_iload G eL_law_947 rfl ?_
  refine V_iconst (n := 3) (v := (nI 3)) G eL_law_949 rfl ?_
  refine V_iadd G eL_law_950 ?_
  refine V_scr (i := i + 3) G hX hbl hbA (nI_add i 3) (by omega) hN eL_law_951 ?_
  refine V_callI (As := [.int (xs (i + 1)), .int (xs (i + 2)), .int (xs (i + 3))]) (st := [.int r]) G lkL_90 (M_worth_ok h2) (by decide) rfl rfl (Nat.le_of_ble_eq_true rfl) eL_law_952 ?_
  refine V_eqqT G eL_law_955 rfl ?_
  exact k
set_option maxRecDepth 100000 in
set_option maxHeartbeats 4000000 in
theorem law_15 {p : Program} {l : Launch} {e : Env} {R : Room} {s : State} {m : MethodId} {args : Array Value} {below : List Frame} {meth : Method} {c : Code} {w : Wld} {Q : State → Prop} {kc ns : Nat} (G : Cxt p R s m args meth c w code 7 "PotBookLaw" 200 kc ns) {b N i : Nat} {xs : Nat → Int32} (hX : va_X b N xs s s.heap) (hbl : b < s.heap.size) (hbA : ¬ w.2.2.2 b) (hi : i + 7 ≤ N) (hN : N ≤ 3584) {μ μ2 : Mem} (h : St_15 (xs (i + 1)) (xs (i + 2)) (xs (i + 3)) μ μ2) (k : Vj p l e R s m args below meth c w 7 kc ns Q 2568 [some (.ref b), some (.ref (wad w 11 0)), some (.ref (wad w 12 0)), some (.ref (wad w 1400 0)), some (.int (nI i)), none, none] [] μ2) : Vj p l e R s m args below meth c w 7 kc ns Q 960 [some (.ref b), some (.ref (wad w 11 0)), some (.ref (wad w 12 0)), some (.ref (wad w 1400 0)), some (.int (nI i)), none, none] [] μ := by
  obtain ⟨r, μ1, h1, h2⟩ := h
  refine V_aload_n (i := 1) G eL_law_960 rfl rfl ?_
  refine V_aload_n (i := 0) G eL_law_961 rfl rfl ?_
  refine V_iload G eL_law_962 rfl ?_
  refine V_iconst (n := 1) (v := (nI 1)) G eL_law_964 rfl ?_
  refine V_iadd G eL_law_965 ?_
  refine V_scr (i := i + 1) G hX hbl hbA (nI_add i 1) (by omega) hN eL_law_966 ?_
  refine V_aload_n (i := 0) G eL_law_967 rfl rfl ?_
  refine V_iload G eL_law_968 rfl ?_
  refine V_iconst (n := 2) (v := (nI 2)) G eL_law_970 rfl ?_
  refine V_iadd G eL_law_971 ?_
  refine V_scr (i := i + 2) G hX hbl hbA (nI_add i 2) (by omega) hN eL_law_972 ?_
  refine V_aload_n (i := 0) G eL_law_973 rfl rfl ?_
  refine V_iload G eL_law_974 rfl ?_
  refine V_iconst (n := 3) (v := (nI 3)) G eL_law_976 rfl ?_
  refine V_iadd G eL_law_977 ?_
  refine V_scr (i := i + 3) G hX hbl hbA (nI_add i 3) (by omega) hN eL_law_978 ?_
  refine V_callI (As := [.int (xs (i + 1)), .int (xs (i + 2)), .int (xs (i + 3))]) (st := []) G lkL_91 (B_range_ok h1) (by decide) rfl rfl (Nat.le_of_ble_eq_true rfl) eL_law_979 ?_
  refine V_aload_n (i := 2) G eL_law_982 rfl rfl ?_
  refine V_aload_n (i := 0) G eL_law_983 rfl rfl ?_
  refine V_iload G eL_law_984 rfl ?_
  refine V_iconst (n := 1) (v := (nI 1)) G eL_law_986 rfl ?_
  refine V_iadd G eL_law_987 ?_
  refine V_scr (i := i + 1) G hX hbl hbA (nI_add i 1) (by omega) hN eL_law_988 ?_
  refine V_aload_n (i := 0) G eL_law_989 rfl rfl ?_
  refine V_iload G eL_law_990 rfl ?_
  refine V_iconst (n := 2) (v := (nI 2)) G eL_law_992 rfl ?_
  refine V_iadd G eL_law_993 ?_
  refine V_scr (i := i + 2) G hX hbl hbA (nI_add i 2) (by omega) hN eL_law_994 ?_
  refine V_aload_n (i := 0) G eL_law_995 rfl rfl ?_
  refine V_iload G eL_law_996 rfl ?_
  refine V_iconst (n := 3) (v := (nI 3)) G eL_law_998 rfl ?_
  refine V_iadd G eL_law_999 ?_
  refine V_scr (i := i + 3) G hX hbl hbA (nI_add i 3) (by omega) hN eL_law_1000 ?_
  refine V_callI (As := [.int (xs (i + 1)), .int (xs (i + 2)), .int (xs (i + 3))]) (st := [.int r]) G lkL_94 (M_range_ok h2) (by decide) rfl rfl (Nat.le_of_ble_eq_true rfl) eL_law_1001 ?_
  refine V_eqqT G eL_law_1004 rfl ?_
  exact k
set_option maxRecDepth 100000 in
set_option maxHeartbeats 4000000 in
theorem law_16 {p : Program} {l : Launch} {e : Env} {R : Room} {s : State} {m : MethodId} {args : Array Value} {below : List Frame} {meth : Method} {c : Code} {w : Wld} {Q : State → Prop} {kc ns : Nat} (G : Cxt p R s m args meth c w code 7 "PotBookLaw" 200 kc ns) {b N i : Nat} {xs : Nat → Int32} (hX : va_X b N xs s s.heap) (hbl : b < s.heap.size) (hbA : ¬ w.2.2.2 b) (hi : i + 7 ≤ N) (hN : N ≤ 3584) {μ μ2 : Mem} (h : St_16 (xs (i + 1)) μ μ2) (k : Vj p l e R s m args below meth c w 7 kc ns Q 2568 [some (.ref b), some (.ref (wad w 11 0)), some (.ref (wad w 12 0)), some (.ref (wad w 1400 0)), some (.int (nI i)), none, none] [] μ2) : Vj p l e R s m args below meth c w 7 kc ns Q 1009 [some (.ref b), some (.ref (wad w 11 0)), some (.ref (wad w 12 0)), some (.ref (wad w 1400 0)), some (.int (nI i)), none, none] [] μ := by
  obtain ⟨r, μ1, h1, h2⟩ := h
  refine V_aload_n (i := 1) G eL_law_1009 rfl rfl ?_
  refine V_aload_n (i := 0) G eL_law_1010 rfl rfl ?_
  refine V_iload G eL_law_1011 rfl ?_
  refine V_iconst (n := 1) (v := (nI 1)) G eL_law_1013 rfl ?_
  refine V_iadd G eL_law_1014 ?_
  refine V_scr (i := i + 1) G hX hbl hbA (nI_add i 1) (by omega) hN eL_law_1015 ?_
  refine V_callI (As := [.int (xs (i + 1))]) (st := []) G lkL_95 (B_weigh_ok h1) (by decide) rfl rfl (Nat.le_of_ble_eq_true rfl) eL_law_1016 ?_
  refine V_aload_n (i := 2) G eL_law_1019 rfl rfl ?_
  refine V_aload_n (i := 0) G eL_law_1020 rfl rfl ?_
  refine V_iload G eL_law_1021 rfl ?_
  refine V_iconst (n := 1) (v := (nI 1)) G eL_law_1023 rfl ?_
  refine V_iadd G eL_law_1024 ?_
  refine V_scr (i := i + 1) G hX hbl hbA (nI_add i 1) (by omega) hN eL_law_1025 ?_
  refine V_callI (As := [.int (xs (i + 1))]) (st := [.int r]) G lkL_98 (M_weigh_ok h2) (by decide) rfl rfl (Nat.le_of_ble_eq_true rfl) eL_law_1026 ?_
  refine V_eqqT G eL_law_1029 rfl ?_
  exact k
set_option maxRecDepth 100000 in
set_option maxHeartbeats 4000000 in
theorem law_17 {p : Program} {l : Launch} {e : Env} {R : Room} {s : State} {m : MethodId} {args : Array Value} {below : List Frame} {meth : Method} {c : Code} {w : Wld} {Q : State → Prop} {kc ns : Nat} (G : Cxt p R s m args meth c w code 7 "PotBookLaw" 200 kc ns) {b N i : Nat} {xs : Nat → Int32} (hX : va_X b N xs s s.heap) (hbl : b < s.heap.size) (hbA : ¬ w.2.2.2 b) (hi : i + 7 ≤ N) (hN : N ≤ 3584) {μ μ2 : Mem} (h : St_17 (xs (i + 1)) (xs (i + 2)) (xs (i + 3)) μ μ2) (k : Vj p l e R s m args below meth c w 7 kc ns Q 2568 [some (.ref b), some (.ref (wad w 11 0)), some (.ref (wad w 12 0)), some (.ref (wad w 1400 0)), some (.int (nI i)), none, none] [] μ2) : Vj p l e R s m args below meth c w 7 kc ns Q 1034 [some (.ref b), some (.ref (wad w 11 0)), some (.ref (wad w 12 0)), some (.ref (wad w 1400 0)), some (.int (nI i)), none, none] [] μ := by
  obtain ⟨r, μ1, h1, h2⟩ := h
  refine V_aload_n (i := 1) G eL_law_1034 rfl rfl ?_
  refine V_aload_n (i := 0) G eL_law_1035 rfl rfl ?_
  refine V_iload G eL_law_1036 rfl ?_
  refine V_iconst (n := 1) (v := (nI 1)) G eL_law_1038 rfl ?_
  refine V_iadd G eL_law_1039 ?_
  refine V_scr (i := i + 1) G hX hbl hbA (nI_add i 1) (by omega) hN eL_law_1040 ?_
  refine V_aload_n (i := 0) G eL_law_1041 rfl rfl ?_
  refine V_iload G eL_law_1042 rfl ?_
  refine V_iconst (n := 2) (v := (nI 2)) G eL_law_1044 rfl ?_
  refine V_iadd G eL_law_1045 ?_
  refine V_scr (i := i + 2) G hX hbl hbA (nI_add i 2) (by omega) hN eL_law_1046 ?_
  refine V_aload_n (i := 0) G eL_law_1047 rfl rfl ?_
  refine V_iload G eL_law_1048 rfl ?_
  refine V_iconst (n := 3) (v := (nI 3)) G eL_law_1050 rfl ?_
  refine V_iadd G eL_law_1051 ?_
  refine V_scr (i := i + 3) G hX hbl hbA (nI_add i 3) (by omega) hN eL_law_1052 ?_
  by_cases z3 : xs (i + 3) = 0
  · rw [bz_t z3] at h1 h2
    refine V_eqT G eL_law_1053 z3 ?_
    refine V_iconst (n := 0) (v := (nI 0)) G eL_law_1060 rfl ?_
    refine V_callI (As := [.int (xs (i + 1)), .int (xs (i + 2)), .int (nI 0)]) (st := []) G lkL_99 (B_trial_ok h1) (by decide) rfl rfl (Nat.le_of_ble_eq_true rfl) eL_law_1061 ?_
    refine V_aload_n (i := 2) G eL_law_1064 rfl rfl ?_
    refine V_aload_n (i := 0) G eL_law_1065 rfl rfl ?_
    refine V_iload G eL_law_1066 rfl ?_
    refine V_iconst (n := 1) (v := (nI 1)) G eL_law_1068 rfl ?_
    refine V_iadd G eL_law_1069 ?_
    refine V_scr (i := i + 1) G hX hbl hbA (nI_add i 1) (by omega) hN eL_law_1070 ?_
    refine V_aload_n (i := 0) G eL_law_1071 rfl rfl ?_
    refine V_iload G eL_law_1072 rfl ?_
    refine V_iconst (n := 2) (v := (nI 2)) G eL_law_1074 rfl ?_
    refine V_iadd G eL_law_1075 ?_
    refine V_scr (i := i + 2) G hX hbl hbA (nI_add i 2) (by omega) hN eL_law_1076 ?_
    refine V_aload_n (i := 0) G eL_law_1077 rfl rfl ?_
    refine V_iload G eL_law_1078 rfl ?_
    refine V_iconst (n := 3) (v := (nI 3)) G eL_law_1080 rfl ?_
    refine V_iadd G eL_law_1081 ?_
    refine V_scr (i := i + 3) G hX hbl hbA (nI_add i 3) (by omega) hN eL_law_1082 ?_
    refine V_eqT G eL_law_1083 z3 ?_
    refine V_iconst (n := 0) (v := (nI 0)) G eL_law_1090 rfl ?_
    refine V_callI (As := [.int (xs (i + 1)), .int (xs (i + 2)), .int (nI 0)]) (st := [.int r]) G lkL_103 (M_trial_ok h2) (by decide) rfl rfl (Nat.le_of_ble_eq_true rfl) eL_law_1091 ?_
    refine V_eqqT G eL_law_1094 rfl ?_
    exact k
  · rw [bz_f z3] at h1 h2
    refine V_eqF G eL_law_1053 z3 ?_
    refine V_iconst (n := 1) (v := (nI 1)) G eL_law_1056 rfl ?_
    refine V_goto G eL_law_1057 ?_
    refine V_callI (As := [.int (xs (i + 1)), .int (xs (i + 2)), .int (nI 1)]) (st := []) G lkL_99 (B_trial_ok h1) (by decide) rfl rfl (Nat.le_of_ble_eq_true rfl) eL_law_1061 ?_
    refine V_aload_n (i := 2) G eL_law_1064 rfl rfl ?_
    refine V_aload_n (i := 0) G eL_law_1065 rfl rfl ?_
    refine V_iload G eL_law_1066 rfl ?_
    refine V_iconst (n := 1) (v := (nI 1)) G eL_law_1068 rfl ?_
    refine V_iadd G eL_law_1069 ?_
    refine V_scr (i := i + 1) G hX hbl hbA (nI_add i 1) (by omega) hN eL_law_1070 ?_
    refine V_aload_n (i := 0) G eL_law_1071 rfl rfl ?_
    refine V_iload G eL_law_1072 rfl ?_
    refine V_iconst (n := 2) (v := (nI 2)) G eL_law_1074 rfl ?_
    refine V_iadd G eL_law_1075 ?_
    refine V_scr (i := i + 2) G hX hbl hbA (nI_add i 2) (by omega) hN eL_law_1076 ?_
    refine V_aload_n (i := 0) G eL_law_1077 rfl rfl ?_
    refine V_iload G eL_law_1078 rfl ?_
    refine V_iconst (n := 3) (v := (nI 3)) G eL_law_1080 rfl ?_
    refine V_iadd G eL_law_1081 ?_
    refine V_scr (i := i + 3) G hX hbl hbA (nI_add i 3) (by omega) hN eL_law_1082 ?_
    refine V_eqF G eL_law_1083 z3 ?_
    refine V_iconst (n := 1) (v := (nI 1)) G eL_law_1086 rfl ?_
    refine V_goto G eL_law_1087 ?_
    refine V_callI (As := [.int (xs (i + 1)), .int (xs (i + 2)), .int (nI 1)]) (st := [.int r]) G lkL_103 (M_trial_ok h2) (by decide) rfl rfl (Nat.le_of_ble_eq_true rfl) eL_law_1091 ?_
    refine V_eqqT G eL_law_1094 rfl ?_
    exact k
set_option maxRecDepth 100000 in
set_option maxHeartbeats 4000000 in
theorem law_18 {p : Program} {l : Launch} {e : Env} {R : Room} {s : State} {m : MethodId} {args : Array Value} {below : List Frame} {meth : Method} {c : Code} {w : Wld} {Q : State → Prop} {kc ns : Nat} (G : Cxt p R s m args meth c w code 7 "PotBookLaw" 200 kc ns) {b N i : Nat} {xs : Nat → Int32} (hX : va_X b N xs s s.heap) (hbl : b < s.heap.size) (hbA : ¬ w.2.2.2 b) (hi : i + 7 ≤ N) (hN : N ≤ 3584) {μ μ2 : Mem} (h : St_18 (xs (i + 1)) (xs (i + 2)) (xs (i + 3)) μ μ2) (k : Vj p l e R s m args below meth c w 7 kc ns Q 2568 [some (.ref b), some (.ref (wad w 11 0)), some (.ref (wad w 12 0)), some (.ref (wad w 1400 0)), some (.int (nI i)), none, none] [] μ2) : Vj p l e R s m args below meth c w 7 kc ns Q 1099 [some (.ref b), some (.ref (wad w 11 0)), some (.ref (wad w 12 0)), some (.ref (wad w 1400 0)), some (.int (nI i)), none, none] [] μ := by
  obtain ⟨r, μ1, h1, h2⟩ := h
  refine V_aload_n (i := 1) G eL_law_1099 rfl rfl ?_
  refine V_aload_n (i := 0) G eL_law_1100 rfl rfl ?_
  refine V_iload G eL_law_1101 rfl ?_
  refine V_iconst (n := 1) (v := (nI 1)) G eL_law_1103 rfl ?_
  refine V_iadd G eL_law_1104 ?_
  refine V_scr (i := i + 1) G hX hbl hbA (nI_add i 1) (by omega) hN eL_law_1105 ?_
  refine V_aload_n (i := 0) G eL_law_1106 rfl rfl ?_
  refine V_iload G eL_law_1107 rfl ?_
  refine V_iconst (n := 2) (v := (nI 2)) G eL_law_1109 rfl ?_
  refine V_iadd G eL_law_1110 ?_
  refine V_scr (i := i + 2) G hX hbl hbA (nI_add i 2) (by omega) hN eL_law_1111 ?_
  refine V_aload_n (i := 0) G eL_law_1112 rfl rfl ?_
  refine V_iload G eL_law_1113 rfl ?_
  refine V_iconst (n := 3) (v := (nI 3)) G eL_law_1115 rfl ?_
  refine V_iadd G eL_law_1116 ?_
  refine V_scr (i := i + 3) G hX hbl hbA (nI_add i 3) (by omega) hN eL_law_1117 ?_
  refine V_callI (As := [.int (xs (i + 1)), .int (xs (i + 2)), .int (xs (i + 3))]) (st := []) G lkL_104 (B_stands_ok h1) (by decide) rfl rfl (Nat.le_of_ble_eq_true rfl) eL_law_1118 ?_
  refine V_aload_n (i := 2) G eL_law_1121 rfl rfl ?_
  refine V_aload_n (i := 0) G eL_law_1122 rfl rfl ?_
  refine V_iload G eL_law_1123 rfl ?_
  refine V_iconst (n := 1) (v := (nI 1)) G eL_law_1125 rfl ?_
  refine V_iadd G eL_law_1126 ?_
  refine V_scr (i := i + 1) G hX hbl hbA (nI_add i 1) (by omega) hN eL_law_1127 ?_
  refine V_aload_n (i := 0) G eL_law_1128 rfl rfl ?_
  refine V_iload G eL_law_1129 rfl ?_
  refine V_iconst (n := 2) (v := (nI 2)) G eL_law_1131 rfl ?_
  refine V_iadd G eL_law_1132 ?_
  refine V_scr (i := i + 2) G hX hbl hbA (nI_add i 2) (by omega) hN eL_law_1133 ?_
  refine V_aload_n (i := 0) G eL_law_1134 rfl rfl ?_
  refine V_iload G eL_law_1135 rfl ?_
  refine V_iconst (n := 3) (v := (nI 3)) G eL_law_1137 rfl ?_
  refine V_iadd G eL_law_1138 ?_
  refine V_scr (i := i + 3) G hX hbl hbA (nI_add i 3) (by omega) hN eL_law_1139 ?_
  refine V_callI (As := [.int (xs (i + 1)), .int (xs (i + 2)), .int (xs (i + 3))]) (st := [.int r]) G lkL_107 (M_stands_ok h2) (by decide) rfl rfl (Nat.le_of_ble_eq_true rfl) eL_law_1140 ?_
  refine V_eqqT G eL_law_1143 rfl ?_
  exact k
set_option maxRecDepth 100000 in
set_option maxHeartbeats 4000000 in
theorem law_19 {p : Program} {l : Launch} {e : Env} {R : Room} {s : State} {m : MethodId} {args : Array Value} {below : List Frame} {meth : Method} {c : Code} {w : Wld} {Q : State → Prop} {kc ns : Nat} (G : Cxt p R s m args meth c w code 7 "PotBookLaw" 200 kc ns) {b N i : Nat} {xs : Nat → Int32} (hX : va_X b N xs s s.heap) (hbl : b < s.heap.size) (hbA : ¬ w.2.2.2 b) (hi : i + 7 ≤ N) (hN : N ≤ 3584) {μ μ2 : Mem} (h : St_19 (xs (i + 1)) (xs (i + 2)) (xs (i + 3)) μ μ2) (k : Vj p l e R s m args below meth c w 7 kc ns Q 2568 [some (.ref b), some (.ref (wad w 11 0)), some (.ref (wad w 12 0)), some (.ref (wad w 1400 0)), some (.int (nI i)), none, none] [] μ2) : Vj p l e R s m args below meth c w 7 kc ns Q 1148 [some (.ref b), some (.ref (wad w 11 0)), some (.ref (wad w 12 0)), some (.ref (wad w 1400 0)), some (.int (nI i)), none, none] [] μ := by
  obtain ⟨r, μ1, h1, h2⟩ := h
  refine V_aload_n (i := 1) G eL_law_1148 rfl rfl ?_
  refine V_aload_n (i := 0) G eL_law_1149 rfl rfl ?_
  refine V_iload G eL_law_1150 rfl ?_
  refine V_iconst (n := 1) (v := (nI 1)) G eL_law_1152 rfl ?_
  refine V_iadd G eL_law_1153 ?_
  refine V_scr (i := i + 1) G hX hbl hbA (nI_add i 1) (by omega) hN eL_law_1154 ?_
  refine V_aload_n (i := 0) G eL_law_1155 rfl rfl ?_
  refine V_iload G eL_law_1156 rfl ?_
  refine V_iconst (n := 2) (v := (nI 2)) G eL_law_1158 rfl ?_
  refine V_iadd G eL_law_1159 ?_
  refine V_scr (i := i + 2) G hX hbl hbA (nI_add i 2) (by omega) hN eL_law_1160 ?_
  refine V_aload_n (i := 0) G eL_law_1161 rfl rfl ?_
  refine V_iload G eL_law_1162 rfl ?_
  refine V_iconst (n := 3) (v := (nI 3)) G eL_law_1164 rfl ?_
  refine V_iadd G eL_law_1165 ?_
  refine V_scr (i := i + 3) G hX hbl hbA (nI_add i 3) (by omega) hN eL_law_1166 ?_
  refine V_callI (As := [.int (xs (i + 1)), .int (xs (i + 2)), .int (xs (i + 3))]) (st := []) G lkL_108 (B_stand_ok h1) (by decide) rfl rfl (Nat.le_of_ble_eq_true rfl) eL_law_1167 ?_
  refine V_aload_n (i := 2) G eL_law_1170 rfl rfl ?_
  refine V_aload_n (i := 0) G eL_law_1171 rfl rfl ?_
  refine V_iload G eL_law_1172 rfl ?_
  refine V_iconst (n := 1) (v := (nI 1)) G eL_law_1174 rfl ?_
  refine V_iadd G eL_law_1175 ?_
  refine V_scr (i := i + 1) G hX hbl hbA (nI_add i 1) (by omega) hN eL_law_1176 ?_
  refine V_aload_n (i := 0) G eL_law_1177 rfl rfl ?_
  refine V_iload G eL_law_1178 rfl ?_
  refine V_iconst (n := 2) (v := (nI 2)) G eL_law_1180 rfl ?_
  refine V_iadd G eL_law_1181 ?_
  refine V_scr (i := i + 2) G hX hbl hbA (nI_add i 2) (by omega) hN eL_law_1182 ?_
  refine V_aload_n (i := 0) G eL_law_1183 rfl rfl ?_
  refine V_iload G eL_law_1184 rfl ?_
  refine V_iconst (n := 3) (v := (nI 3)) G eL_law_1186 rfl ?_
  refine V_iadd G eL_law_1187 ?_
  refine V_scr (i := i + 3) G hX hbl hbA (nI_add i 3) (by omega) hN eL_law_1188 ?_
  refine V_callI (As := [.int (xs (i + 1)), .int (xs (i + 2)), .int (xs (i + 3))]) (st := [.int r]) G lkL_111 (M_stand_ok h2) (by decide) rfl rfl (Nat.le_of_ble_eq_true rfl) eL_law_1189 ?_
  refine V_eqqT G eL_law_1192 rfl ?_
  exact k
set_option maxRecDepth 100000 in
set_option maxHeartbeats 4000000 in
theorem law_20 {p : Program} {l : Launch} {e : Env} {R : Room} {s : State} {m : MethodId} {args : Array Value} {below : List Frame} {meth : Method} {c : Code} {w : Wld} {Q : State → Prop} {kc ns : Nat} (G : Cxt p R s m args meth c w code 7 "PotBookLaw" 200 kc ns) {b N i : Nat} {xs : Nat → Int32} (hX : va_X b N xs s s.heap) (hbl : b < s.heap.size) (hbA : ¬ w.2.2.2 b) (hi : i + 7 ≤ N) (hN : N ≤ 3584) {μ μ2 : Mem} (h : St_20 (xs (i + 1)) μ μ2) (k : Vj p l e R s m args below meth c w 7 kc ns Q 2568 [some (.ref b), some (.ref (wad w 11 0)), some (.ref (wad w 12 0)), some (.ref (wad w 1400 0)), some (.int (nI i)), none, none] [] μ2) : Vj p l e R s m args below meth c w 7 kc ns Q 1197 [some (.ref b), some (.ref (wad w 11 0)), some (.ref (wad w 12 0)), some (.ref (wad w 1400 0)), some (.int (nI i)), none, none] [] μ := by
  obtain ⟨r, μ1, h1, h2⟩ := h
  refine V_aload_n (i := 1) G eL_law_1197 rfl rfl ?_
  refine V_aload_n (i := 0) G eL_law_1198 rfl rfl ?_
  refine V_iload G eL_law_1199 rfl ?_
  refine V_iconst (n := 1) (v := (nI 1)) G eL_law_1201 rfl ?_
  refine V_iadd G eL_law_1202 ?_
  refine V_scr (i := i + 1) G hX hbl hbA (nI_add i 1) (by omega) hN eL_law_1203 ?_
  refine V_callI (As := [.int (xs (i + 1))]) (st := []) G lkL_112 (B_book_ok h1) (by decide) rfl rfl (Nat.le_of_ble_eq_true rfl) eL_law_1204 ?_
  refine V_aload_n (i := 2) G eL_law_1207 rfl rfl ?_
  refine V_aload_n (i := 0) G eL_law_1208 rfl rfl ?_
  refine V_iload G eL_law_1209 rfl ?_
  refine V_iconst (n := 1) (v := (nI 1)) G eL_law_1211 rfl ?_
  refine V_iadd G eL_law_1212 ?_
  refine V_scr (i := i + 1) G hX hbl hbA (nI_add i 1) (by omega) hN eL_law_1213 ?_
  refine V_callI (As := [.int (xs (i + 1))]) (st := [.int r]) G lkL_115 (M_book_ok h2) (by decide) rfl rfl (Nat.le_of_ble_eq_true rfl) eL_law_1214 ?_
  refine V_eqqT G eL_law_1217 rfl ?_
  exact k
set_option maxRecDepth 100000 in
set_option maxHeartbeats 4000000 in
theorem law_21 {p : Program} {l : Launch} {e : Env} {R : Room} {s : State} {m : MethodId} {args : Array Value} {below : List Frame} {meth : Method} {c : Code} {w : Wld} {Q : State → Prop} {kc ns : Nat} (G : Cxt p R s m args meth c w code 7 "PotBookLaw" 200 kc ns) {b N i : Nat} {xs : Nat → Int32} (hX : va_X b N xs s s.heap) (hbl : b < s.heap.size) (hbA : ¬ w.2.2.2 b) (hi : i + 7 ≤ N) (hN : N ≤ 3584) {μ μ2 : Mem} (h : St_21 (xs (i + 1)) (xs (i + 2)) (xs (i + 3)) μ μ2) (k : Vj p l e R s m args below meth c w 7 kc ns Q 2568 [some (.ref b), some (.ref (wad w 11 0)), some (.ref (wad w 12 0)), some (.ref (wad w 1400 0)), some (.int (nI i)), none, none] [] μ2) : Vj p l e R s m args below meth c w 7 kc ns Q 1222 [some (.ref b), some (.ref (wad w 11 0)), some (.ref (wad w 12 0)), some (.ref (wad w 1400 0)), some (.int (nI i)), none, none] [] μ := by
  obtain ⟨r, μ1, h1, h2⟩ := h
  refine V_aload_n (i := 1) G eL_law_1222 rfl rfl ?_
  refine V_aload_n (i := 0) G eL_law_1223 rfl rfl ?_
  refine V_iload G eL_law_1224 rfl ?_
  refine V_iconst (n := 1) (v := (nI 1)) G eL_law_1226 rfl ?_
  refine V_iadd G eL_law_1227 ?_
  refine V_scr (i := i + 1) G hX hbl hbA (nI_add i 1) (by omega) hN eL_law_1228 ?_
  refine V_aload_n (i := 0) G eL_law_1229 rfl rfl ?_
  refine V_iload G eL_law_1230 rfl ?_
  refine V_iconst (n := 2) (v := (nI 2)) G eL_law_1232 rfl ?_
  refine V_iadd G eL_law_1233 ?_
  refine V_scr (i := i + 2) G hX hbl hbA (nI_add i 2) (by omega) hN eL_law_1234 ?_
  refine V_aload_n (i := 0) G eL_law_1235 rfl rfl ?_
  refine V_iload G eL_law_1236 rfl ?_
  refine V_iconst (n := 3) (v := (nI 3)) G eL_law_1238 rfl ?_
  refine V_iadd G eL_law_1239 ?_
  refine V_scr (i := i + 3) G hX hbl hbA (nI_add i 3) (by omega) hN eL_law_1240 ?_
  refine V_callI (As := [.int (xs (i + 1)), .int (xs (i + 2)), .int (xs (i + 3))]) (st := []) G lkL_116 (B_slip_ok h1) (by decide) rfl rfl (Nat.le_of_ble_eq_true rfl) eL_law_1241 ?_
  refine V_aload_n (i := 2) G eL_law_1244 rfl rfl ?_
  refine V_aload_n (i := 0) G eL_law_1245 rfl rfl ?_
  refine V_iload G eL_law_1246 rfl ?_
  refine V_iconst (n := 1) (v := (nI 1)) G eL_law_1248 rfl ?_
  refine V_iadd G eL_law_1249 ?_
  refine V_scr (i := i + 1) G hX hbl hbA (nI_add i 1) (by omega) hN eL_law_1250 ?_
  refine V_aload_n (i := 0) G eL_law_1251 rfl rfl ?_
  refine V_iload G eL_law_1252 rfl ?_
  refine V_iconst (n := 2) (v := (nI 2)) G eL_law_1254 rfl ?_
  refine V_iadd G eL_law_1255 ?_
  refine V_scr (i := i + 2) G hX hbl hbA (nI_add i 2) (by omega) hN eL_law_1256 ?_
  refine V_aload_n (i := 0) G eL_law_1257 rfl rfl ?_
  refine V_iload G eL_law_1258 rfl ?_
  refine V_iconst (n := 3) (v := (nI 3)) G eL_law_1260 rfl ?_
  refine V_iadd G eL_law_1261 ?_
  refine V_scr (i := i + 3) G hX hbl hbA (nI_add i 3) (by omega) hN eL_law_1262 ?_
  refine V_callI (As := [.int (xs (i + 1)), .int (xs (i + 2)), .int (xs (i + 3))]) (st := [.int r]) G lkL_120 (M_slip_ok h2) (by decide) rfl rfl (Nat.le_of_ble_eq_true rfl) eL_law_1263 ?_
  refine V_eqqT G eL_law_1266 rfl ?_
  exact k
set_option maxRecDepth 100000 in
set_option maxHeartbeats 4000000 in
theorem law_22 {p : Program} {l : Launch} {e : Env} {R : Room} {s : State} {m : MethodId} {args : Array Value} {below : List Frame} {meth : Method} {c : Code} {w : Wld} {Q : State → Prop} {kc ns : Nat} (G : Cxt p R s m args meth c w code 7 "PotBookLaw" 200 kc ns) {b N i : Nat} {xs : Nat → Int32} (hX : va_X b N xs s s.heap) (hbl : b < s.heap.size) (hbA : ¬ w.2.2.2 b) (hi : i + 7 ≤ N) (hN : N ≤ 3584) {μ μ2 : Mem} (h : St_22 (xs (i + 1)) (xs (i + 2)) μ μ2) (k : Vj p l e R s m args below meth c w 7 kc ns Q 2568 [some (.ref b), some (.ref (wad w 11 0)), some (.ref (wad w 12 0)), some (.ref (wad w 1400 0)), some (.int (nI i)), none, none] [] μ2) : Vj p l e R s m args below meth c w 7 kc ns Q 1271 [some (.ref b), some (.ref (wad w 11 0)), some (.ref (wad w 12 0)), some (.ref (wad w 1400 0)), some (.int (nI i)), none, none] [] μ := by
  obtain ⟨r, μ1, h1, h2⟩ := h
  refine V_aload_n (i := 1) G eL_law_1271 rfl rfl ?_
  refine V_aload_n (i := 0) G eL_law_1272 rfl rfl ?_
  refine V_iload G eL_law_1273 rfl ?_
  refine V_iconst (n := 1) (v := (nI 1)) G eL_law_1275 rfl ?_
  refine V_iadd G eL_law_1276 ?_
  refine V_scr (i := i + 1) G hX hbl hbA (nI_add i 1) (by omega) hN eL_law_1277 ?_
  refine V_aload_n (i := 0) G eL_law_1278 rfl rfl ?_
  refine V_iload G eL_law_1279 rfl ?_
  refine V_iconst (n := 2) (v := (nI 2)) G eL_law_1281 rfl ?_
  refine V_iadd G eL_law_1282 ?_
  refine V_scr (i := i + 2) G hX hbl hbA (nI_add i 2) (by omega) hN eL_law_1283 ?_
  refine V_callI (As := [.int (xs (i + 1)), .int (xs (i + 2))]) (st := []) G lkL_121 (B_reads_ok h1) (by decide) rfl rfl (Nat.le_of_ble_eq_true rfl) eL_law_1284 ?_
  refine V_aload_n (i := 2) G eL_law_1287 rfl rfl ?_
  refine V_aload_n (i := 0) G eL_law_1288 rfl rfl ?_
  refine V_iload G eL_law_1289 rfl ?_
  refine V_iconst (n := 1) (v := (nI 1)) G eL_law_1291 rfl ?_
  refine V_iadd G eL_law_1292 ?_
  refine V_scr (i := i + 1) G hX hbl hbA (nI_add i 1) (by omega) hN eL_law_1293 ?_
  refine V_aload_n (i := 0) G eL_law_1294 rfl rfl ?_
  refine V_iload G eL_law_1295 rfl ?_
  refine V_iconst (n := 2) (v := (nI 2)) G eL_law_1297 rfl ?_
  refine V_iadd G eL_law_1298 ?_
  refine V_scr (i := i + 2) G hX hbl hbA (nI_add i 2) (by omega) hN eL_law_1299 ?_
  refine V_callI (As := [.int (xs (i + 1)), .int (xs (i + 2))]) (st := [.int r]) G lkL_125 (M_reads_ok h2) (by decide) rfl rfl (Nat.le_of_ble_eq_true rfl) eL_law_1300 ?_
  refine V_eqqT G eL_law_1303 rfl ?_
  exact k
set_option maxRecDepth 100000 in
set_option maxHeartbeats 4000000 in
theorem law_23 {p : Program} {l : Launch} {e : Env} {R : Room} {s : State} {m : MethodId} {args : Array Value} {below : List Frame} {meth : Method} {c : Code} {w : Wld} {Q : State → Prop} {kc ns : Nat} (G : Cxt p R s m args meth c w code 7 "PotBookLaw" 200 kc ns) {b N i : Nat} {xs : Nat → Int32} (hX : va_X b N xs s s.heap) (hbl : b < s.heap.size) (hbA : ¬ w.2.2.2 b) (hi : i + 7 ≤ N) (hN : N ≤ 3584) {μ μ2 : Mem} (h : St_23 (xs (i + 1)) μ μ2) (k : Vj p l e R s m args below meth c w 7 kc ns Q 2568 [some (.ref b), some (.ref (wad w 11 0)), some (.ref (wad w 12 0)), some (.ref (wad w 1400 0)), some (.int (nI i)), none, none] [] μ2) : Vj p l e R s m args below meth c w 7 kc ns Q 1308 [some (.ref b), some (.ref (wad w 11 0)), some (.ref (wad w 12 0)), some (.ref (wad w 1400 0)), some (.int (nI i)), none, none] [] μ := by
  obtain ⟨r, μ1, h1, h2⟩ := h
  refine V_aload_n (i := 1) G eL_law_1308 rfl rfl ?_
  refine V_aload_n (i := 0) G eL_law_1309 rfl rfl ?_
  refine V_iload G eL_law_1310 rfl ?_
  refine V_iconst (n := 1) (v := (nI 1)) G eL_law_1312 rfl ?_
  refine V_iadd G eL_law_1313 ?_
  refine V_scr (i := i + 1) G hX hbl hbA (nI_add i 1) (by omega) hN eL_law_1314 ?_
  refine V_callI (As := [.int (xs (i + 1))]) (st := []) G lkL_126 (B_cost_ok h1) (by decide) rfl rfl (Nat.le_of_ble_eq_true rfl) eL_law_1315 ?_
  refine V_aload_n (i := 2) G eL_law_1318 rfl rfl ?_
  refine V_aload_n (i := 0) G eL_law_1319 rfl rfl ?_
  refine V_iload G eL_law_1320 rfl ?_
  refine V_iconst (n := 1) (v := (nI 1)) G eL_law_1322 rfl ?_
  refine V_iadd G eL_law_1323 ?_
  refine V_scr (i := i + 1) G hX hbl hbA (nI_add i 1) (by omega) hN eL_law_1324 ?_
  refine V_callI (As := [.int (xs (i + 1))]) (st := [.int r]) G lkL_129 (M_cost_ok h2) (by decide) rfl rfl (Nat.le_of_ble_eq_true rfl) eL_law_1325 ?_
  refine V_eqqT G eL_law_1328 rfl ?_
  exact k
set_option maxRecDepth 100000 in
set_option maxHeartbeats 4000000 in
theorem law_24 {p : Program} {l : Launch} {e : Env} {R : Room} {s : State} {m : MethodId} {args : Array Value} {below : List Frame} {meth : Method} {c : Code} {w : Wld} {Q : State → Prop} {kc ns : Nat} (G : Cxt p R s m args meth c w code 7 "PotBookLaw" 200 kc ns) {b N i : Nat} {xs : Nat → Int32} (hX : va_X b N xs s s.heap) (hbl : b < s.heap.size) (hbA : ¬ w.2.2.2 b) (hi : i + 7 ≤ N) (hN : N ≤ 3584) {μ μ2 : Mem} (h : St_24 (xs (i + 1)) μ μ2) (k : Vj p l e R s m args below meth c w 7 kc ns Q 2568 [some (.ref b), some (.ref (wad w 11 0)), some (.ref (wad w 12 0)), some (.ref (wad w 1400 0)), some (.int (nI i)), none, none] [] μ2) : Vj p l e R s m args below meth c w 7 kc ns Q 1333 [some (.ref b), some (.ref (wad w 11 0)), some (.ref (wad w 12 0)), some (.ref (wad w 1400 0)), some (.int (nI i)), none, none] [] μ := by
  obtain ⟨r, μ1, h1, h2⟩ := h
  refine V_aload_n (i := 1) G eL_law_1333 rfl rfl ?_
  refine V_aload_n (i := 0) G eL_law_1334 rfl rfl ?_
  refine V_iload G eL_law_1335 rfl ?_
  refine V_iconst (n := 1) (v := (nI 1)) G eL_law_1337 rfl ?_
  refine V_iadd G eL_law_1338 ?_
  refine V_scr (i := i + 1) G hX hbl hbA (nI_add i 1) (by omega) hN eL_law_1339 ?_
  refine V_callL (As := [.int (xs (i + 1))]) (st := []) G lkL_130 (B_ways_ok h1) (by decide) rfl rfl (Nat.le_of_ble_eq_true rfl) eL_law_1340 ?_
  refine V_aload_n (i := 2) G eL_law_1343 rfl rfl ?_
  refine V_aload_n (i := 0) G eL_law_1344 rfl rfl ?_
  refine V_iload G eL_law_1345 rfl ?_
  refine V_iconst (n := 1) (v := (nI 1)) G eL_law_1347 rfl ?_
  refine V_iadd G eL_law_1348 ?_
  refine V_scr (i := i + 1) G hX hbl hbA (nI_add i 1) (by omega) hN eL_law_1349 ?_
  refine V_callL (As := [.int (xs (i + 1))]) (st := [.long r]) G lkL_134 (M_ways_ok h2) (by decide) rfl rfl (Nat.le_of_ble_eq_true rfl) eL_law_1350 ?_
  refine V_lcmp G eL_law_1353 ?_
  refine V_eqT G eL_law_1354 (by rw [lg_cmp_eq]) ?_
  exact k
set_option maxRecDepth 100000 in
set_option maxHeartbeats 4000000 in
theorem law_25 {p : Program} {l : Launch} {e : Env} {R : Room} {s : State} {m : MethodId} {args : Array Value} {below : List Frame} {meth : Method} {c : Code} {w : Wld} {Q : State → Prop} {kc ns : Nat} (G : Cxt p R s m args meth c w code 7 "PotBookLaw" 200 kc ns) {b N i : Nat} {xs : Nat → Int32} (hX : va_X b N xs s s.heap) (hbl : b < s.heap.size) (hbA : ¬ w.2.2.2 b) (hi : i + 7 ≤ N) (hN : N ≤ 3584) {μ μ2 : Mem} (h : St_25 μ μ2) (k : Vj p l e R s m args below meth c w 7 kc ns Q 2568 [some (.ref b), some (.ref (wad w 11 0)), some (.ref (wad w 12 0)), some (.ref (wad w 1400 0)), some (.int (nI i)), none, none] [] μ2) : Vj p l e R s m args below meth c w 7 kc ns Q 1359 [some (.ref b), some (.ref (wad w 11 0)), some (.ref (wad w 12 0)), some (.ref (wad w 1400 0)), some (.int (nI i)), none, none] [] μ := by
  obtain ⟨r, μ1, h1, h2⟩ := h
  refine V_aload_n (i := 1) G eL_law_1359 rfl rfl ?_
  refine V_callI (As := []) (st := []) G lkL_135 (B_first_ok h1) (by decide) rfl rfl (Nat.le_of_ble_eq_true rfl) eL_law_1360 ?_
  refine V_aload_n (i := 2) G eL_law_1363 rfl rfl ?_
  refine V_callI (As := []) (st := [.int r]) G lkL_138 (M_first_ok h2) (by decide) rfl rfl (Nat.le_of_ble_eq_true rfl) eL_law_1364 ?_
  refine V_eqqT G eL_law_1367 rfl ?_
  exact k
set_option maxRecDepth 100000 in
set_option maxHeartbeats 4000000 in
theorem law_26 {p : Program} {l : Launch} {e : Env} {R : Room} {s : State} {m : MethodId} {args : Array Value} {below : List Frame} {meth : Method} {c : Code} {w : Wld} {Q : State → Prop} {kc ns : Nat} (G : Cxt p R s m args meth c w code 7 "PotBookLaw" 200 kc ns) {b N i : Nat} {xs : Nat → Int32} (hX : va_X b N xs s s.heap) (hbl : b < s.heap.size) (hbA : ¬ w.2.2.2 b) (hi : i + 7 ≤ N) (hN : N ≤ 3584) {μ μ2 : Mem} (h : St_26 (xs (i + 1)) μ μ2) (k : Vj p l e R s m args below meth c w 7 kc ns Q 2568 [some (.ref b), some (.ref (wad w 11 0)), some (.ref (wad w 12 0)), some (.ref (wad w 1400 0)), some (.int (nI i)), none, none] [] μ2) : Vj p l e R s m args below meth c w 7 kc ns Q 1372 [some (.ref b), some (.ref (wad w 11 0)), some (.ref (wad w 12 0)), some (.ref (wad w 1400 0)), some (.int (nI i)), none, none] [] μ := by
  obtain ⟨r, μ1, h1, h2⟩ := h
  refine V_aload_n (i := 1) G eL_law_1372 rfl rfl ?_
  refine V_aload_n (i := 0) G eL_law_1373 rfl rfl ?_
  refine V_iload G eL_law_1374 rfl ?_
  refine V_iconst (n := 1) (v := (nI 1)) G eL_law_1376 rfl ?_
  refine V_iadd G eL_law_1377 ?_
  refine V_scr (i := i + 1) G hX hbl hbA (nI_add i 1) (by omega) hN eL_law_1378 ?_
  refine V_callI (As := [.int (xs (i + 1))]) (st := []) G lkL_139 (B_could_ok h1) (by decide) rfl rfl (Nat.le_of_ble_eq_true rfl) eL_law_1379 ?_
  refine V_aload_n (i := 2) G eL_law_1382 rfl rfl ?_
  refine V_aload_n (i := 0) G eL_law_1383 rfl rfl ?_
  refine V_iload G eL_law_1384 rfl ?_
  refine V_iconst (n := 1) (v := (nI 1)) G eL_law_1386 rfl ?_
  refine V_iadd G eL_law_1387 ?_
  refine V_scr (i := i + 1) G hX hbl hbA (nI_add i 1) (by omega) hN eL_law_1388 ?_
  refine V_callI (As := [.int (xs (i + 1))]) (st := [.int r]) G lkL_142 (M_could_ok h2) (by decide) rfl rfl (Nat.le_of_ble_eq_true rfl) eL_law_1389 ?_
  refine V_eqqT G eL_law_1392 rfl ?_
  exact k
set_option maxRecDepth 100000 in
set_option maxHeartbeats 4000000 in
theorem law_27 {p : Program} {l : Launch} {e : Env} {R : Room} {s : State} {m : MethodId} {args : Array Value} {below : List Frame} {meth : Method} {c : Code} {w : Wld} {Q : State → Prop} {kc ns : Nat} (G : Cxt p R s m args meth c w code 7 "PotBookLaw" 200 kc ns) {b N i : Nat} {xs : Nat → Int32} (hX : va_X b N xs s s.heap) (hbl : b < s.heap.size) (hbA : ¬ w.2.2.2 b) (hi : i + 7 ≤ N) (hN : N ≤ 3584) {μ μ2 : Mem} (h : St_27 (xs (i + 1)) (xs (i + 2)) μ μ2) (k : Vj p l e R s m args below meth c w 7 kc ns Q 2568 [some (.ref b), some (.ref (wad w 11 0)), some (.ref (wad w 12 0)), some (.ref (wad w 1400 0)), some (.int (nI i)), none, none] [] μ2) : Vj p l e R s m args below meth c w 7 kc ns Q 1397 [some (.ref b), some (.ref (wad w 11 0)), some (.ref (wad w 12 0)), some (.ref (wad w 1400 0)), some (.int (nI i)), none, none] [] μ := by
  obtain ⟨r, μ1, h1, h2⟩ := h
  refine V_aload_n (i := 1) G eL_law_1397 rfl rfl ?_
  refine V_aload_n (i := 0) G eL_law_1398 rfl rfl ?_
  refine V_iload G eL_law_1399 rfl ?_
  refine V_iconst (n := 1) (v := (nI 1)) G eL_law_1401 rfl ?_
  refine V_iadd G eL_law_1402 ?_
  refine V_scr (i := i + 1) G hX hbl hbA (nI_add i 1) (by omega) hN eL_law_1403 ?_
  refine V_aload_n (i := 0) G eL_law_1404 rfl rfl ?_
  refine V_iload G eL_law_1405 rfl ?_
  refine V_iconst (n := 2) (v := (nI 2)) G eL_law_1407 rfl ?_
  refine V_iadd G eL_law_1408 ?_
  refine V_scr (i := i + 2) G hX hbl hbA (nI_add i 2) (by omega) hN eL_law_1409 ?_
  by_cases z2 : xs (i + 2) = 0
  · rw [bz_t z2] at h1 h2
    refine V_eqT G eL_law_1410 z2 ?_
    refine V_iconst (n := 0) (v := (nI 0)) G eL_law_1417 rfl ?_
    refine V_callI (As := [.int (xs (i + 1)), .int (nI 0)]) (st := []) G lkL_143 (B_day_ok h1) (by decide) rfl rfl (Nat.le_of_ble_eq_true rfl) eL_law_1418 ?_
    refine V_aload_n (i := 2) G eL_law_1421 rfl rfl ?_
    refine V_aload_n (i := 0) G eL_law_1422 rfl rfl ?_
    refine V_iload G eL_law_1423 rfl ?_
    refine V_iconst (n := 1) (v := (nI 1)) G eL_law_1425 rfl ?_
    refine V_iadd G eL_law_1426 ?_
    refine V_scr (i := i + 1) G hX hbl hbA (nI_add i 1) (by omega) hN eL_law_1427 ?_
    refine V_aload_n (i := 0) G eL_law_1428 rfl rfl ?_
    refine V_iload G eL_law_1429 rfl ?_
    refine V_iconst (n := 2) (v := (nI 2)) G eL_law_1431 rfl ?_
    refine V_iadd G eL_law_1432 ?_
    refine V_scr (i := i + 2) G hX hbl hbA (nI_add i 2) (by omega) hN eL_law_1433 ?_
    refine V_eqT G eL_law_1434 z2 ?_
    refine V_iconst (n := 0) (v := (nI 0)) G eL_law_1441 rfl ?_
    refine V_callI (As := [.int (xs (i + 1)), .int (nI 0)]) (st := [.int r]) G lkL_147 (M_day_ok h2) (by decide) rfl rfl (Nat.le_of_ble_eq_true rfl) eL_law_1442 ?_
    refine V_eqqT G eL_law_1445 rfl ?_
    exact k
  · rw [bz_f z2] at h1 h2
    refine V_eqF G eL_law_1410 z2 ?_
    refine V_iconst (n := 1) (v := (nI 1)) G eL_law_1413 rfl ?_
    refine V_goto G eL_law_1414 ?_
    refine V_callI (As := [.int (xs (i + 1)), .int (nI 1)]) (st := []) G lkL_143 (B_day_ok h1) (by decide) rfl rfl (Nat.le_of_ble_eq_true rfl) eL_law_1418 ?_
    refine V_aload_n (i := 2) G eL_law_1421 rfl rfl ?_
    refine V_aload_n (i := 0) G eL_law_1422 rfl rfl ?_
    refine V_iload G eL_law_1423 rfl ?_
    refine V_iconst (n := 1) (v := (nI 1)) G eL_law_1425 rfl ?_
    refine V_iadd G eL_law_1426 ?_
    refine V_scr (i := i + 1) G hX hbl hbA (nI_add i 1) (by omega) hN eL_law_1427 ?_
    refine V_aload_n (i := 0) G eL_law_1428 rfl rfl ?_
    refine V_iload G eL_law_1429 rfl ?_
    refine V_iconst (n := 2) (v := (nI 2)) G eL_law_1431 rfl ?_
    refine V_iadd G eL_law_1432 ?_
    refine V_scr (i := i + 2) G hX hbl hbA (nI_add i 2) (by omega) hN eL_law_1433 ?_
    refine V_eqF G eL_law_1434 z2 ?_
    refine V_iconst (n := 1) (v := (nI 1)) G eL_law_1437 rfl ?_
    refine V_goto G eL_law_1438 ?_
    refine V_callI (As := [.int (xs (i + 1)), .int (nI 1)]) (st := [.int r]) G lkL_147 (M_day_ok h2) (by decide) rfl rfl (Nat.le_of_ble_eq_true rfl) eL_law_1442 ?_
    refine V_eqqT G eL_law_1445 rfl ?_
    exact k
set_option maxRecDepth 100000 in
set_option maxHeartbeats 4000000 in
theorem law_28 {p : Program} {l : Launch} {e : Env} {R : Room} {s : State} {m : MethodId} {args : Array Value} {below : List Frame} {meth : Method} {c : Code} {w : Wld} {Q : State → Prop} {kc ns : Nat} (G : Cxt p R s m args meth c w code 7 "PotBookLaw" 200 kc ns) {b N i : Nat} {xs : Nat → Int32} (hX : va_X b N xs s s.heap) (hbl : b < s.heap.size) (hbA : ¬ w.2.2.2 b) (hi : i + 7 ≤ N) (hN : N ≤ 3584) {μ μ2 : Mem} (h : St_28 (xs (i + 1)) (xs (i + 2)) (xs (i + 3)) μ μ2) (k : Vj p l e R s m args below meth c w 7 kc ns Q 2568 [some (.ref b), some (.ref (wad w 11 0)), some (.ref (wad w 12 0)), some (.ref (wad w 1400 0)), some (.int (nI i)), none, none] [] μ2) : Vj p l e R s m args below meth c w 7 kc ns Q 1450 [some (.ref b), some (.ref (wad w 11 0)), some (.ref (wad w 12 0)), some (.ref (wad w 1400 0)), some (.int (nI i)), none, none] [] μ := by
  obtain ⟨r, μ1, h1, h2⟩ := h
  refine V_aload_n (i := 1) G eL_law_1450 rfl rfl ?_
  refine V_aload_n (i := 0) G eL_law_1451 rfl rfl ?_
  refine V_iload G eL_law_1452 rfl ?_
  refine V_iconst (n := 1) (v := (nI 1)) G eL_law_1454 rfl ?_
  refine V_iadd G eL_law_1455 ?_
  refine V_scr (i := i + 1) G hX hbl hbA (nI_add i 1) (by omega) hN eL_law_1456 ?_
  refine V_aload_n (i := 0) G eL_law_1457 rfl rfl ?_
  refine V_iload G eL_law_1458 rfl ?_
  refine V_iconst (n := 2) (v := (nI 2)) G eL_law_1460 rfl ?_
  refine V_iadd G eL_law_1461 ?_
  refine V_scr (i := i + 2) G hX hbl hbA (nI_add i 2) (by omega) hN eL_law_1462 ?_
  refine V_aload_n (i := 0) G eL_law_1463 rfl rfl ?_
  refine V_iload G eL_law_1464 rfl ?_
  refine V_iconst (n := 3) (v := (nI 3)) G eL_law_1466 rfl ?_
  refine V_iadd G eL_law_1467 ?_
  refine V_scr (i := i + 3) G hX hbl hbA (nI_add i 3) (by omega) hN eL_law_1468 ?_
  refine V_callI (As := [.int (xs (i + 1)), .int (xs (i + 2)), .int (xs (i + 3))]) (st := []) G lkL_148 (B_bought_ok h1) (by decide) rfl rfl (Nat.le_of_ble_eq_true rfl) eL_law_1469 ?_
  refine V_aload_n (i := 2) G eL_law_1472 rfl rfl ?_
  refine V_aload_n (i := 0) G eL_law_1473 rfl rfl ?_
  refine V_iload G eL_law_1474 rfl ?_
  refine V_iconst (n := 1) (v := (nI 1)) G eL_law_1476 rfl ?_
  refine V_iadd G eL_law_1477 ?_
  refine V_scr (i := i + 1) G hX hbl hbA (nI_add i 1) (by omega) hN eL_law_1478 ?_
  refine V_aload_n (i := 0) G eL_law_1479 rfl rfl ?_
  refine V_iload G eL_law_1480 rfl ?_
  refine V_iconst (n := 2) (v := (nI 2)) G eL_law_1482 rfl ?_
  refine V_iadd G eL_law_1483 ?_
  refine V_scr (i := i + 2) G hX hbl hbA (nI_add i 2) (by omega) hN eL_law_1484 ?_
  refine V_aload_n (i := 0) G eL_law_1485 rfl rfl ?_
  refine V_iload G eL_law_1486 rfl ?_
  refine V_iconst (n := 3) (v := (nI 3)) G eL_law_1488 rfl ?_
  refine V_iadd G eL_law_1489 ?_
  refine V_scr (i := i + 3) G hX hbl hbA (nI_add i 3) (by omega) hN eL_law_1490 ?_
  refine V_callI (As := [.int (xs (i + 1)), .int (xs (i + 2)), .int (xs (i + 3))]) (st := [.int r]) G lkL_151 (M_bought_ok h2) (by decide) rfl rfl (Nat.le_of_ble_eq_true rfl) eL_law_1491 ?_
  refine V_eqqT G eL_law_1494 rfl ?_
  exact k
set_option maxRecDepth 100000 in
set_option maxHeartbeats 4000000 in
theorem law_29 {p : Program} {l : Launch} {e : Env} {R : Room} {s : State} {m : MethodId} {args : Array Value} {below : List Frame} {meth : Method} {c : Code} {w : Wld} {Q : State → Prop} {kc ns : Nat} (G : Cxt p R s m args meth c w code 7 "PotBookLaw" 200 kc ns) {b N i : Nat} {xs : Nat → Int32} (hX : va_X b N xs s s.heap) (hbl : b < s.heap.size) (hbA : ¬ w.2.2.2 b) (hi : i + 7 ≤ N) (hN : N ≤ 3584) {μ μ2 : Mem} (h : St_29 (xs (i + 1)) (xs (i + 2)) μ μ2) (k : Vj p l e R s m args below meth c w 7 kc ns Q 2568 [some (.ref b), some (.ref (wad w 11 0)), some (.ref (wad w 12 0)), some (.ref (wad w 1400 0)), some (.int (nI i)), none, none] [] μ2) : Vj p l e R s m args below meth c w 7 kc ns Q 1499 [some (.ref b), some (.ref (wad w 11 0)), some (.ref (wad w 12 0)), some (.ref (wad w 1400 0)), some (.int (nI i)), none, none] [] μ := by
  obtain ⟨r, μ1, h1, h2⟩ := h
  refine V_aload_n (i := 1) G eL_law_1499 rfl rfl ?_
  refine V_aload_n (i := 0) G eL_law_1500 rfl rfl ?_
  refine V_iload G eL_law_1501 rfl ?_
  refine V_iconst (n := 1) (v := (nI 1)) G eL_law_1503 rfl ?_
  refine V_iadd G eL_law_1504 ?_
  refine V_scr (i := i + 1) G hX hbl hbA (nI_add i 1) (by omega) hN eL_law_1505 ?_
  refine V_aload_n (i := 0) G eL_law_1506 rfl rfl ?_
  refine V_iload G eL_law_1507 rfl ?_
  refine V_iconst (n := 2) (v := (nI 2)) G eL_law_1509 rfl ?_
  refine V_iadd G eL_law_1510 ?_
  refine V_scr (i := i + 2) G hX hbl hbA (nI_add i 2) (by omega) hN eL_law_1511 ?_
  refine V_callI (As := [.int (xs (i + 1)), .int (xs (i + 2))]) (st := []) G lkL_152 (B_may_ok h1) (by decide) rfl rfl (Nat.le_of_ble_eq_true rfl) eL_law_1512 ?_
  refine V_aload_n (i := 2) G eL_law_1515 rfl rfl ?_
  refine V_aload_n (i := 0) G eL_law_1516 rfl rfl ?_
  refine V_iload G eL_law_1517 rfl ?_
  refine V_iconst (n := 1) (v := (nI 1)) G eL_law_1519 rfl ?_
  refine V_iadd G eL_law_1520 ?_
  refine V_scr (i := i + 1) G hX hbl hbA (nI_add i 1) (by omega) hN eL_law_1521 ?_
  refine V_aload_n (i := 0) G eL_law_1522 rfl rfl ?_
  refine V_iload G eL_law_1523 rfl ?_
  refine V_iconst (n := 2) (v := (nI 2)) G eL_law_1525 rfl ?_
  refine V_iadd G eL_law_1526 ?_
  refine V_scr (i := i + 2) G hX hbl hbA (nI_add i 2) (by omega) hN eL_law_1527 ?_
  refine V_callI (As := [.int (xs (i + 1)), .int (xs (i + 2))]) (st := [.int r]) G lkL_155 (M_may_ok h2) (by decide) rfl rfl (Nat.le_of_ble_eq_true rfl) eL_law_1528 ?_
  refine V_eqqT G eL_law_1531 rfl ?_
  exact k
set_option maxRecDepth 100000 in
set_option maxHeartbeats 4000000 in
theorem law_30 {p : Program} {l : Launch} {e : Env} {R : Room} {s : State} {m : MethodId} {args : Array Value} {below : List Frame} {meth : Method} {c : Code} {w : Wld} {Q : State → Prop} {kc ns : Nat} (G : Cxt p R s m args meth c w code 7 "PotBookLaw" 200 kc ns) {b N i : Nat} {xs : Nat → Int32} (hX : va_X b N xs s s.heap) (hbl : b < s.heap.size) (hbA : ¬ w.2.2.2 b) (hi : i + 7 ≤ N) (hN : N ≤ 3584) {μ μ2 : Mem} (h : St_30 (xs (i + 1)) (xs (i + 2)) (xs (i + 3)) (xs (i + 4)) μ μ2) (k : Vj p l e R s m args below meth c w 7 kc ns Q 2568 [some (.ref b), some (.ref (wad w 11 0)), some (.ref (wad w 12 0)), some (.ref (wad w 1400 0)), some (.int (nI i)), none, none] [] μ2) : Vj p l e R s m args below meth c w 7 kc ns Q 1536 [some (.ref b), some (.ref (wad w 11 0)), some (.ref (wad w 12 0)), some (.ref (wad w 1400 0)), some (.int (nI i)), none, none] [] μ := by
  obtain ⟨r, μ1, h1, h2⟩ := h
  refine V_aload_n (i := 1) G eL_law_1536 rfl rfl ?_
  refine V_aload_n (i := 0) G eL_law_1537 rfl rfl ?_
  refine V_iload G eL_law_1538 rfl ?_
  refine V_iconst (n := 1) (v := (nI 1)) G eL_law_1540 rfl ?_
  refine V_iadd G eL_law_1541 ?_
  refine V_scr (i := i + 1) G hX hbl hbA (nI_add i 1) (by omega) hN eL_law_1542 ?_
  refine V_aload_n (i := 0) G eL_law_1543 rfl rfl ?_
  refine V_iload G eL_law_1544 rfl ?_
  refine V_iconst (n := 2) (v := (nI 2)) G eL_law_1546 rfl ?_
  refine V_iadd G eL_law_1547 ?_
  refine V_scr (i := i + 2) G hX hbl hbA (nI_add i 2) (by omega) hN eL_law_1548 ?_
  refine V_aload_n (i := 0) G eL_law_1549 rfl rfl ?_
  refine V_iload G eL_law_1550 rfl ?_
  refine V_iconst (n := 3) (v := (nI 3)) G eL_law_1552 rfl ?_
  refine V_iadd G eL_law_1553 ?_
  refine V_scr (i := i + 3) G hX hbl hbA (nI_add i 3) (by omega) hN eL_law_1554 ?_
  refine V_aload_n (i := 0) G eL_law_1555 rfl rfl ?_
  refine V_iload G eL_law_1556 rfl ?_
  refine V_iconst (n := 4) (v := (nI 4)) G eL_law_1558 rfl ?_
  refine V_iadd G eL_law_1559 ?_
  refine V_scr (i := i + 4) G hX hbl hbA (nI_add i 4) (by omega) hN eL_law_1560 ?_
  refine V_callI (As := [.int (xs (i + 1)), .int (xs (i + 2)), .int (xs (i + 3)), .int (xs (i + 4))]) (st := []) G lkL_156 (B_menu_ok h1) (by decide) rfl rfl (Nat.le_of_ble_eq_true rfl) eL_law_1561 ?_
  refine V_aload_n (i := 2) G eL_law_1564 rfl rfl ?_
  refine V_aload_n (i := 0) G eL_law_1565 rfl rfl ?_
  refine V_iload G eL_law_1566 rfl ?_
  refine V_iconst (n := 1) (v := (nI 1)) G eL_law_1568 rfl ?_
  refine V_iadd G eL_law_1569 ?_
  refine V_scr (i := i + 1) G hX hbl hbA (nI_add i 1) (by omega) hN eL_law_1570 ?_
  refine V_aload_n (i := 0) G eL_law_1571 rfl rfl ?_
  refine V_iload G eL_law_1572 rfl ?_
  refine V_iconst (n := 2) (v := (nI 2)) G eL_law_1574 rfl ?_
  refine V_iadd G eL_law_1575 ?_
  refine V_scr (i := i + 2) G hX hbl hbA (nI_add i 2) (by omega) hN eL_law_1576 ?_
  refine V_aload_n (i := 0) G eL_law_1577 rfl rfl ?_
  refine V_iload G eL_law_1578 rfl ?_
  refine V_iconst (n := 3) (v := (nI 3)) G eL_law_1580 rfl ?_
  refine V_iadd G eL_law_1581 ?_
  refine V_scr (i := i + 3) G hX hbl hbA (nI_add i 3) (by omega) hN eL_law_1582 ?_
  refine V_aload_n (i := 0) G eL_law_1583 rfl rfl ?_
  refine V_iload G eL_law_1584 rfl ?_
  refine V_iconst (n := 4) (v := (nI 4)) G eL_law_1586 rfl ?_
  refine V_iadd G eL_law_1587 ?_
  refine V_scr (i := i + 4) G hX hbl hbA (nI_add i 4) (by omega) hN eL_law_1588 ?_
  refine V_callI (As := [.int (xs (i + 1)), .int (xs (i + 2)), .int (xs (i + 3)), .int (xs (i + 4))]) (st := [.int r]) G lkL_159 (M_menu_ok h2) (by decide) rfl rfl (Nat.le_of_ble_eq_true rfl) eL_law_1589 ?_
  refine V_eqqT G eL_law_1592 rfl ?_
  exact k
set_option maxRecDepth 100000 in
set_option maxHeartbeats 4000000 in
theorem law_31 {p : Program} {l : Launch} {e : Env} {R : Room} {s : State} {m : MethodId} {args : Array Value} {below : List Frame} {meth : Method} {c : Code} {w : Wld} {Q : State → Prop} {kc ns : Nat} (G : Cxt p R s m args meth c w code 7 "PotBookLaw" 200 kc ns) {b N i : Nat} {xs : Nat → Int32} (hX : va_X b N xs s s.heap) (hbl : b < s.heap.size) (hbA : ¬ w.2.2.2 b) (hi : i + 7 ≤ N) (hN : N ≤ 3584) {μ μ2 : Mem} (h : St_31 (xs (i + 1)) (xs (i + 2)) (xs (i + 3)) (xs (i + 4)) (xs (i + 5)) μ μ2) (k : Vj p l e R s m args below meth c w 7 kc ns Q 2568 [some (.ref b), some (.ref (wad w 11 0)), some (.ref (wad w 12 0)), some (.ref (wad w 1400 0)), some (.int (nI i)), none, none] [] μ2) : Vj p l e R s m args below meth c w 7 kc ns Q 1597 [some (.ref b), some (.ref (wad w 11 0)), some (.ref (wad w 12 0)), some (.ref (wad w 1400 0)), some (.int (nI i)), none, none] [] μ := by
  obtain ⟨r, μ1, h1, h2⟩ := h
  refine V_aload_n (i := 1) G eL_law_1597 rfl rfl ?_
  refine V_aload_n (i := 0) G eL_law_1598 rfl rfl ?_
  refine V_iload G eL_law_1599 rfl ?_
  refine V_iconst (n := 1) (v := (nI 1)) G eL_law_1601 rfl ?_
  refine V_iadd G eL_law_1602 ?_
  refine V_scr (i := i + 1) G hX hbl hbA (nI_add i 1) (by omega) hN eL_law_1603 ?_
  refine V_aload_n (i := 0) G eL_law_1604 rfl rfl ?_
  refine V_iload G eL_law_1605 rfl ?_
  refine V_iconst (n := 2) (v := (nI 2)) G eL_law_1607 rfl ?_
  refine V_iadd G eL_law_1608 ?_
  refine V_scr (i := i + 2) G hX hbl hbA (nI_add i 2) (by omega) hN eL_law_1609 ?_
  refine V_aload_n (i := 0) G eL_law_1610 rfl rfl ?_
  refine V_iload G eL_law_1611 rfl ?_
  refine V_iconst (n := 3) (v := (nI 3)) G eL_law_1613 rfl ?_
  refine V_iadd G eL_law_1614 ?_
  refine V_scr (i := i + 3) G hX hbl hbA (nI_add i 3) (by omega) hN eL_law_1615 ?_
  refine V_aload_n (i := 0) G eL_law_1616 rfl rfl ?_
  refine V_iload G eL_law_1617 rfl ?_
  refine V_iconst (n := 4) (v := (nI 4)) G eL_law_1619 rfl ?_
  refine V_iadd G eL_law_1620 ?_
  refine V_scr (i := i + 4) G hX hbl hbA (nI_add i 4) (by omega) hN eL_law_1621 ?_
  refine V_aload_n (i := 0) G eL_law_1622 rfl rfl ?_
  refine V_iload G eL_law_1623 rfl ?_
  refine V_iconst (n := 5) (v := (nI 5)) G eL_law_1625 rfl ?_
  refine V_iadd G eL_law_1626 ?_
  refine V_scr (i := i + 5) G hX hbl hbA (nI_add i 5) (by omega) hN eL_law_1627 ?_
  refine V_callI (As := [.int (xs (i + 1)), .int (xs (i + 2)), .int (xs (i + 3)), .int (xs (i + 4)), .int (xs (i + 5))]) (st := []) G lkL_160 (B_messes_ok h1) (by decide) rfl rfl (Nat.le_of_ble_eq_true rfl) eL_law_1628 ?_
  refine V_aload_n (i := 2) G eL_law_1631 rfl rfl ?_
  refine V_aload_n (i := 0) G eL_law_1632 rfl rfl ?_
  refine V_iload G eL_law_1633 rfl ?_
  refine V_iconst (n := 1) (v := (nI 1)) G eL_law_1635 rfl ?_
  refine V_iadd G eL_law_1636 ?_
  refine V_scr (i := i + 1) G hX hbl hbA (nI_add i 1) (by omega) hN eL_law_1637 ?_
  refine V_aload_n (i := 0) G eL_law_1638 rfl rfl ?_
  refine V_iload G eL_law_1639 rfl ?_
  refine V_iconst (n := 2) (v := (nI 2)) G eL_law_1641 rfl ?_
  refine V_iadd G eL_law_1642 ?_
  refine V_scr (i := i + 2) G hX hbl hbA (nI_add i 2) (by omega) hN eL_law_1643 ?_
  refine V_aload_n (i := 0) G eL_law_1644 rfl rfl ?_
  refine V_iload G eL_law_1645 rfl ?_
  refine V_iconst (n := 3) (v := (nI 3)) G eL_law_1647 rfl ?_
  refine V_iadd G eL_law_1648 ?_
  refine V_scr (i := i + 3) G hX hbl hbA (nI_add i 3) (by omega) hN eL_law_1649 ?_
  refine V_aload_n (i := 0) G eL_law_1650 rfl rfl ?_
  refine V_iload G eL_law_1651 rfl ?_
  refine V_iconst (n := 4) (v := (nI 4)) G eL_law_1653 rfl ?_
  refine V_iadd G eL_law_1654 ?_
  refine V_scr (i := i + 4) G hX hbl hbA (nI_add i 4) (by omega) hN eL_law_1655 ?_
  refine V_aload_n (i := 0) G eL_law_1656 rfl rfl ?_
  refine V_iload G eL_law_1657 rfl ?_
  refine V_iconst (n := 5) (v := (nI 5)) G eL_law_1659 rfl ?_
  refine V_iadd G eL_law_1660 ?_
  refine V_scr (i := i + 5) G hX hbl hbA (nI_add i 5) (by omega) hN eL_law_1661 ?_
  refine V_callI (As := [.int (xs (i + 1)), .int (xs (i + 2)), .int (xs (i + 3)), .int (xs (i + 4)), .int (xs (i + 5))]) (st := [.int r]) G lkL_163 (M_messes_ok h2) (by decide) rfl rfl (Nat.le_of_ble_eq_true rfl) eL_law_1662 ?_
  refine V_eqqT G eL_law_1665 rfl ?_
  exact k
set_option maxRecDepth 100000 in
set_option maxHeartbeats 4000000 in
theorem law_32 {p : Program} {l : Launch} {e : Env} {R : Room} {s : State} {m : MethodId} {args : Array Value} {below : List Frame} {meth : Method} {c : Code} {w : Wld} {Q : State → Prop} {kc ns : Nat} (G : Cxt p R s m args meth c w code 7 "PotBookLaw" 200 kc ns) {b N i : Nat} {xs : Nat → Int32} (hX : va_X b N xs s s.heap) (hbl : b < s.heap.size) (hbA : ¬ w.2.2.2 b) (hi : i + 7 ≤ N) (hN : N ≤ 3584) {μ μ2 : Mem} (h : St_32 (xs (i + 1)) μ μ2) (k : Vj p l e R s m args below meth c w 7 kc ns Q 2568 [some (.ref b), some (.ref (wad w 11 0)), some (.ref (wad w 12 0)), some (.ref (wad w 1400 0)), some (.int (nI i)), none, none] [] μ2) : Vj p l e R s m args below meth c w 7 kc ns Q 1670 [some (.ref b), some (.ref (wad w 11 0)), some (.ref (wad w 12 0)), some (.ref (wad w 1400 0)), some (.int (nI i)), none, none] [] μ := by
  obtain ⟨r, h1, h2, rfl⟩ := h
  refine V_aload_n (i := 1) G eL_law_1670 rfl rfl ?_
  refine V_aload_n (i := 0) G eL_law_1671 rfl rfl ?_
  refine V_iload G eL_law_1672 rfl ?_
  refine V_iconst (n := 1) (v := (nI 1)) G eL_law_1674 rfl ?_
  refine V_iadd G eL_law_1675 ?_
  refine V_scr (i := i + 1) G hX hbl hbA (nI_add i 1) (by omega) hN eL_law_1676 ?_
  refine V_callI (As := [.int (xs (i + 1))]) (st := []) G lkL_164 (B_months_ok h1) (by decide) rfl rfl (Nat.le_of_ble_eq_true rfl) eL_law_1677 ?_
  refine V_aload_n (i := 2) G eL_law_1680 rfl rfl ?_
  refine V_aload_n (i := 0) G eL_law_1681 rfl rfl ?_
  refine V_iload G eL_law_1682 rfl ?_
  refine V_iconst (n := 1) (v := (nI 1)) G eL_law_1684 rfl ?_
  refine V_iadd G eL_law_1685 ?_
  refine V_scr (i := i + 1) G hX hbl hbA (nI_add i 1) (by omega) hN eL_law_1686 ?_
  refine V_callI (As := [.int (xs (i + 1))]) (st := [.int r]) G lkL_167 (M_months_ok h2) (by decide) rfl rfl (Nat.le_of_ble_eq_true rfl) eL_law_1687 ?_
  refine V_eqqT G eL_law_1690 rfl ?_
  exact k
set_option maxRecDepth 100000 in
set_option maxHeartbeats 4000000 in
theorem law_33 {p : Program} {l : Launch} {e : Env} {R : Room} {s : State} {m : MethodId} {args : Array Value} {below : List Frame} {meth : Method} {c : Code} {w : Wld} {Q : State → Prop} {kc ns : Nat} (G : Cxt p R s m args meth c w code 7 "PotBookLaw" 200 kc ns) {b N i : Nat} {xs : Nat → Int32} (hX : va_X b N xs s s.heap) (hbl : b < s.heap.size) (hbA : ¬ w.2.2.2 b) (hi : i + 7 ≤ N) (hN : N ≤ 3584) {μ μ2 : Mem} (h : St_33 (xs (i + 1)) (xs (i + 2)) μ μ2) (k : Vj p l e R s m args below meth c w 7 kc ns Q 2568 [some (.ref b), some (.ref (wad w 11 0)), some (.ref (wad w 12 0)), some (.ref (wad w 1400 0)), some (.int (nI i)), none, none] [] μ2) : Vj p l e R s m args below meth c w 7 kc ns Q 1695 [some (.ref b), some (.ref (wad w 11 0)), some (.ref (wad w 12 0)), some (.ref (wad w 1400 0)), some (.int (nI i)), none, none] [] μ := by
  obtain ⟨r, h1, h2⟩ := h
  refine V_aload_n (i := 1) G eL_law_1695 rfl rfl ?_
  refine V_aload_n (i := 0) G eL_law_1696 rfl rfl ?_
  refine V_iload G eL_law_1697 rfl ?_
  refine V_iconst (n := 1) (v := (nI 1)) G eL_law_1699 rfl ?_
  refine V_iadd G eL_law_1700 ?_
  refine V_scr (i := i + 1) G hX hbl hbA (nI_add i 1) (by omega) hN eL_law_1701 ?_
  refine V_aload_n (i := 0) G eL_law_1702 rfl rfl ?_
  refine V_iload G eL_law_1703 rfl ?_
  refine V_iconst (n := 2) (v := (nI 2)) G eL_law_1705 rfl ?_
  refine V_iadd G eL_law_1706 ?_
  refine V_scr (i := i + 2) G hX hbl hbA (nI_add i 2) (by omega) hN eL_law_1707 ?_
  refine V_callI (As := [.int (xs (i + 1)), .int (xs (i + 2))]) (st := []) G lkL_168 (B_far_ok h1) (by decide) rfl rfl (Nat.le_of_ble_eq_true rfl) eL_law_1708 ?_
  refine V_aload_n (i := 2) G eL_law_1711 rfl rfl ?_
  refine V_aload_n (i := 0) G eL_law_1712 rfl rfl ?_
  refine V_iload G eL_law_1713 rfl ?_
  refine V_iconst (n := 1) (v := (nI 1)) G eL_law_1715 rfl ?_
  refine V_iadd G eL_law_1716 ?_
  refine V_scr (i := i + 1) G hX hbl hbA (nI_add i 1) (by omega) hN eL_law_1717 ?_
  refine V_aload_n (i := 0) G eL_law_1718 rfl rfl ?_
  refine V_iload G eL_law_1719 rfl ?_
  refine V_iconst (n := 2) (v := (nI 2)) G eL_law_1721 rfl ?_
  refine V_iadd G eL_law_1722 ?_
  refine V_scr (i := i + 2) G hX hbl hbA (nI_add i 2) (by omega) hN eL_law_1723 ?_
  refine V_callI (As := [.int (xs (i + 1)), .int (xs (i + 2))]) (st := [.int r]) G lkL_171 (M_far_ok h2) (by decide) rfl rfl (Nat.le_of_ble_eq_true rfl) eL_law_1724 ?_
  refine V_eqqT G eL_law_1727 rfl ?_
  exact k
set_option maxRecDepth 100000 in
set_option maxHeartbeats 4000000 in
theorem law_34 {p : Program} {l : Launch} {e : Env} {R : Room} {s : State} {m : MethodId} {args : Array Value} {below : List Frame} {meth : Method} {c : Code} {w : Wld} {Q : State → Prop} {kc ns : Nat} (G : Cxt p R s m args meth c w code 7 "PotBookLaw" 200 kc ns) {b N i : Nat} {xs : Nat → Int32} (hX : va_X b N xs s s.heap) (hbl : b < s.heap.size) (hbA : ¬ w.2.2.2 b) (hi : i + 7 ≤ N) (hN : N ≤ 3584) {μ μ2 : Mem} (h : St_34 (xs (i + 1)) μ μ2) (k : Vj p l e R s m args below meth c w 7 kc ns Q 2568 [some (.ref b), some (.ref (wad w 11 0)), some (.ref (wad w 12 0)), some (.ref (wad w 1400 0)), some (.int (nI i)), none, none] [] μ2) : Vj p l e R s m args below meth c w 7 kc ns Q 1732 [some (.ref b), some (.ref (wad w 11 0)), some (.ref (wad w 12 0)), some (.ref (wad w 1400 0)), some (.int (nI i)), none, none] [] μ := by
  obtain ⟨r, h1, h2⟩ := h
  refine V_aload_n (i := 1) G eL_law_1732 rfl rfl ?_
  refine V_aload_n (i := 0) G eL_law_1733 rfl rfl ?_
  refine V_iload G eL_law_1734 rfl ?_
  refine V_iconst (n := 1) (v := (nI 1)) G eL_law_1736 rfl ?_
  refine V_iadd G eL_law_1737 ?_
  refine V_scr (i := i + 1) G hX hbl hbA (nI_add i 1) (by omega) hN eL_law_1738 ?_
  refine V_callI (As := [.int (xs (i + 1))]) (st := []) G lkL_172 (B_came_ok h1) (by decide) rfl rfl (Nat.le_of_ble_eq_true rfl) eL_law_1739 ?_
  refine V_aload_n (i := 2) G eL_law_1742 rfl rfl ?_
  refine V_aload_n (i := 0) G eL_law_1743 rfl rfl ?_
  refine V_iload G eL_law_1744 rfl ?_
  refine V_iconst (n := 1) (v := (nI 1)) G eL_law_1746 rfl ?_
  refine V_iadd G eL_law_1747 ?_
  refine V_scr (i := i + 1) G hX hbl hbA (nI_add i 1) (by omega) hN eL_law_1748 ?_
  refine V_callI (As := [.int (xs (i + 1))]) (st := [.int r]) G lkL_175 (M_came_ok h2) (by decide) rfl rfl (Nat.le_of_ble_eq_true rfl) eL_law_1749 ?_
  refine V_eqqT G eL_law_1752 rfl ?_
  exact k
set_option maxRecDepth 100000 in
set_option maxHeartbeats 4000000 in
theorem law_35 {p : Program} {l : Launch} {e : Env} {R : Room} {s : State} {m : MethodId} {args : Array Value} {below : List Frame} {meth : Method} {c : Code} {w : Wld} {Q : State → Prop} {kc ns : Nat} (G : Cxt p R s m args meth c w code 7 "PotBookLaw" 200 kc ns) {b N i : Nat} {xs : Nat → Int32} (hX : va_X b N xs s s.heap) (hbl : b < s.heap.size) (hbA : ¬ w.2.2.2 b) (hi : i + 7 ≤ N) (hN : N ≤ 3584) {μ μ2 : Mem} (h : St_35 μ μ2) (k : Vj p l e R s m args below meth c w 7 kc ns Q 2568 [some (.ref b), some (.ref (wad w 11 0)), some (.ref (wad w 12 0)), some (.ref (wad w 1400 0)), some (.int (nI i)), none, none] [] μ2) : Vj p l e R s m args below meth c w 7 kc ns Q 1757 [some (.ref b), some (.ref (wad w 11 0)), some (.ref (wad w 12 0)), some (.ref (wad w 1400 0)), some (.int (nI i)), none, none] [] μ := by
  obtain ⟨r, μ1, h1, h2⟩ := h
  refine V_aload_n (i := 1) G eL_law_1757 rfl rfl ?_
  refine V_callI (As := []) (st := []) G lkL_176 (B_tree_ok h1) (by decide) rfl rfl (Nat.le_of_ble_eq_true rfl) eL_law_1758 ?_
  refine V_aload_n (i := 2) G eL_law_1761 rfl rfl ?_
  refine V_callI (As := []) (st := [.int r]) G lkL_179 (M_tree_ok h2) (by decide) rfl rfl (Nat.le_of_ble_eq_true rfl) eL_law_1762 ?_
  refine V_eqqT G eL_law_1765 rfl ?_
  exact k
set_option maxRecDepth 100000 in
set_option maxHeartbeats 4000000 in
theorem law_36 {p : Program} {l : Launch} {e : Env} {R : Room} {s : State} {m : MethodId} {args : Array Value} {below : List Frame} {meth : Method} {c : Code} {w : Wld} {Q : State → Prop} {kc ns : Nat} (G : Cxt p R s m args meth c w code 7 "PotBookLaw" 200 kc ns) {b N i : Nat} {xs : Nat → Int32} (hX : va_X b N xs s s.heap) (hbl : b < s.heap.size) (hbA : ¬ w.2.2.2 b) (hi : i + 7 ≤ N) (hN : N ≤ 3584) {μ μ2 : Mem} (h : St_36 (xs (i + 1)) (xs (i + 2)) μ μ2) (k : Vj p l e R s m args below meth c w 7 kc ns Q 2568 [some (.ref b), some (.ref (wad w 11 0)), some (.ref (wad w 12 0)), some (.ref (wad w 1400 0)), some (.int (nI i)), none, none] [] μ2) : Vj p l e R s m args below meth c w 7 kc ns Q 1770 [some (.ref b), some (.ref (wad w 11 0)), some (.ref (wad w 12 0)), some (.ref (wad w 1400 0)), some (.int (nI i)), none, none] [] μ := by
  obtain ⟨r, μ1, h1, h2⟩ := h
  refine V_aload_n (i := 1) G eL_law_1770 rfl rfl ?_
  refine V_aload_n (i := 0) G eL_law_1771 rfl rfl ?_
  refine V_iload G eL_law_1772 rfl ?_
  refine V_iconst (n := 1) (v := (nI 1)) G eL_law_1774 rfl ?_
  refine V_iadd G eL_law_1775 ?_
  refine V_scr (i := i + 1) G hX hbl hbA (nI_add i 1) (by omega) hN eL_law_1776 ?_
  refine V_aload_n (i := 0) G eL_law_1777 rfl rfl ?_
  refine V_iload G eL_law_1778 rfl ?_
  refine V_iconst (n := 2) (v := (nI 2)) G eL_law_1780 rfl ?_
  refine V_iadd G eL_law_1781 ?_
  refine V_scr (i := i + 2) G hX hbl hbA (nI_add i 2) (by omega) hN eL_law_1782 ?_
  refine V_callI (As := [.int (xs (i + 1)), .int (xs (i + 2))]) (st := []) G lkL_180 (B_wrote_ok h1) (by decide) rfl rfl (Nat.le_of_ble_eq_true rfl) eL_law_1783 ?_
  refine V_aload_n (i := 2) G eL_law_1786 rfl rfl ?_
  refine V_aload_n (i := 0) G eL_law_1787 rfl rfl ?_
  refine V_iload G eL_law_1788 rfl ?_
  refine V_iconst (n := 1) (v := (nI 1)) G eL_law_1790 rfl ?_
  refine V_iadd G eL_law_1791 ?_
  refine V_scr (i := i + 1) G hX hbl hbA (nI_add i 1) (by omega) hN eL_law_1792 ?_
  refine V_aload_n (i := 0) G eL_law_1793 rfl rfl ?_
  refine V_iload G eL_law_1794 rfl ?_
  refine V_iconst (n := 2) (v := (nI 2)) G eL_law_1796 rfl ?_
  refine V_iadd G eL_law_1797 ?_
  refine V_scr (i := i + 2) G hX hbl hbA (nI_add i 2) (by omega) hN eL_law_1798 ?_
  refine V_callI (As := [.int (xs (i + 1)), .int (xs (i + 2))]) (st := [.int r]) G lkL_183 (M_wrote_ok h2) (by decide) rfl rfl (Nat.le_of_ble_eq_true rfl) eL_law_1799 ?_
  refine V_eqqT G eL_law_1802 rfl ?_
  exact k
set_option maxRecDepth 100000 in
set_option maxHeartbeats 4000000 in
theorem law_37 {p : Program} {l : Launch} {e : Env} {R : Room} {s : State} {m : MethodId} {args : Array Value} {below : List Frame} {meth : Method} {c : Code} {w : Wld} {Q : State → Prop} {kc ns : Nat} (G : Cxt p R s m args meth c w code 7 "PotBookLaw" 200 kc ns) {b N i : Nat} {xs : Nat → Int32} (hX : va_X b N xs s s.heap) (hbl : b < s.heap.size) (hbA : ¬ w.2.2.2 b) (hi : i + 7 ≤ N) (hN : N ≤ 3584) {μ μ2 : Mem} (h : St_37 (xs (i + 1)) (xs (i + 2)) (xs (i + 3)) μ μ2) (k : Vj p l e R s m args below meth c w 7 kc ns Q 2568 [some (.ref b), some (.ref (wad w 11 0)), some (.ref (wad w 12 0)), some (.ref (wad w 1400 0)), some (.int (nI i)), none, none] [] μ2) : Vj p l e R s m args below meth c w 7 kc ns Q 1807 [some (.ref b), some (.ref (wad w 11 0)), some (.ref (wad w 12 0)), some (.ref (wad w 1400 0)), some (.int (nI i)), none, none] [] μ := by
  obtain ⟨r, h1, h2, rfl⟩ := h
  refine V_aload_n (i := 1) G eL_law_1807 rfl rfl ?_
  refine V_aload_n (i := 0) G eL_law_1808 rfl rfl ?_
  refine V_iload G eL_law_1809 rfl ?_
  refine V_iconst (n := 1) (v := (nI 1)) G eL_law_1811 rfl ?_
  refine V_iadd G eL_law_1812 ?_
  refine V_scr (i := i + 1) G hX hbl hbA (nI_add i 1) (by omega) hN eL_law_1813 ?_
  refine V_aload_n (i := 0) G eL_law_1814 rfl rfl ?_
  refine V_iload G eL_law_1815 rfl ?_
  refine V_iconst (n := 2) (v := (nI 2)) G eL_law_1817 rfl ?_
  refine V_iadd G eL_law_1818 ?_
  refine V_scr (i := i + 2) G hX hbl hbA (nI_add i 2) (by omega) hN eL_law_1819 ?_
  refine V_aload_n (i := 0) G eL_law_1820 rfl rfl ?_
  refine V_iload G eL_law_1821 rfl ?_
  refine V_iconst (n := 3) (v := (nI 3)) G eL_law_1823 rfl ?_
  refine V_iadd G eL_law_1824 ?_
  refine V_scr (i := i + 3) G hX hbl hbA (nI_add i 3) (by omega) hN eL_law_1825 ?_
  refine V_callI (As := [.int (xs (i + 1)), .int (xs (i + 2)), .int (xs (i + 3))]) (st := []) G lkL_184 (B_leaves_ok h1) (by decide) rfl rfl (Nat.le_of_ble_eq_true rfl) eL_law_1826 ?_
  refine V_aload_n (i := 2) G eL_law_1829 rfl rfl ?_
  refine V_aload_n (i := 0) G eL_law_1830 rfl rfl ?_
  refine V_iload G eL_law_1831 rfl ?_
  refine V_iconst (n := 1) (v := (nI 1)) G eL_law_1833 rfl ?_
  refine V_iadd G eL_law_1834 ?_
  refine V_scr (i := i + 1) G hX hbl hbA (nI_add i 1) (by omega) hN eL_law_1835 ?_
  refine V_aload_n (i := 0) G eL_law_1836 rfl rfl ?_
  refine V_iload G eL_law_1837 rfl ?_
  refine V_iconst (n := 2) (v := (nI 2)) G eL_law_1839 rfl ?_
  refine V_iadd G eL_law_1840 ?_
  refine V_scr (i := i + 2) G hX hbl hbA (nI_add i 2) (by omega) hN eL_law_1841 ?_
  refine V_aload_n (i := 0) G eL_law_1842 rfl rfl ?_
  refine V_iload G eL_law_1843 rfl ?_
  refine V_iconst (n := 3) (v := (nI 3)) G eL_law_1845 rfl ?_
  refine V_iadd G eL_law_1846 ?_
  refine V_scr (i := i + 3) G hX hbl hbA (nI_add i 3) (by omega) hN eL_law_1847 ?_
  refine V_callI (As := [.int (xs (i + 1)), .int (xs (i + 2)), .int (xs (i + 3))]) (st := [.int r]) G lkL_187 (M_leaves_ok h2) (by decide) rfl rfl (Nat.le_of_ble_eq_true rfl) eL_law_1848 ?_
  refine V_eqqT G eL_law_1851 rfl ?_
  exact k
set_option maxRecDepth 100000 in
set_option maxHeartbeats 4000000 in
theorem law_38 {p : Program} {l : Launch} {e : Env} {R : Room} {s : State} {m : MethodId} {args : Array Value} {below : List Frame} {meth : Method} {c : Code} {w : Wld} {Q : State → Prop} {kc ns : Nat} (G : Cxt p R s m args meth c w code 7 "PotBookLaw" 200 kc ns) {b N i : Nat} {xs : Nat → Int32} (hX : va_X b N xs s s.heap) (hbl : b < s.heap.size) (hbA : ¬ w.2.2.2 b) (hi : i + 7 ≤ N) (hN : N ≤ 3584) {μ μ2 : Mem} (h : St_38 (xs (i + 1)) μ μ2) (k : Vj p l e R s m args below meth c w 7 kc ns Q 2568 [some (.ref b), some (.ref (wad w 11 0)), some (.ref (wad w 12 0)), some (.ref (wad w 1400 0)), some (.int (nI i)), none, none] [] μ2) : Vj p l e R s m args below meth c w 7 kc ns Q 1856 [some (.ref b), some (.ref (wad w 11 0)), some (.ref (wad w 12 0)), some (.ref (wad w 1400 0)), some (.int (nI i)), none, none] [] μ := by
  obtain ⟨r, h1, h2, rfl⟩ := h
  refine V_aload_n (i := 1) G eL_law_1856 rfl rfl ?_
  refine V_aload_n (i := 0) G eL_law_1857 rfl rfl ?_
  refine V_iload G eL_law_1858 rfl ?_
  refine V_iconst (n := 1) (v := (nI 1)) G eL_law_1860 rfl ?_
  refine V_iadd G eL_law_1861 ?_
  refine V_scr (i := i + 1) G hX hbl hbA (nI_add i 1) (by omega) hN eL_law_1862 ?_
  refine V_callI (As := [.int (xs (i + 1))]) (st := []) G lkL_188 (B_twice_ok h1) (by decide) rfl rfl (Nat.le_of_ble_eq_true rfl) eL_law_1863 ?_
  refine V_aload_n (i := 2) G eL_law_1866 rfl rfl ?_
  refine V_aload_n (i := 0) G eL_law_1867 rfl rfl ?_
  refine V_iload G eL_law_1868 rfl ?_
  refine V_iconst (n := 1) (v := (nI 1)) G eL_law_1870 rfl ?_
  refine V_iadd G eL_law_1871 ?_
  refine V_scr (i := i + 1) G hX hbl hbA (nI_add i 1) (by omega) hN eL_law_1872 ?_
  refine V_callI (As := [.int (xs (i + 1))]) (st := [.int r]) G lkL_191 (M_twice_ok h2) (by decide) rfl rfl (Nat.le_of_ble_eq_true rfl) eL_law_1873 ?_
  refine V_eqqT G eL_law_1876 rfl ?_
  exact k
set_option maxRecDepth 100000 in
set_option maxHeartbeats 4000000 in
theorem law_39 {p : Program} {l : Launch} {e : Env} {R : Room} {s : State} {m : MethodId} {args : Array Value} {below : List Frame} {meth : Method} {c : Code} {w : Wld} {Q : State → Prop} {kc ns : Nat} (G : Cxt p R s m args meth c w code 7 "PotBookLaw" 200 kc ns) {b N i : Nat} {xs : Nat → Int32} (hX : va_X b N xs s s.heap) (hbl : b < s.heap.size) (hbA : ¬ w.2.2.2 b) (hi : i + 7 ≤ N) (hN : N ≤ 3584) {μ μ2 : Mem} (h : St_39 (xs (i + 1)) (xs (i + 2)) (xs (i + 3)) μ μ2) (k : Vj p l e R s m args below meth c w 7 kc ns Q 2568 [some (.ref b), some (.ref (wad w 11 0)), some (.ref (wad w 12 0)), some (.ref (wad w 1400 0)), some (.int (nI i)), none, none] [] μ2) : Vj p l e R s m args below meth c w 7 kc ns Q 1881 [some (.ref b), some (.ref (wad w 11 0)), some (.ref (wad w 12 0)), some (.ref (wad w 1400 0)), some (.int (nI i)), none, none] [] μ := by
  obtain ⟨r, μ1, h1, h2⟩ := h
  refine V_aload_n (i := 1) G eL_law_1881 rfl rfl ?_
  refine V_aload_n (i := 0) G eL_law_1882 rfl rfl ?_
  refine V_iload G eL_law_1883 rfl ?_
  refine V_iconst (n := 1) (v := (nI 1)) G eL_law_1885 rfl ?_
  refine V_iadd G eL_law_1886 ?_
  refine V_scr (i := i + 1) G hX hbl hbA (nI_add i 1) (by omega) hN eL_law_1887 ?_
  refine V_aload_n (i := 0) G eL_law_1888 rfl rfl ?_
  refine V_iload G eL_law_1889 rfl ?_
  refine V_iconst (n := 2) (v := (nI 2)) G eL_law_1891 rfl ?_
  refine V_iadd G eL_law_1892 ?_
  refine V_scr (i := i + 2) G hX hbl hbA (nI_add i 2) (by omega) hN eL_law_1893 ?_
  refine V_aload_n (i := 0) G eL_law_1894 rfl rfl ?_
  refine V_iload G eL_law_1895 rfl ?_
  refine V_iconst (n := 3) (v := (nI 3)) G eL_law_1897 rfl ?_
  refine V_iadd G eL_law_1898 ?_
  refine V_scr (i := i + 3) G hX hbl hbA (nI_add i 3) (by omega) hN eL_law_1899 ?_
  refine V_callI (As := [.int (xs (i + 1)), .int (xs (i + 2)), .int (xs (i + 3))]) (st := []) G lkL_192 (B_weight_ok h1) (by decide) rfl rfl (Nat.le_of_ble_eq_true rfl) eL_law_1900 ?_
  refine V_aload_n (i := 2) G eL_law_1903 rfl rfl ?_
  refine V_aload_n (i := 0) G eL_law_1904 rfl rfl ?_
  refine V_iload G eL_law_1905 rfl ?_
  refine V_iconst (n := 1) (v := (nI 1)) G eL_law_1907 rfl ?_
  refine V_iadd G eL_law_1908 ?_
  refine V_scr (i := i + 1) G hX hbl hbA (nI_add i 1) (by omega) hN eL_law_1909 ?_
  refine V_aload_n (i := 0) G eL_law_1910 rfl rfl ?_
  refine V_iload G eL_law_1911 rfl ?_
  refine V_iconst (n := 2) (v := (nI 2)) G eL_law_1913 rfl ?_
  refine V_iadd G eL_law_1914 ?_
  refine V_scr (i := i + 2) G hX hbl hbA (nI_add i 2) (by omega) hN eL_law_1915 ?_
  refine V_aload_n (i := 0) G eL_law_1916 rfl rfl ?_
  refine V_iload G eL_law_1917 rfl ?_
  refine V_iconst (n := 3) (v := (nI 3)) G eL_law_1919 rfl ?_
  refine V_iadd G eL_law_1920 ?_
  refine V_scr (i := i + 3) G hX hbl hbA (nI_add i 3) (by omega) hN eL_law_1921 ?_
  refine V_callI (As := [.int (xs (i + 1)), .int (xs (i + 2)), .int (xs (i + 3))]) (st := [.int r]) G lkL_195 (M_weight_ok h2) (by decide) rfl rfl (Nat.le_of_ble_eq_true rfl) eL_law_1922 ?_
  refine V_eqqT G eL_law_1925 rfl ?_
  exact k
set_option maxRecDepth 100000 in
set_option maxHeartbeats 4000000 in
theorem law_40 {p : Program} {l : Launch} {e : Env} {R : Room} {s : State} {m : MethodId} {args : Array Value} {below : List Frame} {meth : Method} {c : Code} {w : Wld} {Q : State → Prop} {kc ns : Nat} (G : Cxt p R s m args meth c w code 7 "PotBookLaw" 200 kc ns) {b N i : Nat} {xs : Nat → Int32} (hX : va_X b N xs s s.heap) (hbl : b < s.heap.size) (hbA : ¬ w.2.2.2 b) (hi : i + 7 ≤ N) (hN : N ≤ 3584) {μ μ2 : Mem} (h : St_40 (xs (i + 1)) (xs (i + 2)) (xs (i + 3)) (xs (i + 4)) μ μ2) (k : Vj p l e R s m args below meth c w 7 kc ns Q 2568 [some (.ref b), some (.ref (wad w 11 0)), some (.ref (wad w 12 0)), some (.ref (wad w 1400 0)), some (.int (nI i)), none, none] [] μ2) : Vj p l e R s m args below meth c w 7 kc ns Q 1930 [some (.ref b), some (.ref (wad w 11 0)), some (.ref (wad w 12 0)), some (.ref (wad w 1400 0)), some (.int (nI i)), none, none] [] μ := by
  obtain ⟨r, μ1, h1, h2⟩ := h
  refine V_aload_n (i := 1) G eL_law_1930 rfl rfl ?_
  refine V_aload_n (i := 0) G eL_law_1931 rfl rfl ?_
  refine V_iload G eL_law_1932 rfl ?_
  refine V_iconst (n := 1) (v := (nI 1)) G eL_law_1934 rfl ?_
  refine V_iadd G eL_law_1935 ?_
  refine V_scr (i := i + 1) G hX hbl hbA (nI_add i 1) (by omega) hN eL_law_1936 ?_
  refine V_aload_n (i := 0) G eL_law_1937 rfl rfl ?_
  refine V_iload G eL_law_1938 rfl ?_
  refine V_iconst (n := 2) (v := (nI 2)) G eL_law_1940 rfl ?_
  refine V_iadd G eL_law_1941 ?_
  refine V_scr (i := i + 2) G hX hbl hbA (nI_add i 2) (by omega) hN eL_law_1942 ?_
  refine V_aload_n (i := 0) G eL_law_1943 rfl rfl ?_
  refine V_iload G eL_law_1944 rfl ?_
  refine V_iconst (n := 3) (v := (nI 3)) G eL_law_1946 rfl ?_
  refine V_iadd G eL_law_1947 ?_
  refine V_scr (i := i + 3) G hX hbl hbA (nI_add i 3) (by omega) hN eL_law_1948 ?_
  refine V_aload_n (i := 0) G eL_law_1949 rfl rfl ?_
  refine V_iload G eL_law_1950 rfl ?_
  refine V_iconst (n := 4) (v := (nI 4)) G eL_law_1952 rfl ?_
  refine V_iadd G eL_law_1953 ?_
  refine V_scr (i := i + 4) G hX hbl hbA (nI_add i 4) (by omega) hN eL_law_1954 ?_
  refine V_callI (As := [.int (xs (i + 1)), .int (xs (i + 2)), .int (xs (i + 3)), .int (xs (i + 4))]) (st := []) G lkL_196 (B_serves_ok h1) (by decide) rfl rfl (Nat.le_of_ble_eq_true rfl) eL_law_1955 ?_
  refine V_aload_n (i := 2) G eL_law_1958 rfl rfl ?_
  refine V_aload_n (i := 0) G eL_law_1959 rfl rfl ?_
  refine V_iload G eL_law_1960 rfl ?_
  refine V_iconst (n := 1) (v := (nI 1)) G eL_law_1962 rfl ?_
  refine V_iadd G eL_law_1963 ?_
  refine V_scr (i := i + 1) G hX hbl hbA (nI_add i 1) (by omega) hN eL_law_1964 ?_
  refine V_aload_n (i := 0) G eL_law_1965 rfl rfl ?_
  refine V_iload G eL_law_1966 rfl ?_
  refine V_iconst (n := 2) (v := (nI 2)) G eL_law_1968 rfl ?_
  refine V_iadd G eL_law_1969 ?_
  refine V_scr (i := i + 2) G hX hbl hbA (nI_add i 2) (by omega) hN eL_law_1970 ?_
  refine V_aload_n (i := 0) G eL_law_1971 rfl rfl ?_
  refine V_iload G eL_law_1972 rfl ?_
  refine V_iconst (n := 3) (v := (nI 3)) G eL_law_1974 rfl ?_
  refine V_iadd G eL_law_1975 ?_
  refine V_scr (i := i + 3) G hX hbl hbA (nI_add i 3) (by omega) hN eL_law_1976 ?_
  refine V_aload_n (i := 0) G eL_law_1977 rfl rfl ?_
  refine V_iload G eL_law_1978 rfl ?_
  refine V_iconst (n := 4) (v := (nI 4)) G eL_law_1980 rfl ?_
  refine V_iadd G eL_law_1981 ?_
  refine V_scr (i := i + 4) G hX hbl hbA (nI_add i 4) (by omega) hN eL_law_1982 ?_
  refine V_callI (As := [.int (xs (i + 1)), .int (xs (i + 2)), .int (xs (i + 3)), .int (xs (i + 4))]) (st := [.int r]) G lkL_199 (M_serves_ok h2) (by decide) rfl rfl (Nat.le_of_ble_eq_true rfl) eL_law_1983 ?_
  refine V_eqqT G eL_law_1986 rfl ?_
  exact k
set_option maxRecDepth 100000 in
set_option maxHeartbeats 4000000 in
theorem law_41 {p : Program} {l : Launch} {e : Env} {R : Room} {s : State} {m : MethodId} {args : Array Value} {below : List Frame} {meth : Method} {c : Code} {w : Wld} {Q : State → Prop} {kc ns : Nat} (G : Cxt p R s m args meth c w code 7 "PotBookLaw" 200 kc ns) {b N i : Nat} {xs : Nat → Int32} (hX : va_X b N xs s s.heap) (hbl : b < s.heap.size) (hbA : ¬ w.2.2.2 b) (hi : i + 7 ≤ N) (hN : N ≤ 3584) {μ μ2 : Mem} (h : St_41 (xs (i + 1)) (xs (i + 2)) (xs (i + 3)) (xs (i + 4)) μ μ2) (k : Vj p l e R s m args below meth c w 7 kc ns Q 2568 [some (.ref b), some (.ref (wad w 11 0)), some (.ref (wad w 12 0)), some (.ref (wad w 1400 0)), some (.int (nI i)), none, none] [] μ2) : Vj p l e R s m args below meth c w 7 kc ns Q 1991 [some (.ref b), some (.ref (wad w 11 0)), some (.ref (wad w 12 0)), some (.ref (wad w 1400 0)), some (.int (nI i)), none, none] [] μ := by
  obtain ⟨r, μ1, h1, h2⟩ := h
  refine V_aload_n (i := 1) G eL_law_1991 rfl rfl ?_
  refine V_aload_n (i := 0) G eL_law_1992 rfl rfl ?_
  refine V_iload G eL_law_1993 rfl ?_
  refine V_iconst (n := 1) (v := (nI 1)) G eL_law_1995 rfl ?_
  refine V_iadd G eL_law_1996 ?_
  refine V_scr (i := i + 1) G hX hbl hbA (nI_add i 1) (by omega) hN eL_law_1997 ?_
  refine V_aload_n (i := 0) G eL_law_1998 rfl rfl ?_
  refine V_iload G eL_law_1999 rfl ?_
  refine V_iconst (n := 2) (v := (nI 2)) G eL_law_2001 rfl ?_
  refine V_iadd G eL_law_2002 ?_
  refine V_scr (i := i + 2) G hX hbl hbA (nI_add i 2) (by omega) hN eL_law_2003 ?_
  refine V_aload_n (i := 0) G eL_law_2004 rfl rfl ?_
  refine V_iload G eL_law_2005 rfl ?_
  refine V_iconst (n := 3) (v := (nI 3)) G eL_law_2007 rfl ?_
  refine V_iadd G eL_law_2008 ?_
  refine V_scr (i := i + 3) G hX hbl hbA (nI_add i 3) (by omega) hN eL_law_2009 ?_
  refine V_aload_n (i := 0) G eL_law_2010 rfl rfl ?_
  refine V_iload G eL_law_2011 rfl ?_
  refine V_iconst (n := 4) (v := (nI 4)) G eL_law_2013 rfl ?_
  refine V_iadd G eL_law_2014 ?_
  refine V_scr (i := i + 4) G hX hbl hbA (nI_add i 4) (by omega) hN eL_law_2015 ?_
  refine V_callI (As := [.int (xs (i + 1)), .int (xs (i + 2)), .int (xs (i + 3)), .int (xs (i + 4))]) (st := []) G lkL_200 (B_boil_ok h1) (by decide) rfl rfl (Nat.le_of_ble_eq_true rfl) eL_law_2016 ?_
  refine V_aload_n (i := 2) G eL_law_2019 rfl rfl ?_
  refine V_aload_n (i := 0) G eL_law_2020 rfl rfl ?_
  refine V_iload G eL_law_2021 rfl ?_
  refine V_iconst (n := 1) (v := (nI 1)) G eL_law_2023 rfl ?_
  refine V_iadd G eL_law_2024 ?_
  refine V_scr (i := i + 1) G hX hbl hbA (nI_add i 1) (by omega) hN eL_law_2025 ?_
  refine V_aload_n (i := 0) G eL_law_2026 rfl rfl ?_
  refine V_iload G eL_law_2027 rfl ?_
  refine V_iconst (n := 2) (v := (nI 2)) G eL_law_2029 rfl ?_
  refine V_iadd G eL_law_2030 ?_
  refine V_scr (i := i + 2) G hX hbl hbA (nI_add i 2) (by omega) hN eL_law_2031 ?_
  refine V_aload_n (i := 0) G eL_law_2032 rfl rfl ?_
  refine V_iload G eL_law_2033 rfl ?_
  refine V_iconst (n := 3) (v := (nI 3)) G eL_law_2035 rfl ?_
  refine V_iadd G eL_law_2036 ?_
  refine V_scr (i := i + 3) G hX hbl hbA (nI_add i 3) (by omega) hN eL_law_2037 ?_
  refine V_aload_n (i := 0) G eL_law_2038 rfl rfl ?_
  refine V_iload G eL_law_2039 rfl ?_
  refine V_iconst (n := 4) (v := (nI 4)) G eL_law_2041 rfl ?_
  refine V_iadd G eL_law_2042 ?_
  refine V_scr (i := i + 4) G hX hbl hbA (nI_add i 4) (by omega) hN eL_law_2043 ?_
  refine V_callI (As := [.int (xs (i + 1)), .int (xs (i + 2)), .int (xs (i + 3)), .int (xs (i + 4))]) (st := [.int r]) G lkL_203 (M_boil_ok h2) (by decide) rfl rfl (Nat.le_of_ble_eq_true rfl) eL_law_2044 ?_
  refine V_eqqT G eL_law_2047 rfl ?_
  exact k
set_option maxRecDepth 100000 in
set_option maxHeartbeats 4000000 in
theorem law_42 {p : Program} {l : Launch} {e : Env} {R : Room} {s : State} {m : MethodId} {args : Array Value} {below : List Frame} {meth : Method} {c : Code} {w : Wld} {Q : State → Prop} {kc ns : Nat} (G : Cxt p R s m args meth c w code 7 "PotBookLaw" 200 kc ns) {b N i : Nat} {xs : Nat → Int32} (hX : va_X b N xs s s.heap) (hbl : b < s.heap.size) (hbA : ¬ w.2.2.2 b) (hi : i + 7 ≤ N) (hN : N ≤ 3584) {μ μ2 : Mem} (h : St_42 (xs (i + 1)) (xs (i + 2)) μ μ2) (k : Vj p l e R s m args below meth c w 7 kc ns Q 2568 [some (.ref b), some (.ref (wad w 11 0)), some (.ref (wad w 12 0)), some (.ref (wad w 1400 0)), some (.int (nI i)), none, none] [] μ2) : Vj p l e R s m args below meth c w 7 kc ns Q 2052 [some (.ref b), some (.ref (wad w 11 0)), some (.ref (wad w 12 0)), some (.ref (wad w 1400 0)), some (.int (nI i)), none, none] [] μ := by
  obtain ⟨r, h1, h2⟩ := h
  refine V_aload_n (i := 1) G eL_law_2052 rfl rfl ?_
  refine V_aload_n (i := 0) G eL_law_2053 rfl rfl ?_
  refine V_iload G eL_law_2054 rfl ?_
  refine V_iconst (n := 1) (v := (nI 1)) G eL_law_2056 rfl ?_
  refine V_iadd G eL_law_2057 ?_
  refine V_scr (i := i + 1) G hX hbl hbA (nI_add i 1) (by omega) hN eL_law_2058 ?_
  refine V_aload_n (i := 0) G eL_law_2059 rfl rfl ?_
  refine V_iload G eL_law_2060 rfl ?_
  refine V_iconst (n := 2) (v := (nI 2)) G eL_law_2062 rfl ?_
  refine V_iadd G eL_law_2063 ?_
  refine V_scr (i := i + 2) G hX hbl hbA (nI_add i 2) (by omega) hN eL_law_2064 ?_
  refine V_callI (As := [.int (xs (i + 1)), .int (xs (i + 2))]) (st := []) G lkL_204 (B_changed_ok h1) (by decide) rfl rfl (Nat.le_of_ble_eq_true rfl) eL_law_2065 ?_
  refine V_aload_n (i := 2) G eL_law_2068 rfl rfl ?_
  refine V_aload_n (i := 0) G eL_law_2069 rfl rfl ?_
  refine V_iload G eL_law_2070 rfl ?_
  refine V_iconst (n := 1) (v := (nI 1)) G eL_law_2072 rfl ?_
  refine V_iadd G eL_law_2073 ?_
  refine V_scr (i := i + 1) G hX hbl hbA (nI_add i 1) (by omega) hN eL_law_2074 ?_
  refine V_aload_n (i := 0) G eL_law_2075 rfl rfl ?_
  refine V_iload G eL_law_2076 rfl ?_
  refine V_iconst (n := 2) (v := (nI 2)) G eL_law_2078 rfl ?_
  refine V_iadd G eL_law_2079 ?_
  refine V_scr (i := i + 2) G hX hbl hbA (nI_add i 2) (by omega) hN eL_law_2080 ?_
  refine V_callI (As := [.int (xs (i + 1)), .int (xs (i + 2))]) (st := [.int r]) G lkL_207 (M_changed_ok h2) (by decide) rfl rfl (Nat.le_of_ble_eq_true rfl) eL_law_2081 ?_
  refine V_eqqT G eL_law_2084 rfl ?_
  exact k
set_option maxRecDepth 100000 in
set_option maxHeartbeats 4000000 in
theorem law_43 {p : Program} {l : Launch} {e : Env} {R : Room} {s : State} {m : MethodId} {args : Array Value} {below : List Frame} {meth : Method} {c : Code} {w : Wld} {Q : State → Prop} {kc ns : Nat} (G : Cxt p R s m args meth c w code 7 "PotBookLaw" 200 kc ns) {b N i : Nat} {xs : Nat → Int32} (hX : va_X b N xs s s.heap) (hbl : b < s.heap.size) (hbA : ¬ w.2.2.2 b) (hi : i + 7 ≤ N) (hN : N ≤ 3584) {μ μ2 : Mem} (h : St_43 (xs (i + 1)) μ μ2) (k : Vj p l e R s m args below meth c w 7 kc ns Q 2568 [some (.ref b), some (.ref (wad w 11 0)), some (.ref (wad w 12 0)), some (.ref (wad w 1400 0)), some (.int (nI i)), none, none] [] μ2) : Vj p l e R s m args below meth c w 7 kc ns Q 2089 [some (.ref b), some (.ref (wad w 11 0)), some (.ref (wad w 12 0)), some (.ref (wad w 1400 0)), some (.int (nI i)), none, none] [] μ := by
  obtain ⟨r, h1, h2⟩ := h
  refine V_aload_n (i := 1) G eL_law_2089 rfl rfl ?_
  refine V_aload_n (i := 0) G eL_law_2090 rfl rfl ?_
  refine V_iload G eL_law_2091 rfl ?_
  refine V_iconst (n := 1) (v := (nI 1)) G eL_law_2093 rfl ?_
  refine V_iadd G eL_law_2094 ?_
  refine V_scr (i := i + 1) G hX hbl hbA (nI_add i 1) (by omega) hN eL_law_2095 ?_
  refine V_callI (As := [.int (xs (i + 1))]) (st := []) G lkL_208 (B_line_ok h1) (by decide) rfl rfl (Nat.le_of_ble_eq_true rfl) eL_law_2096 ?_
  refine V_aload_n (i := 2) G eL_law_2099 rfl rfl ?_
  refine V_aload_n (i := 0) G eL_law_2100 rfl rfl ?_
  refine V_iload G eL_law_2101 rfl ?_
  refine V_iconst (n := 1) (v := (nI 1)) G eL_law_2103 rfl ?_
  refine V_iadd G eL_law_2104 ?_
  refine V_scr (i := i + 1) G hX hbl hbA (nI_add i 1) (by omega) hN eL_law_2105 ?_
  refine V_callI (As := [.int (xs (i + 1))]) (st := [.int r]) G lkL_211 (M_line_ok h2) (by decide) rfl rfl (Nat.le_of_ble_eq_true rfl) eL_law_2106 ?_
  refine V_eqqT G eL_law_2109 rfl ?_
  exact k
set_option maxRecDepth 100000 in
set_option maxHeartbeats 4000000 in
theorem law_44 {p : Program} {l : Launch} {e : Env} {R : Room} {s : State} {m : MethodId} {args : Array Value} {below : List Frame} {meth : Method} {c : Code} {w : Wld} {Q : State → Prop} {kc ns : Nat} (G : Cxt p R s m args meth c w code 7 "PotBookLaw" 200 kc ns) {b N i : Nat} {xs : Nat → Int32} (hX : va_X b N xs s s.heap) (hbl : b < s.heap.size) (hbA : ¬ w.2.2.2 b) (hi : i + 7 ≤ N) (hN : N ≤ 3584) {μ μ2 : Mem} (h : St_44 (xs (i + 1)) (xs (i + 2)) μ μ2) (k : Vj p l e R s m args below meth c w 7 kc ns Q 2568 [some (.ref b), some (.ref (wad w 11 0)), some (.ref (wad w 12 0)), some (.ref (wad w 1400 0)), some (.int (nI i)), none, none] [] μ2) : Vj p l e R s m args below meth c w 7 kc ns Q 2114 [some (.ref b), some (.ref (wad w 11 0)), some (.ref (wad w 12 0)), some (.ref (wad w 1400 0)), some (.int (nI i)), none, none] [] μ := by
  obtain ⟨r, h1, h2⟩ := h
  refine V_aload_n (i := 1) G eL_law_2114 rfl rfl ?_
  refine V_aload_n (i := 0) G eL_law_2115 rfl rfl ?_
  refine V_iload G eL_law_2116 rfl ?_
  refine V_iconst (n := 1) (v := (nI 1)) G eL_law_2118 rfl ?_
  refine V_iadd G eL_law_2119 ?_
  refine V_scr (i := i + 1) G hX hbl hbA (nI_add i 1) (by omega) hN eL_law_2120 ?_
  refine V_aload_n (i := 0) G eL_law_2121 rfl rfl ?_
  refine V_iload G eL_law_2122 rfl ?_
  refine V_iconst (n := 2) (v := (nI 2)) G eL_law_2124 rfl ?_
  refine V_iadd G eL_law_2125 ?_
  refine V_scr (i := i + 2) G hX hbl hbA (nI_add i 2) (by omega) hN eL_law_2126 ?_
  refine V_callI (As := [.int (xs (i + 1)), .int (xs (i + 2))]) (st := []) G lkL_212 (B_stem_ok h1) (by decide) rfl rfl (Nat.le_of_ble_eq_true rfl) eL_law_2127 ?_
  refine V_aload_n (i := 2) G eL_law_2130 rfl rfl ?_
  refine V_aload_n (i := 0) G eL_law_2131 rfl rfl ?_
  refine V_iload G eL_law_2132 rfl ?_
  refine V_iconst (n := 1) (v := (nI 1)) G eL_law_2134 rfl ?_
  refine V_iadd G eL_law_2135 ?_
  refine V_scr (i := i + 1) G hX hbl hbA (nI_add i 1) (by omega) hN eL_law_2136 ?_
  refine V_aload_n (i := 0) G eL_law_2137 rfl rfl ?_
  refine V_iload G eL_law_2138 rfl ?_
  refine V_iconst (n := 2) (v := (nI 2)) G eL_law_2140 rfl ?_
  refine V_iadd G eL_law_2141 ?_
  refine V_scr (i := i + 2) G hX hbl hbA (nI_add i 2) (by omega) hN eL_law_2142 ?_
  refine V_callI (As := [.int (xs (i + 1)), .int (xs (i + 2))]) (st := [.int r]) G lkL_215 (M_stem_ok h2) (by decide) rfl rfl (Nat.le_of_ble_eq_true rfl) eL_law_2143 ?_
  refine V_eqqT G eL_law_2146 rfl ?_
  exact k
set_option maxRecDepth 100000 in
set_option maxHeartbeats 4000000 in
theorem law_45 {p : Program} {l : Launch} {e : Env} {R : Room} {s : State} {m : MethodId} {args : Array Value} {below : List Frame} {meth : Method} {c : Code} {w : Wld} {Q : State → Prop} {kc ns : Nat} (G : Cxt p R s m args meth c w code 7 "PotBookLaw" 200 kc ns) {b N i : Nat} {xs : Nat → Int32} (hX : va_X b N xs s s.heap) (hbl : b < s.heap.size) (hbA : ¬ w.2.2.2 b) (hi : i + 7 ≤ N) (hN : N ≤ 3584) {μ μ2 : Mem} (h : St_45 (xs (i + 1)) (xs (i + 2)) μ μ2) (k : Vj p l e R s m args below meth c w 7 kc ns Q 2568 [some (.ref b), some (.ref (wad w 11 0)), some (.ref (wad w 12 0)), some (.ref (wad w 1400 0)), some (.int (nI i)), none, none] [] μ2) : Vj p l e R s m args below meth c w 7 kc ns Q 2151 [some (.ref b), some (.ref (wad w 11 0)), some (.ref (wad w 12 0)), some (.ref (wad w 1400 0)), some (.int (nI i)), none, none] [] μ := by
  obtain ⟨r, h1, h2, rfl⟩ := h
  refine V_aload_n (i := 1) G eL_law_2151 rfl rfl ?_
  refine V_aload_n (i := 0) G eL_law_2152 rfl rfl ?_
  refine V_iload G eL_law_2153 rfl ?_
  refine V_iconst (n := 1) (v := (nI 1)) G eL_law_2155 rfl ?_
  refine V_iadd G eL_law_2156 ?_
  refine V_scr (i := i + 1) G hX hbl hbA (nI_add i 1) (by omega) hN eL_law_2157 ?_
  refine V_aload_n (i := 0) G eL_law_2158 rfl rfl ?_
  refine V_iload G eL_law_2159 rfl ?_
  refine V_iconst (n := 2) (v := (nI 2)) G eL_law_2161 rfl ?_
  refine V_iadd G eL_law_2162 ?_
  refine V_scr (i := i + 2) G hX hbl hbA (nI_add i 2) (by omega) hN eL_law_2163 ?_
  refine V_callI (As := [.int (xs (i + 1)), .int (xs (i + 2))]) (st := []) G lkL_216 (B_guess_ok h1) (by decide) rfl rfl (Nat.le_of_ble_eq_true rfl) eL_law_2164 ?_
  refine V_aload_n (i := 2) G eL_law_2167 rfl rfl ?_
  refine V_aload_n (i := 0) G eL_law_2168 rfl rfl ?_
  refine V_iload G eL_law_2169 rfl ?_
  refine V_iconst (n := 1) (v := (nI 1)) G eL_law_2171 rfl ?_
  refine V_iadd G eL_law_2172 ?_
  refine V_scr (i := i + 1) G hX hbl hbA (nI_add i 1) (by omega) hN eL_law_2173 ?_
  refine V_aload_n (i := 0) G eL_law_2174 rfl rfl ?_
  refine V_iload G eL_law_2175 rfl ?_
  refine V_iconst (n := 2) (v := (nI 2)) G eL_law_2177 rfl ?_
  refine V_iadd G eL_law_2178 ?_
  refine V_scr (i := i + 2) G hX hbl hbA (nI_add i 2) (by omega) hN eL_law_2179 ?_
  refine V_callI (As := [.int (xs (i + 1)), .int (xs (i + 2))]) (st := [.int r]) G lkL_219 (M_guess_ok h2) (by decide) rfl rfl (Nat.le_of_ble_eq_true rfl) eL_law_2180 ?_
  refine V_eqqT G eL_law_2183 rfl ?_
  exact k
set_option maxRecDepth 100000 in
set_option maxHeartbeats 4000000 in
theorem law_46 {p : Program} {l : Launch} {e : Env} {R : Room} {s : State} {m : MethodId} {args : Array Value} {below : List Frame} {meth : Method} {c : Code} {w : Wld} {Q : State → Prop} {kc ns : Nat} (G : Cxt p R s m args meth c w code 7 "PotBookLaw" 200 kc ns) {b N i : Nat} {xs : Nat → Int32} (hX : va_X b N xs s s.heap) (hbl : b < s.heap.size) (hbA : ¬ w.2.2.2 b) (hi : i + 7 ≤ N) (hN : N ≤ 3584) {μ μ2 : Mem} (h : St_46 (xs (i + 1)) μ μ2) (k : Vj p l e R s m args below meth c w 7 kc ns Q 2568 [some (.ref b), some (.ref (wad w 11 0)), some (.ref (wad w 12 0)), some (.ref (wad w 1400 0)), some (.int (nI i)), none, none] [] μ2) : Vj p l e R s m args below meth c w 7 kc ns Q 2188 [some (.ref b), some (.ref (wad w 11 0)), some (.ref (wad w 12 0)), some (.ref (wad w 1400 0)), some (.int (nI i)), none, none] [] μ := by
  obtain ⟨r, μ1, h1, h2⟩ := h
  refine V_aload_n (i := 1) G eL_law_2188 rfl rfl ?_
  refine V_aload_n (i := 0) G eL_law_2189 rfl rfl ?_
  refine V_iload G eL_law_2190 rfl ?_
  refine V_iconst (n := 1) (v := (nI 1)) G eL_law_2192 rfl ?_
  refine V_iadd G eL_law_2193 ?_
  refine V_scr (i := i + 1) G hX hbl hbA (nI_add i 1) (by omega) hN eL_law_2194 ?_
  refine V_callI (As := [.int (xs (i + 1))]) (st := []) G lkL_220 (B_nearest_ok h1) (by decide) rfl rfl (Nat.le_of_ble_eq_true rfl) eL_law_2195 ?_
  refine V_aload_n (i := 2) G eL_law_2198 rfl rfl ?_
  refine V_aload_n (i := 0) G eL_law_2199 rfl rfl ?_
  refine V_iload G eL_law_2200 rfl ?_
  refine V_iconst (n := 1) (v := (nI 1)) G eL_law_2202 rfl ?_
  refine V_iadd G eL_law_2203 ?_
  refine V_scr (i := i + 1) G hX hbl hbA (nI_add i 1) (by omega) hN eL_law_2204 ?_
  refine V_callI (As := [.int (xs (i + 1))]) (st := [.int r]) G lkL_223 (M_nearest_ok h2) (by decide) rfl rfl (Nat.le_of_ble_eq_true rfl) eL_law_2205 ?_
  refine V_eqqT G eL_law_2208 rfl ?_
  exact k
set_option maxRecDepth 100000 in
set_option maxHeartbeats 4000000 in
theorem law_47 {p : Program} {l : Launch} {e : Env} {R : Room} {s : State} {m : MethodId} {args : Array Value} {below : List Frame} {meth : Method} {c : Code} {w : Wld} {Q : State → Prop} {kc ns : Nat} (G : Cxt p R s m args meth c w code 7 "PotBookLaw" 200 kc ns) {b N i : Nat} {xs : Nat → Int32} (hX : va_X b N xs s s.heap) (hbl : b < s.heap.size) (hbA : ¬ w.2.2.2 b) (hi : i + 7 ≤ N) (hN : N ≤ 3584) {μ μ2 : Mem} (h : St_47 (xs (i + 1)) (xs (i + 2)) (xs (i + 3)) (xs (i + 4)) μ μ2) (k : Vj p l e R s m args below meth c w 7 kc ns Q 2568 [some (.ref b), some (.ref (wad w 11 0)), some (.ref (wad w 12 0)), some (.ref (wad w 1400 0)), some (.int (nI i)), none, none] [] μ2) : Vj p l e R s m args below meth c w 7 kc ns Q 2213 [some (.ref b), some (.ref (wad w 11 0)), some (.ref (wad w 12 0)), some (.ref (wad w 1400 0)), some (.int (nI i)), none, none] [] μ := by
  obtain ⟨r, μ1, h1, h2⟩ := h
  refine V_aload_n (i := 1) G eL_law_2213 rfl rfl ?_
  refine V_aload_n (i := 0) G eL_law_2214 rfl rfl ?_
  refine V_iload G eL_law_2215 rfl ?_
  refine V_iconst (n := 1) (v := (nI 1)) G eL_law_2217 rfl ?_
  refine V_iadd G eL_law_2218 ?_
  refine V_scr (i := i + 1) G hX hbl hbA (nI_add i 1) (by omega) hN eL_law_2219 ?_
  refine V_aload_n (i := 0) G eL_law_2220 rfl rfl ?_
  refine V_iload G eL_law_2221 rfl ?_
  refine V_iconst (n := 2) (v := (nI 2)) G eL_law_2223 rfl ?_
  refine V_iadd G eL_law_2224 ?_
  refine V_scr (i := i + 2) G hX hbl hbA (nI_add i 2) (by omega) hN eL_law_2225 ?_
  refine V_aload_n (i := 0) G eL_law_2226 rfl rfl ?_
  refine V_iload G eL_law_2227 rfl ?_
  refine V_iconst (n := 3) (v := (nI 3)) G eL_law_2229 rfl ?_
  refine V_iadd G eL_law_2230 ?_
  refine V_scr (i := i + 3) G hX hbl hbA (nI_add i 3) (by omega) hN eL_law_2231 ?_
  refine V_aload_n (i := 0) G eL_law_2232 rfl rfl ?_
  refine V_iload G eL_law_2233 rfl ?_
  refine V_iconst (n := 4) (v := (nI 4)) G eL_law_2235 rfl ?_
  refine V_iadd G eL_law_2236 ?_
  refine V_scr (i := i + 4) G hX hbl hbA (nI_add i 4) (by omega) hN eL_law_2237 ?_
  refine V_callI (As := [.int (xs (i + 1)), .int (xs (i + 2)), .int (xs (i + 3)), .int (xs (i + 4))]) (st := []) G lkL_224 (B_lacking_ok h1) (by decide) rfl rfl (Nat.le_of_ble_eq_true rfl) eL_law_2238 ?_
  refine V_aload_n (i := 2) G eL_law_2241 rfl rfl ?_
  refine V_aload_n (i := 0) G eL_law_2242 rfl rfl ?_
  refine V_iload G eL_law_2243 rfl ?_
  refine V_iconst (n := 1) (v := (nI 1)) G eL_law_2245 rfl ?_
  refine V_iadd G eL_law_2246 ?_
  refine V_scr (i := i + 1) G hX hbl hbA (nI_add i 1) (by omega) hN eL_law_2247 ?_
  refine V_aload_n (i := 0) G eL_law_2248 rfl rfl ?_
  refine V_iload G eL_law_2249 rfl ?_
  refine V_iconst (n := 2) (v := (nI 2)) G eL_law_2251 rfl ?_
  refine V_iadd G eL_law_2252 ?_
  refine V_scr (i := i + 2) G hX hbl hbA (nI_add i 2) (by omega) hN eL_law_2253 ?_
  refine V_aload_n (i := 0) G eL_law_2254 rfl rfl ?_
  refine V_iload G eL_law_2255 rfl ?_
  refine V_iconst (n := 3) (v := (nI 3)) G eL_law_2257 rfl ?_
  refine V_iadd G eL_law_2258 ?_
  refine V_scr (i := i + 3) G hX hbl hbA (nI_add i 3) (by omega) hN eL_law_2259 ?_
  refine V_aload_n (i := 0) G eL_law_2260 rfl rfl ?_
  refine V_iload G eL_law_2261 rfl ?_
  refine V_iconst (n := 4) (v := (nI 4)) G eL_law_2263 rfl ?_
  refine V_iadd G eL_law_2264 ?_
  refine V_scr (i := i + 4) G hX hbl hbA (nI_add i 4) (by omega) hN eL_law_2265 ?_
  refine V_callI (As := [.int (xs (i + 1)), .int (xs (i + 2)), .int (xs (i + 3)), .int (xs (i + 4))]) (st := [.int r]) G lkL_227 (M_lacking_ok h2) (by decide) rfl rfl (Nat.le_of_ble_eq_true rfl) eL_law_2266 ?_
  refine V_eqqT G eL_law_2269 rfl ?_
  exact k
set_option maxRecDepth 100000 in
set_option maxHeartbeats 4000000 in
theorem law_48 {p : Program} {l : Launch} {e : Env} {R : Room} {s : State} {m : MethodId} {args : Array Value} {below : List Frame} {meth : Method} {c : Code} {w : Wld} {Q : State → Prop} {kc ns : Nat} (G : Cxt p R s m args meth c w code 7 "PotBookLaw" 200 kc ns) {b N i : Nat} {xs : Nat → Int32} (hX : va_X b N xs s s.heap) (hbl : b < s.heap.size) (hbA : ¬ w.2.2.2 b) (hi : i + 7 ≤ N) (hN : N ≤ 3584) {μ μ2 : Mem} (h : St_48 (xs (i + 1)) (xs (i + 2)) (xs (i + 3)) μ μ2) (k : Vj p l e R s m args below meth c w 7 kc ns Q 2568 [some (.ref b), some (.ref (wad w 11 0)), some (.ref (wad w 12 0)), some (.ref (wad w 1400 0)), some (.int (nI i)), none, none] [] μ2) : Vj p l e R s m args below meth c w 7 kc ns Q 2274 [some (.ref b), some (.ref (wad w 11 0)), some (.ref (wad w 12 0)), some (.ref (wad w 1400 0)), some (.int (nI i)), none, none] [] μ := by
  obtain ⟨r, μ1, h1, h2⟩ := h
  refine V_aload_n (i := 1) G eL_law_2274 rfl rfl ?_
  refine V_aload_n (i := 0) G eL_law_2275 rfl rfl ?_
  refine V_iload G eL_law_2276 rfl ?_
  refine V_iconst (n := 1) (v := (nI 1)) G eL_law_2278 rfl ?_
  refine V_iadd G eL_law_2279 ?_
  refine V_scr (i := i + 1) G hX hbl hbA (nI_add i 1) (by omega) hN eL_law_2280 ?_
  refine V_aload_n (i := 0) G eL_law_2281 rfl rfl ?_
  refine V_iload G eL_law_2282 rfl ?_
  refine V_iconst (n := 2) (v := (nI 2)) G eL_law_2284 rfl ?_
  refine V_iadd G eL_law_2285 ?_
  refine V_scr (i := i + 2) G hX hbl hbA (nI_add i 2) (by omega) hN eL_law_2286 ?_
  refine V_aload_n (i := 0) G eL_law_2287 rfl rfl ?_
  refine V_iload G eL_law_2288 rfl ?_
  refine V_iconst (n := 3) (v := (nI 3)) G eL_law_2290 rfl ?_
  refine V_iadd G eL_law_2291 ?_
  refine V_scr (i := i + 3) G hX hbl hbA (nI_add i 3) (by omega) hN eL_law_2292 ?_
  refine V_callI (As := [.int (xs (i + 1)), .int (xs (i + 2)), .int (xs (i + 3))]) (st := []) G lkL_228 (B_enough_ok h1) (by decide) rfl rfl (Nat.le_of_ble_eq_true rfl) eL_law_2293 ?_
  refine V_aload_n (i := 2) G eL_law_2296 rfl rfl ?_
  refine V_aload_n (i := 0) G eL_law_2297 rfl rfl ?_
  refine V_iload G eL_law_2298 rfl ?_
  refine V_iconst (n := 1) (v := (nI 1)) G eL_law_2300 rfl ?_
  refine V_iadd G eL_law_2301 ?_
  refine V_scr (i := i + 1) G hX hbl hbA (nI_add i 1) (by omega) hN eL_law_2302 ?_
  refine V_aload_n (i := 0) G eL_law_2303 rfl rfl ?_
  refine V_iload G eL_law_2304 rfl ?_
  refine V_iconst (n := 2) (v := (nI 2)) G eL_law_2306 rfl ?_
  refine V_iadd G eL_law_2307 ?_
  refine V_scr (i := i + 2) G hX hbl hbA (nI_add i 2) (by omega) hN eL_law_2308 ?_
  refine V_aload_n (i := 0) G eL_law_2309 rfl rfl ?_
  refine V_iload G eL_law_2310 rfl ?_
  refine V_iconst (n := 3) (v := (nI 3)) G eL_law_2312 rfl ?_
  refine V_iadd G eL_law_2313 ?_
  refine V_scr (i := i + 3) G hX hbl hbA (nI_add i 3) (by omega) hN eL_law_2314 ?_
  refine V_callI (As := [.int (xs (i + 1)), .int (xs (i + 2)), .int (xs (i + 3))]) (st := [.int r]) G lkL_231 (M_enough_ok h2) (by decide) rfl rfl (Nat.le_of_ble_eq_true rfl) eL_law_2315 ?_
  refine V_eqqT G eL_law_2318 rfl ?_
  exact k
set_option maxRecDepth 100000 in
set_option maxHeartbeats 4000000 in
theorem law_49 {p : Program} {l : Launch} {e : Env} {R : Room} {s : State} {m : MethodId} {args : Array Value} {below : List Frame} {meth : Method} {c : Code} {w : Wld} {Q : State → Prop} {kc ns : Nat} (G : Cxt p R s m args meth c w code 7 "PotBookLaw" 200 kc ns) {b N i : Nat} {xs : Nat → Int32} (hX : va_X b N xs s s.heap) (hbl : b < s.heap.size) (hbA : ¬ w.2.2.2 b) (hi : i + 7 ≤ N) (hN : N ≤ 3584) {μ μ2 : Mem} (h : St_49 (xs (i + 1)) (xs (i + 2)) (xs (i + 3)) (xs (i + 4)) μ μ2) (k : Vj p l e R s m args below meth c w 7 kc ns Q 2568 [some (.ref b), some (.ref (wad w 11 0)), some (.ref (wad w 12 0)), some (.ref (wad w 1400 0)), some (.int (nI i)), none, none] [] μ2) : Vj p l e R s m args below meth c w 7 kc ns Q 2323 [some (.ref b), some (.ref (wad w 11 0)), some (.ref (wad w 12 0)), some (.ref (wad w 1400 0)), some (.int (nI i)), none, none] [] μ := by
  obtain ⟨r, μ1, h1, h2⟩ := h
  refine V_aload_n (i := 1) G eL_law_2323 rfl rfl ?_
  refine V_aload_n (i := 0) G eL_law_2324 rfl rfl ?_
  refine V_iload G eL_law_2325 rfl ?_
  refine V_iconst (n := 1) (v := (nI 1)) G eL_law_2327 rfl ?_
  refine V_iadd G eL_law_2328 ?_
  refine V_scr (i := i + 1) G hX hbl hbA (nI_add i 1) (by omega) hN eL_law_2329 ?_
  refine V_aload_n (i := 0) G eL_law_2330 rfl rfl ?_
  refine V_iload G eL_law_2331 rfl ?_
  refine V_iconst (n := 2) (v := (nI 2)) G eL_law_2333 rfl ?_
  refine V_iadd G eL_law_2334 ?_
  refine V_scr (i := i + 2) G hX hbl hbA (nI_add i 2) (by omega) hN eL_law_2335 ?_
  refine V_aload_n (i := 0) G eL_law_2336 rfl rfl ?_
  refine V_iload G eL_law_2337 rfl ?_
  refine V_iconst (n := 3) (v := (nI 3)) G eL_law_2339 rfl ?_
  refine V_iadd G eL_law_2340 ?_
  refine V_scr (i := i + 3) G hX hbl hbA (nI_add i 3) (by omega) hN eL_law_2341 ?_
  refine V_aload_n (i := 0) G eL_law_2342 rfl rfl ?_
  refine V_iload G eL_law_2343 rfl ?_
  refine V_iconst (n := 4) (v := (nI 4)) G eL_law_2345 rfl ?_
  refine V_iadd G eL_law_2346 ?_
  refine V_scr (i := i + 4) G hX hbl hbA (nI_add i 4) (by omega) hN eL_law_2347 ?_
  refine V_callI (As := [.int (xs (i + 1)), .int (xs (i + 2)), .int (xs (i + 3)), .int (xs (i + 4))]) (st := []) G lkL_232 (B_wasted_ok h1) (by decide) rfl rfl (Nat.le_of_ble_eq_true rfl) eL_law_2348 ?_
  refine V_aload_n (i := 2) G eL_law_2351 rfl rfl ?_
  refine V_aload_n (i := 0) G eL_law_2352 rfl rfl ?_
  refine V_iload G eL_law_2353 rfl ?_
  refine V_iconst (n := 1) (v := (nI 1)) G eL_law_2355 rfl ?_
  refine V_iadd G eL_law_2356 ?_
  refine V_scr (i := i + 1) G hX hbl hbA (nI_add i 1) (by omega) hN eL_law_2357 ?_
  refine V_aload_n (i := 0) G eL_law_2358 rfl rfl ?_
  refine V_iload G eL_law_2359 rfl ?_
  refine V_iconst (n := 2) (v := (nI 2)) G eL_law_2361 rfl ?_
  refine V_iadd G eL_law_2362 ?_
  refine V_scr (i := i + 2) G hX hbl hbA (nI_add i 2) (by omega) hN eL_law_2363 ?_
  refine V_aload_n (i := 0) G eL_law_2364 rfl rfl ?_
  refine V_iload G eL_law_2365 rfl ?_
  refine V_iconst (n := 3) (v := (nI 3)) G eL_law_2367 rfl ?_
  refine V_iadd G eL_law_2368 ?_
  refine V_scr (i := i + 3) G hX hbl hbA (nI_add i 3) (by omega) hN eL_law_2369 ?_
  refine V_aload_n (i := 0) G eL_law_2370 rfl rfl ?_
  refine V_iload G eL_law_2371 rfl ?_
  refine V_iconst (n := 4) (v := (nI 4)) G eL_law_2373 rfl ?_
  refine V_iadd G eL_law_2374 ?_
  refine V_scr (i := i + 4) G hX hbl hbA (nI_add i 4) (by omega) hN eL_law_2375 ?_
  refine V_callI (As := [.int (xs (i + 1)), .int (xs (i + 2)), .int (xs (i + 3)), .int (xs (i + 4))]) (st := [.int r]) G lkL_235 (M_wasted_ok h2) (by decide) rfl rfl (Nat.le_of_ble_eq_true rfl) eL_law_2376 ?_
  refine V_eqqT G eL_law_2379 rfl ?_
  exact k
set_option maxRecDepth 100000 in
set_option maxHeartbeats 4000000 in
theorem law_50 {p : Program} {l : Launch} {e : Env} {R : Room} {s : State} {m : MethodId} {args : Array Value} {below : List Frame} {meth : Method} {c : Code} {w : Wld} {Q : State → Prop} {kc ns : Nat} (G : Cxt p R s m args meth c w code 7 "PotBookLaw" 200 kc ns) {b N i : Nat} {xs : Nat → Int32} (hX : va_X b N xs s s.heap) (hbl : b < s.heap.size) (hbA : ¬ w.2.2.2 b) (hi : i + 7 ≤ N) (hN : N ≤ 3584) {μ μ2 : Mem} (h : St_50 (xs (i + 1)) (xs (i + 2)) (xs (i + 3)) (xs (i + 4)) μ μ2) (k : Vj p l e R s m args below meth c w 7 kc ns Q 2568 [some (.ref b), some (.ref (wad w 11 0)), some (.ref (wad w 12 0)), some (.ref (wad w 1400 0)), some (.int (nI i)), none, none] [] μ2) : Vj p l e R s m args below meth c w 7 kc ns Q 2384 [some (.ref b), some (.ref (wad w 11 0)), some (.ref (wad w 12 0)), some (.ref (wad w 1400 0)), some (.int (nI i)), none, none] [] μ := by
  obtain ⟨r, μ1, h1, h2⟩ := h
  refine V_aload_n (i := 1) G eL_law_2384 rfl rfl ?_
  refine V_aload_n (i := 0) G eL_law_2385 rfl rfl ?_
  refine V_iload G eL_law_2386 rfl ?_
  refine V_iconst (n := 1) (v := (nI 1)) G eL_law_2388 rfl ?_
  refine V_iadd G eL_law_2389 ?_
  refine V_scr (i := i + 1) G hX hbl hbA (nI_add i 1) (by omega) hN eL_law_2390 ?_
  refine V_aload_n (i := 0) G eL_law_2391 rfl rfl ?_
  refine V_iload G eL_law_2392 rfl ?_
  refine V_iconst (n := 2) (v := (nI 2)) G eL_law_2394 rfl ?_
  refine V_iadd G eL_law_2395 ?_
  refine V_scr (i := i + 2) G hX hbl hbA (nI_add i 2) (by omega) hN eL_law_2396 ?_
  refine V_aload_n (i := 0) G eL_law_2397 rfl rfl ?_
  refine V_iload G eL_law_2398 rfl ?_
  refine V_iconst (n := 3) (v := (nI 3)) G eL_law_2400 rfl ?_
  refine V_iadd G eL_law_2401 ?_
  refine V_scr (i := i + 3) G hX hbl hbA (nI_add i 3) (by omega) hN eL_law_2402 ?_
  refine V_aload_n (i := 0) G eL_law_2403 rfl rfl ?_
  refine V_iload G eL_law_2404 rfl ?_
  refine V_iconst (n := 4) (v := (nI 4)) G eL_law_2406 rfl ?_
  refine V_iadd G eL_law_2407 ?_
  refine V_scr (i := i + 4) G hX hbl hbA (nI_add i 4) (by omega) hN eL_law_2408 ?_
  refine V_callI (As := [.int (xs (i + 1)), .int (xs (i + 2)), .int (xs (i + 3)), .int (xs (i + 4))]) (st := []) G lkL_236 (B_lean_ok h1) (by decide) rfl rfl (Nat.le_of_ble_eq_true rfl) eL_law_2409 ?_
  refine V_aload_n (i := 2) G eL_law_2412 rfl rfl ?_
  refine V_aload_n (i := 0) G eL_law_2413 rfl rfl ?_
  refine V_iload G eL_law_2414 rfl ?_
  refine V_iconst (n := 1) (v := (nI 1)) G eL_law_2416 rfl ?_
  refine V_iadd G eL_law_2417 ?_
  refine V_scr (i := i + 1) G hX hbl hbA (nI_add i 1) (by omega) hN eL_law_2418 ?_
  refine V_aload_n (i := 0) G eL_law_2419 rfl rfl ?_
  refine V_iload G eL_law_2420 rfl ?_
  refine V_iconst (n := 2) (v := (nI 2)) G eL_law_2422 rfl ?_
  refine V_iadd G eL_law_2423 ?_
  refine V_scr (i := i + 2) G hX hbl hbA (nI_add i 2) (by omega) hN eL_law_2424 ?_
  refine V_aload_n (i := 0) G eL_law_2425 rfl rfl ?_
  refine V_iload G eL_law_2426 rfl ?_
  refine V_iconst (n := 3) (v := (nI 3)) G eL_law_2428 rfl ?_
  refine V_iadd G eL_law_2429 ?_
  refine V_scr (i := i + 3) G hX hbl hbA (nI_add i 3) (by omega) hN eL_law_2430 ?_
  refine V_aload_n (i := 0) G eL_law_2431 rfl rfl ?_
  refine V_iload G eL_law_2432 rfl ?_
  refine V_iconst (n := 4) (v := (nI 4)) G eL_law_2434 rfl ?_
  refine V_iadd G eL_law_2435 ?_
  refine V_scr (i := i + 4) G hX hbl hbA (nI_add i 4) (by omega) hN eL_law_2436 ?_
  refine V_callI (As := [.int (xs (i + 1)), .int (xs (i + 2)), .int (xs (i + 3)), .int (xs (i + 4))]) (st := [.int r]) G lkL_239 (M_lean_ok h2) (by decide) rfl rfl (Nat.le_of_ble_eq_true rfl) eL_law_2437 ?_
  refine V_eqqT G eL_law_2440 rfl ?_
  exact k
set_option maxRecDepth 100000 in
set_option maxHeartbeats 4000000 in
theorem law_51 {p : Program} {l : Launch} {e : Env} {R : Room} {s : State} {m : MethodId} {args : Array Value} {below : List Frame} {meth : Method} {c : Code} {w : Wld} {Q : State → Prop} {kc ns : Nat} (G : Cxt p R s m args meth c w code 7 "PotBookLaw" 200 kc ns) {b N i : Nat} {xs : Nat → Int32} (hX : va_X b N xs s s.heap) (hbl : b < s.heap.size) (hbA : ¬ w.2.2.2 b) (hi : i + 7 ≤ N) (hN : N ≤ 3584) {μ μ2 : Mem} (h : St_51 (xs (i + 1)) (xs (i + 2)) (xs (i + 3)) μ μ2) (k : Vj p l e R s m args below meth c w 7 kc ns Q 2568 [some (.ref b), some (.ref (wad w 11 0)), some (.ref (wad w 12 0)), some (.ref (wad w 1400 0)), some (.int (nI i)), none, none] [] μ2) : Vj p l e R s m args below meth c w 7 kc ns Q 2445 [some (.ref b), some (.ref (wad w 11 0)), some (.ref (wad w 12 0)), some (.ref (wad w 1400 0)), some (.int (nI i)), none, none] [] μ := by
  obtain ⟨r, μ1, h1, h2⟩ := h
  refine V_aload_n (i := 1) G eL_law_2445 rfl rfl ?_
  refine V_aload_n (i := 0) G eL_law_2446 rfl rfl ?_
  refine V_iload G eL_law_2447 rfl ?_
  refine V_iconst (n := 1) (v := (nI 1)) G eL_law_2449 rfl ?_
  refine V_iadd G eL_law_2450 ?_
  refine V_scr (i := i + 1) G hX hbl hbA (nI_add i 1) (by omega) hN eL_law_2451 ?_
  refine V_aload_n (i := 0) G eL_law_2452 rfl rfl ?_
  refine V_iload G eL_law_2453 rfl ?_
  refine V_iconst (n := 2) (v := (nI 2)) G eL_law_2455 rfl ?_
  refine V_iadd G eL_law_2456 ?_
  refine V_scr (i := i + 2) G hX hbl hbA (nI_add i 2) (by omega) hN eL_law_2457 ?_
  refine V_aload_n (i := 0) G eL_law_2458 rfl rfl ?_
  refine V_iload G eL_law_2459 rfl ?_
  refine V_iconst (n := 3) (v := (nI 3)) G eL_law_2461 rfl ?_
  refine V_iadd G eL_law_2462 ?_
  refine V_scr (i := i + 3) G hX hbl hbA (nI_add i 3) (by omega) hN eL_law_2463 ?_
  refine V_callI (As := [.int (xs (i + 1)), .int (xs (i + 2)), .int (xs (i + 3))]) (st := []) G lkL_240 (B_softer_ok h1) (by decide) rfl rfl (Nat.le_of_ble_eq_true rfl) eL_law_2464 ?_
  refine V_aload_n (i := 2) G eL_law_2467 rfl rfl ?_
  refine V_aload_n (i := 0) G eL_law_2468 rfl rfl ?_
  refine V_iload G eL_law_2469 rfl ?_
  refine V_iconst (n := 1) (v := (nI 1)) G eL_law_2471 rfl ?_
  refine V_iadd G eL_law_2472 ?_
  refine V_scr (i := i + 1) G hX hbl hbA (nI_add i 1) (by omega) hN eL_law_2473 ?_
  refine V_aload_n (i := 0) G eL_law_2474 rfl rfl ?_
  refine V_iload G eL_law_2475 rfl ?_
  refine V_iconst (n := 2) (v := (nI 2)) G eL_law_2477 rfl ?_
  refine V_iadd G eL_law_2478 ?_
  refine V_scr (i := i + 2) G hX hbl hbA (nI_add i 2) (by omega) hN eL_law_2479 ?_
  refine V_aload_n (i := 0) G eL_law_2480 rfl rfl ?_
  refine V_iload G eL_law_2481 rfl ?_
  refine V_iconst (n := 3) (v := (nI 3)) G eL_law_2483 rfl ?_
  refine V_iadd G eL_law_2484 ?_
  refine V_scr (i := i + 3) G hX hbl hbA (nI_add i 3) (by omega) hN eL_law_2485 ?_
  refine V_callI (As := [.int (xs (i + 1)), .int (xs (i + 2)), .int (xs (i + 3))]) (st := [.int r]) G lkL_243 (M_softer_ok h2) (by decide) rfl rfl (Nat.le_of_ble_eq_true rfl) eL_law_2486 ?_
  refine V_eqqT G eL_law_2489 rfl ?_
  exact k
set_option maxRecDepth 100000 in
set_option maxHeartbeats 4000000 in
theorem law_52 {p : Program} {l : Launch} {e : Env} {R : Room} {s : State} {m : MethodId} {args : Array Value} {below : List Frame} {meth : Method} {c : Code} {w : Wld} {Q : State → Prop} {kc ns : Nat} (G : Cxt p R s m args meth c w code 7 "PotBookLaw" 200 kc ns) {b N i : Nat} {xs : Nat → Int32} (hX : va_X b N xs s s.heap) (hbl : b < s.heap.size) (hbA : ¬ w.2.2.2 b) (hi : i + 7 ≤ N) (hN : N ≤ 3584) {μ μ2 : Mem} (h : St_52 (xs (i + 1)) (xs (i + 2)) (xs (i + 3)) μ μ2) (k : Vj p l e R s m args below meth c w 7 kc ns Q 2568 [some (.ref b), some (.ref (wad w 11 0)), some (.ref (wad w 12 0)), some (.ref (wad w 1400 0)), some (.int (nI i)), none, none] [] μ2) : Vj p l e R s m args below meth c w 7 kc ns Q 2494 [some (.ref b), some (.ref (wad w 11 0)), some (.ref (wad w 12 0)), some (.ref (wad w 1400 0)), some (.int (nI i)), none, none] [] μ := by
  obtain ⟨r, μ1, h1, h2⟩ := h
  refine V_aload_n (i := 1) G eL_law_2494 rfl rfl ?_
  refine V_aload_n (i := 0) G eL_law_2495 rfl rfl ?_
  refine V_iload G eL_law_2496 rfl ?_
  refine V_iconst (n := 1) (v := (nI 1)) G eL_law_2498 rfl ?_
  refine V_iadd G eL_law_2499 ?_
  refine V_scr (i := i + 1) G hX hbl hbA (nI_add i 1) (by omega) hN eL_law_2500 ?_
  refine V_aload_n (i := 0) G eL_law_2501 rfl rfl ?_
  refine V_iload G eL_law_2502 rfl ?_
  refine V_iconst (n := 2) (v := (nI 2)) G eL_law_2504 rfl ?_
  refine V_iadd G eL_law_2505 ?_
  refine V_scr (i := i + 2) G hX hbl hbA (nI_add i 2) (by omega) hN eL_law_2506 ?_
  refine V_aload_n (i := 0) G eL_law_2507 rfl rfl ?_
  refine V_iload G eL_law_2508 rfl ?_
  refine V_iconst (n := 3) (v := (nI 3)) G eL_law_2510 rfl ?_
  refine V_iadd G eL_law_2511 ?_
  refine V_scr (i := i + 3) G hX hbl hbA (nI_add i 3) (by omega) hN eL_law_2512 ?_
  refine V_callI (As := [.int (xs (i + 1)), .int (xs (i + 2)), .int (xs (i + 3))]) (st := []) G lkL_244 (B_swapped_ok h1) (by decide) rfl rfl (Nat.le_of_ble_eq_true rfl) eL_law_2513 ?_
  refine V_aload_n (i := 2) G eL_law_2516 rfl rfl ?_
  refine V_aload_n (i := 0) G eL_law_2517 rfl rfl ?_
  refine V_iload G eL_law_2518 rfl ?_
  refine V_iconst (n := 1) (v := (nI 1)) G eL_law_2520 rfl ?_
  refine V_iadd G eL_law_2521 ?_
  refine V_scr (i := i + 1) G hX hbl hbA (nI_add i 1) (by omega) hN eL_law_2522 ?_
  refine V_aload_n (i := 0) G eL_law_2523 rfl rfl ?_
  refine V_iload G eL_law_2524 rfl ?_
  refine V_iconst (n := 2) (v := (nI 2)) G eL_law_2526 rfl ?_
  refine V_iadd G eL_law_2527 ?_
  refine V_scr (i := i + 2) G hX hbl hbA (nI_add i 2) (by omega) hN eL_law_2528 ?_
  refine V_aload_n (i := 0) G eL_law_2529 rfl rfl ?_
  refine V_iload G eL_law_2530 rfl ?_
  refine V_iconst (n := 3) (v := (nI 3)) G eL_law_2532 rfl ?_
  refine V_iadd G eL_law_2533 ?_
  refine V_scr (i := i + 3) G hX hbl hbA (nI_add i 3) (by omega) hN eL_law_2534 ?_
  refine V_callI (As := [.int (xs (i + 1)), .int (xs (i + 2)), .int (xs (i + 3))]) (st := [.int r]) G lkL_247 (M_swapped_ok h2) (by decide) rfl rfl (Nat.le_of_ble_eq_true rfl) eL_law_2535 ?_
  refine V_eqqT G eL_law_2538 rfl ?_
  exact k
set_option maxRecDepth 100000 in
set_option maxHeartbeats 4000000 in
theorem law_53 {p : Program} {l : Launch} {e : Env} {R : Room} {s : State} {m : MethodId} {args : Array Value} {below : List Frame} {meth : Method} {c : Code} {w : Wld} {Q : State → Prop} {kc ns : Nat} (G : Cxt p R s m args meth c w code 7 "PotBookLaw" 200 kc ns) {b N i : Nat} {xs : Nat → Int32} (hX : va_X b N xs s s.heap) (hbl : b < s.heap.size) (hbA : ¬ w.2.2.2 b) (hi : i + 7 ≤ N) (hN : N ≤ 3584) {μ μ2 : Mem} (h : St_53 (xs (i + 1)) μ μ2) (k : Vj p l e R s m args below meth c w 7 kc ns Q 2568 [some (.ref b), some (.ref (wad w 11 0)), some (.ref (wad w 12 0)), some (.ref (wad w 1400 0)), some (.int (nI i)), none, none] [] μ2) : Vj p l e R s m args below meth c w 7 kc ns Q 2543 [some (.ref b), some (.ref (wad w 11 0)), some (.ref (wad w 12 0)), some (.ref (wad w 1400 0)), some (.int (nI i)), none, none] [] μ := by
  obtain ⟨r, h1, h2, rfl⟩ := h
  refine V_aload_n (i := 1) G eL_law_2543 rfl rfl ?_
  refine V_aload_n (i := 0) G eL_law_2544 rfl rfl ?_
  refine V_iload G eL_law_2545 rfl ?_
  refine V_iconst (n := 1) (v := (nI 1)) G eL_law_2547 rfl ?_
  refine V_iadd G eL_law_2548 ?_
  refine V_scr (i := i + 1) G hX hbl hbA (nI_add i 1) (by omega) hN eL_law_2549 ?_
  refine V_callI (As := [.int (xs (i + 1))]) (st := []) G lkL_248 (B_count_ok h1) (by decide) rfl rfl (Nat.le_of_ble_eq_true rfl) eL_law_2550 ?_
  refine V_aload_n (i := 2) G eL_law_2553 rfl rfl ?_
  refine V_aload_n (i := 0) G eL_law_2554 rfl rfl ?_
  refine V_iload G eL_law_2555 rfl ?_
  refine V_iconst (n := 1) (v := (nI 1)) G eL_law_2557 rfl ?_
  refine V_iadd G eL_law_2558 ?_
  refine V_scr (i := i + 1) G hX hbl hbA (nI_add i 1) (by omega) hN eL_law_2559 ?_
  refine V_callI (As := [.int (xs (i + 1))]) (st := [.int r]) G lkL_251 (M_count_ok h2) (by decide) rfl rfl (Nat.le_of_ble_eq_true rfl) eL_law_2560 ?_
  refine V_eqqT G eL_law_2563 rfl ?_
  exact k
