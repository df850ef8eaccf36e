/-! THE MEMORY AT THE START, AND WHERE ALL LIES -/
def posT : List (Nat × Nat) := [(0, 291), (1, 250), (2, 211), (3, 144), (4, 131), (5, 305), (6, 35), (7, 3), (8, 145), (9, 1), (10, 206), (11, 0), (12, 318), (103, 292), (104, 293), (105, 295), (200, 251), (201, 252), (202, 254), (203, 263), (204, 277), (205, 290), (301, 213), (302, 230), (303, 246), (304, 247), (305, 248), (306, 249), (500, 133), (501, 140), (502, 141), (505, 142), (506, 143), (603, 306), (604, 307), (605, 309), (606, 314), (607, 315), (608, 316), (609, 317), (702, 36), (703, 38), (704, 56), (705, 74), (706, 91), (707, 92), (708, 94), (709, 111), (710, 113), (711, 130), (800, 4), (801, 5), (802, 6), (803, 7), (804, 8), (805, 10), (806, 23), (905, 146), (906, 148), (907, 165), (909, 181), (910, 182), (911, 184), (913, 200), (914, 201), (915, 202), (916, 203), (917, 204), (918, 205), (1000, 2), (1104, 207), (1105, 208), (1106, 209), (1107, 210), (1301, 319), (1306, 320), (1307, 321), (1308, 322), (1309, 323), (1310, 324), (1311, 325), (1312, 326), (1313, 327), (1315, 328), (1316, 329), (1317, 330), (1318, 331), (1319, 332), (1320, 333), (1321, 334), (1323, 335), (1324, 336), (1325, 337), (1326, 338), (1327, 339), (1328, 340), (1329, 341), (1332, 342), (1333, 343), (1334, 344), (1335, 345), (1336, 346), (1337, 347), (1340, 348), (1341, 349), (1344, 350), (1345, 351), (1346, 352), (1347, 353), (1349, 354), (1350, 355), (1351, 356), (1352, 357), (1353, 358), (1355, 359), (1356, 360), (1357, 361), (1359, 362), (1360, 363), (1361, 364), (1362, 365), (1363, 366), (1377, 367), (1378, 368), (1379, 369), (1380, 370), (1381, 371), (1400, 372), (10105, 294), (10202, 253), (10203, 262), (10204, 276), (10301, 212), (10302, 229), (10500, 132), (10605, 308), (10703, 37), (10704, 55), (10705, 73), (10708, 93), (10710, 112), (10805, 9), (10806, 22), (10906, 147), (10907, 164), (10911, 183)]
def posL : List (Nat × Nat) → Nat → Nat
  | [], _ => 0
  | (a, b) :: l, v => bif Nat.beq a v then b else posL l v
def posB (v : Nat) : Nat := posL posT v
def lawDs (w : Wld) (h : Nat) : List va_E := [.inr (11, X11_fs (h + 1))] ++ (X11_ds w (h + 1) ++ ([.inr (12, X12_fs (h + 319))] ++ (X12_ds w (h + 319) ++ [.inl (w.2.1 2, (1, .inr (.inl (fun _ => 0))))])))
def mem0 : Mem := (fun v r c => bif Nat.beq v 903 then nI 6 else bif Nat.beq v 912 then -1 else bif Nat.beq v 1003 then -1 else bif Nat.beq v 1339 then nI 6 else bif Nat.beq v 505 then fillF gMax 6 c else bif Nat.beq v 506 then fillF gMin 6 c else bif Nat.beq v 909 then fillF gNeg 16 c else bif Nat.beq v 202 then fillF (gSl r) 8 c else bif Nat.beq v 1349 then fillF gSl8 64 c else 0, fun _ _ _ => 0)
def wld0 (D : va_G) (dC : Nat → ClassId) (h : Nat) : Wld := (D, dC, fun v r => h + posB v + r, fun q => h ≤ q)
def ckd (D : va_G) (dC : Nat → ClassId) (h : Nat) (k : Ent × Nat) : Prop := (lawDs (wld0 D dC h) h)[posB k.1.1 + k.2]? = some (wEn FL (wld0 D dC h) mem0 k.1 k.2)
set_option maxRecDepth 100000 in
theorem ck_0 {D : va_G} {dC : Nat → ClassId} {h : Nat} : ckd D dC h ((0, 1, 0, 0), 0) := rfl
set_option maxRecDepth 100000 in
theorem ck_1 {D : va_G} {dC : Nat → ClassId} {h : Nat} : ckd D dC h ((1, 1, 0, 0), 0) := rfl
set_option maxRecDepth 100000 in
theorem ck_2 {D : va_G} {dC : Nat → ClassId} {h : Nat} : ckd D dC h ((2, 1, 0, 0), 0) := rfl
set_option maxRecDepth 100000 in
theorem ck_3 {D : va_G} {dC : Nat → ClassId} {h : Nat} : ckd D dC h ((3, 1, 0, 0), 0) := rfl
set_option maxRecDepth 100000 in
theorem ck_4 {D : va_G} {dC : Nat → ClassId} {h : Nat} : ckd D dC h ((4, 1, 0, 0), 0) := rfl
set_option maxRecDepth 100000 in
theorem ck_5 {D : va_G} {dC : Nat → ClassId} {h : Nat} : ckd D dC h ((5, 1, 0, 0), 0) := rfl
set_option maxRecDepth 100000 in
theorem ck_6 {D : va_G} {dC : Nat → ClassId} {h : Nat} : ckd D dC h ((6, 1, 0, 0), 0) := rfl
set_option maxRecDepth 100000 in
theorem ck_7 {D : va_G} {dC : Nat → ClassId} {h : Nat} : ckd D dC h ((7, 1, 0, 0), 0) := rfl
set_option maxRecDepth 100000 in
theorem ck_8 {D : va_G} {dC : Nat → ClassId} {h : Nat} : ckd D dC h ((8, 1, 0, 0), 0) := rfl
set_option maxRecDepth 100000 in
theorem ck_9 {D : va_G} {dC : Nat → ClassId} {h : Nat} : ckd D dC h ((9, 1, 0, 0), 0) := rfl
set_option maxRecDepth 100000 in
theorem ck_10 {D : va_G} {dC : Nat → ClassId} {h : Nat} : ckd D dC h ((10, 1, 0, 0), 0) := rfl
set_option maxRecDepth 100000 in
theorem ck_11 {D : va_G} {dC : Nat → ClassId} {h : Nat} : ckd D dC h ((11, 1, 0, 0), 0) := rfl
set_option maxRecDepth 100000 in
theorem ck_12 {D : va_G} {dC : Nat → ClassId} {h : Nat} : ckd D dC h ((12, 1, 0, 0), 0) := rfl
set_option maxRecDepth 100000 in
theorem ck_13 {D : va_G} {dC : Nat → ClassId} {h : Nat} : ckd D dC h ((103, 1, 1, 10), 0) := rfl
set_option maxRecDepth 100000 in
theorem ck_14 {D : va_G} {dC : Nat → ClassId} {h : Nat} : ckd D dC h ((104, 1, 2, 10), 0) := rfl
set_option maxRecDepth 100000 in
theorem ck_15 {D : va_G} {dC : Nat → ClassId} {h : Nat} : ckd D dC h ((105, 10, 1, 12), 0) := rfl
set_option maxRecDepth 100000 in
theorem ck_16 {D : va_G} {dC : Nat → ClassId} {h : Nat} : ckd D dC h ((105, 10, 1, 12), 1) := rfl
set_option maxRecDepth 100000 in
theorem ck_17 {D : va_G} {dC : Nat → ClassId} {h : Nat} : ckd D dC h ((105, 10, 1, 12), 2) := rfl
set_option maxRecDepth 100000 in
theorem ck_18 {D : va_G} {dC : Nat → ClassId} {h : Nat} : ckd D dC h ((105, 10, 1, 12), 3) := rfl
set_option maxRecDepth 100000 in
theorem ck_19 {D : va_G} {dC : Nat → ClassId} {h : Nat} : ckd D dC h ((105, 10, 1, 12), 4) := rfl
set_option maxRecDepth 100000 in
theorem ck_20 {D : va_G} {dC : Nat → ClassId} {h : Nat} : ckd D dC h ((105, 10, 1, 12), 5) := rfl
set_option maxRecDepth 100000 in
theorem ck_21 {D : va_G} {dC : Nat → ClassId} {h : Nat} : ckd D dC h ((105, 10, 1, 12), 6) := rfl
set_option maxRecDepth 100000 in
theorem ck_22 {D : va_G} {dC : Nat → ClassId} {h : Nat} : ckd D dC h ((105, 10, 1, 12), 7) := rfl
set_option maxRecDepth 100000 in
theorem ck_23 {D : va_G} {dC : Nat → ClassId} {h : Nat} : ckd D dC h ((105, 10, 1, 12), 8) := rfl
set_option maxRecDepth 100000 in
theorem ck_24 {D : va_G} {dC : Nat → ClassId} {h : Nat} : ckd D dC h ((105, 10, 1, 12), 9) := rfl
set_option maxRecDepth 100000 in
theorem ck_25 {D : va_G} {dC : Nat → ClassId} {h : Nat} : ckd D dC h ((10105, 1, 4, 10), 0) := rfl
set_option maxRecDepth 100000 in
theorem ck_26 {D : va_G} {dC : Nat → ClassId} {h : Nat} : ckd D dC h ((200, 1, 1, 12), 0) := rfl
set_option maxRecDepth 100000 in
theorem ck_27 {D : va_G} {dC : Nat → ClassId} {h : Nat} : ckd D dC h ((201, 1, 1, 12), 0) := rfl
set_option maxRecDepth 100000 in
theorem ck_28 {D : va_G} {dC : Nat → ClassId} {h : Nat} : ckd D dC h ((202, 8, 1, 8), 0) := rfl
set_option maxRecDepth 100000 in
theorem ck_29 {D : va_G} {dC : Nat → ClassId} {h : Nat} : ckd D dC h ((202, 8, 1, 8), 1) := rfl
set_option maxRecDepth 100000 in
theorem ck_30 {D : va_G} {dC : Nat → ClassId} {h : Nat} : ckd D dC h ((202, 8, 1, 8), 2) := rfl
set_option maxRecDepth 100000 in
theorem ck_31 {D : va_G} {dC : Nat → ClassId} {h : Nat} : ckd D dC h ((202, 8, 1, 8), 3) := rfl
set_option maxRecDepth 100000 in
theorem ck_32 {D : va_G} {dC : Nat → ClassId} {h : Nat} : ckd D dC h ((202, 8, 1, 8), 4) := rfl
set_option maxRecDepth 100000 in
theorem ck_33 {D : va_G} {dC : Nat → ClassId} {h : Nat} : ckd D dC h ((202, 8, 1, 8), 5) := rfl
set_option maxRecDepth 100000 in
theorem ck_34 {D : va_G} {dC : Nat → ClassId} {h : Nat} : ckd D dC h ((202, 8, 1, 8), 6) := rfl
set_option maxRecDepth 100000 in
theorem ck_35 {D : va_G} {dC : Nat → ClassId} {h : Nat} : ckd D dC h ((202, 8, 1, 8), 7) := rfl
set_option maxRecDepth 100000 in
theorem ck_36 {D : va_G} {dC : Nat → ClassId} {h : Nat} : ckd D dC h ((10202, 1, 4, 8), 0) := rfl
set_option maxRecDepth 100000 in
theorem ck_37 {D : va_G} {dC : Nat → ClassId} {h : Nat} : ckd D dC h ((203, 13, 1, 8), 0) := rfl
set_option maxRecDepth 100000 in
theorem ck_38 {D : va_G} {dC : Nat → ClassId} {h : Nat} : ckd D dC h ((203, 13, 1, 8), 1) := rfl
set_option maxRecDepth 100000 in
theorem ck_39 {D : va_G} {dC : Nat → ClassId} {h : Nat} : ckd D dC h ((203, 13, 1, 8), 2) := rfl
set_option maxRecDepth 100000 in
theorem ck_40 {D : va_G} {dC : Nat → ClassId} {h : Nat} : ckd D dC h ((203, 13, 1, 8), 3) := rfl
set_option maxRecDepth 100000 in
theorem ck_41 {D : va_G} {dC : Nat → ClassId} {h : Nat} : ckd D dC h ((203, 13, 1, 8), 4) := rfl
set_option maxRecDepth 100000 in
theorem ck_42 {D : va_G} {dC : Nat → ClassId} {h : Nat} : ckd D dC h ((203, 13, 1, 8), 5) := rfl
set_option maxRecDepth 100000 in
theorem ck_43 {D : va_G} {dC : Nat → ClassId} {h : Nat} : ckd D dC h ((203, 13, 1, 8), 6) := rfl
set_option maxRecDepth 100000 in
theorem ck_44 {D : va_G} {dC : Nat → ClassId} {h : Nat} : ckd D dC h ((203, 13, 1, 8), 7) := rfl
set_option maxRecDepth 100000 in
theorem ck_45 {D : va_G} {dC : Nat → ClassId} {h : Nat} : ckd D dC h ((203, 13, 1, 8), 8) := rfl
set_option maxRecDepth 100000 in
theorem ck_46 {D : va_G} {dC : Nat → ClassId} {h : Nat} : ckd D dC h ((203, 13, 1, 8), 9) := rfl
set_option maxRecDepth 100000 in
theorem ck_47 {D : va_G} {dC : Nat → ClassId} {h : Nat} : ckd D dC h ((203, 13, 1, 8), 10) := rfl
set_option maxRecDepth 100000 in
theorem ck_48 {D : va_G} {dC : Nat → ClassId} {h : Nat} : ckd D dC h ((203, 13, 1, 8), 11) := rfl
set_option maxRecDepth 100000 in
theorem ck_49 {D : va_G} {dC : Nat → ClassId} {h : Nat} : ckd D dC h ((203, 13, 1, 8), 12) := rfl
set_option maxRecDepth 100000 in
theorem ck_50 {D : va_G} {dC : Nat → ClassId} {h : Nat} : ckd D dC h ((10203, 1, 4, 13), 0) := rfl
set_option maxRecDepth 100000 in
theorem ck_51 {D : va_G} {dC : Nat → ClassId} {h : Nat} : ckd D dC h ((204, 13, 3, 8), 0) := rfl
set_option maxRecDepth 100000 in
theorem ck_52 {D : va_G} {dC : Nat → ClassId} {h : Nat} : ckd D dC h ((204, 13, 3, 8), 1) := rfl
set_option maxRecDepth 100000 in
theorem ck_53 {D : va_G} {dC : Nat → ClassId} {h : Nat} : ckd D dC h ((204, 13, 3, 8), 2) := rfl
set_option maxRecDepth 100000 in
theorem ck_54 {D : va_G} {dC : Nat → ClassId} {h : Nat} : ckd D dC h ((204, 13, 3, 8), 3) := rfl
set_option maxRecDepth 100000 in
theorem ck_55 {D : va_G} {dC : Nat → ClassId} {h : Nat} : ckd D dC h ((204, 13, 3, 8), 4) := rfl
set_option maxRecDepth 100000 in
theorem ck_56 {D : va_G} {dC : Nat → ClassId} {h : Nat} : ckd D dC h ((204, 13, 3, 8), 5) := rfl
set_option maxRecDepth 100000 in
theorem ck_57 {D : va_G} {dC : Nat → ClassId} {h : Nat} : ckd D dC h ((204, 13, 3, 8), 6) := rfl
set_option maxRecDepth 100000 in
theorem ck_58 {D : va_G} {dC : Nat → ClassId} {h : Nat} : ckd D dC h ((204, 13, 3, 8), 7) := rfl
set_option maxRecDepth 100000 in
theorem ck_59 {D : va_G} {dC : Nat → ClassId} {h : Nat} : ckd D dC h ((204, 13, 3, 8), 8) := rfl
set_option maxRecDepth 100000 in
theorem ck_60 {D : va_G} {dC : Nat → ClassId} {h : Nat} : ckd D dC h ((204, 13, 3, 8), 9) := rfl
set_option maxRecDepth 100000 in
theorem ck_61 {D : va_G} {dC : Nat → ClassId} {h : Nat} : ckd D dC h ((204, 13, 3, 8), 10) := rfl
set_option maxRecDepth 100000 in
theorem ck_62 {D : va_G} {dC : Nat → ClassId} {h : Nat} : ckd D dC h ((204, 13, 3, 8), 11) := rfl
set_option maxRecDepth 100000 in
theorem ck_63 {D : va_G} {dC : Nat → ClassId} {h : Nat} : ckd D dC h ((204, 13, 3, 8), 12) := rfl
set_option maxRecDepth 100000 in
theorem ck_64 {D : va_G} {dC : Nat → ClassId} {h : Nat} : ckd D dC h ((10204, 1, 5, 13), 0) := rfl
set_option maxRecDepth 100000 in
theorem ck_65 {D : va_G} {dC : Nat → ClassId} {h : Nat} : ckd D dC h ((205, 1, 1, 13), 0) := rfl
set_option maxRecDepth 100000 in
theorem ck_66 {D : va_G} {dC : Nat → ClassId} {h : Nat} : ckd D dC h ((301, 16, 1, 16), 0) := rfl
set_option maxRecDepth 100000 in
theorem ck_67 {D : va_G} {dC : Nat → ClassId} {h : Nat} : ckd D dC h ((301, 16, 1, 16), 1) := rfl
set_option maxRecDepth 100000 in
theorem ck_68 {D : va_G} {dC : Nat → ClassId} {h : Nat} : ckd D dC h ((301, 16, 1, 16), 2) := rfl
set_option maxRecDepth 100000 in
theorem ck_69 {D : va_G} {dC : Nat → ClassId} {h : Nat} : ckd D dC h ((301, 16, 1, 16), 3) := rfl
set_option maxRecDepth 100000 in
theorem ck_70 {D : va_G} {dC : Nat → ClassId} {h : Nat} : ckd D dC h ((301, 16, 1, 16), 4) := rfl
set_option maxRecDepth 100000 in
theorem ck_71 {D : va_G} {dC : Nat → ClassId} {h : Nat} : ckd D dC h ((301, 16, 1, 16), 5) := rfl
set_option maxRecDepth 100000 in
theorem ck_72 {D : va_G} {dC : Nat → ClassId} {h : Nat} : ckd D dC h ((301, 16, 1, 16), 6) := rfl
set_option maxRecDepth 100000 in
theorem ck_73 {D : va_G} {dC : Nat → ClassId} {h : Nat} : ckd D dC h ((301, 16, 1, 16), 7) := rfl
set_option maxRecDepth 100000 in
theorem ck_74 {D : va_G} {dC : Nat → ClassId} {h : Nat} : ckd D dC h ((301, 16, 1, 16), 8) := rfl
set_option maxRecDepth 100000 in
theorem ck_75 {D : va_G} {dC : Nat → ClassId} {h : Nat} : ckd D dC h ((301, 16, 1, 16), 9) := rfl
set_option maxRecDepth 100000 in
theorem ck_76 {D : va_G} {dC : Nat → ClassId} {h : Nat} : ckd D dC h ((301, 16, 1, 16), 10) := rfl
set_option maxRecDepth 100000 in
theorem ck_77 {D : va_G} {dC : Nat → ClassId} {h : Nat} : ckd D dC h ((301, 16, 1, 16), 11) := rfl
set_option maxRecDepth 100000 in
theorem ck_78 {D : va_G} {dC : Nat → ClassId} {h : Nat} : ckd D dC h ((301, 16, 1, 16), 12) := rfl
set_option maxRecDepth 100000 in
theorem ck_79 {D : va_G} {dC : Nat → ClassId} {h : Nat} : ckd D dC h ((301, 16, 1, 16), 13) := rfl
set_option maxRecDepth 100000 in
theorem ck_80 {D : va_G} {dC : Nat → ClassId} {h : Nat} : ckd D dC h ((301, 16, 1, 16), 14) := rfl
set_option maxRecDepth 100000 in
theorem ck_81 {D : va_G} {dC : Nat → ClassId} {h : Nat} : ckd D dC h ((301, 16, 1, 16), 15) := rfl
set_option maxRecDepth 100000 in
theorem ck_82 {D : va_G} {dC : Nat → ClassId} {h : Nat} : ckd D dC h ((10301, 1, 4, 16), 0) := rfl
set_option maxRecDepth 100000 in
theorem ck_83 {D : va_G} {dC : Nat → ClassId} {h : Nat} : ckd D dC h ((302, 16, 1, 16), 0) := rfl
set_option maxRecDepth 100000 in
theorem ck_84 {D : va_G} {dC : Nat → ClassId} {h : Nat} : ckd D dC h ((302, 16, 1, 16), 1) := rfl
set_option maxRecDepth 100000 in
theorem ck_85 {D : va_G} {dC : Nat → ClassId} {h : Nat} : ckd D dC h ((302, 16, 1, 16), 2) := rfl
set_option maxRecDepth 100000 in
theorem ck_86 {D : va_G} {dC : Nat → ClassId} {h : Nat} : ckd D dC h ((302, 16, 1, 16), 3) := rfl
set_option maxRecDepth 100000 in
theorem ck_87 {D : va_G} {dC : Nat → ClassId} {h : Nat} : ckd D dC h ((302, 16, 1, 16), 4) := rfl
set_option maxRecDepth 100000 in
theorem ck_88 {D : va_G} {dC : Nat → ClassId} {h : Nat} : ckd D dC h ((302, 16, 1, 16), 5) := rfl
set_option maxRecDepth 100000 in
theorem ck_89 {D : va_G} {dC : Nat → ClassId} {h : Nat} : ckd D dC h ((302, 16, 1, 16), 6) := rfl
set_option maxRecDepth 100000 in
theorem ck_90 {D : va_G} {dC : Nat → ClassId} {h : Nat} : ckd D dC h ((302, 16, 1, 16), 7) := rfl
set_option maxRecDepth 100000 in
theorem ck_91 {D : va_G} {dC : Nat → ClassId} {h : Nat} : ckd D dC h ((302, 16, 1, 16), 8) := rfl
set_option maxRecDepth 100000 in
theorem ck_92 {D : va_G} {dC : Nat → ClassId} {h : Nat} : ckd D dC h ((302, 16, 1, 16), 9) := rfl
set_option maxRecDepth 100000 in
theorem ck_93 {D : va_G} {dC : Nat → ClassId} {h : Nat} : ckd D dC h ((302, 16, 1, 16), 10) := rfl
set_option maxRecDepth 100000 in
theorem ck_94 {D : va_G} {dC : Nat → ClassId} {h : Nat} : ckd D dC h ((302, 16, 1, 16), 11) := rfl
set_option maxRecDepth 100000 in
theorem ck_95 {D : va_G} {dC : Nat → ClassId} {h : Nat} : ckd D dC h ((302, 16, 1, 16), 12) := rfl
set_option maxRecDepth 100000 in
theorem ck_96 {D : va_G} {dC : Nat → ClassId} {h : Nat} : ckd D dC h ((302, 16, 1, 16), 13) := rfl
set_option maxRecDepth 100000 in
theorem ck_97 {D : va_G} {dC : Nat → ClassId} {h : Nat} : ckd D dC h ((302, 16, 1, 16), 14) := rfl
set_option maxRecDepth 100000 in
theorem ck_98 {D : va_G} {dC : Nat → ClassId} {h : Nat} : ckd D dC h ((302, 16, 1, 16), 15) := rfl
set_option maxRecDepth 100000 in
theorem ck_99 {D : va_G} {dC : Nat → ClassId} {h : Nat} : ckd D dC h ((10302, 1, 4, 16), 0) := rfl
set_option maxRecDepth 100000 in
theorem ck_100 {D : va_G} {dC : Nat → ClassId} {h : Nat} : ckd D dC h ((303, 1, 1, 16), 0) := rfl
set_option maxRecDepth 100000 in
theorem ck_101 {D : va_G} {dC : Nat → ClassId} {h : Nat} : ckd D dC h ((304, 1, 1, 73), 0) := rfl
set_option maxRecDepth 100000 in
theorem ck_102 {D : va_G} {dC : Nat → ClassId} {h : Nat} : ckd D dC h ((305, 1, 1, 16), 0) := rfl
set_option maxRecDepth 100000 in
theorem ck_103 {D : va_G} {dC : Nat → ClassId} {h : Nat} : ckd D dC h ((306, 1, 2, 16), 0) := rfl
set_option maxRecDepth 100000 in
theorem ck_104 {D : va_G} {dC : Nat → ClassId} {h : Nat} : ckd D dC h ((500, 7, 1, 120), 0) := rfl
set_option maxRecDepth 100000 in
theorem ck_105 {D : va_G} {dC : Nat → ClassId} {h : Nat} : ckd D dC h ((500, 7, 1, 120), 1) := rfl
set_option maxRecDepth 100000 in
theorem ck_106 {D : va_G} {dC : Nat → ClassId} {h : Nat} : ckd D dC h ((500, 7, 1, 120), 2) := rfl
set_option maxRecDepth 100000 in
theorem ck_107 {D : va_G} {dC : Nat → ClassId} {h : Nat} : ckd D dC h ((500, 7, 1, 120), 3) := rfl
set_option maxRecDepth 100000 in
theorem ck_108 {D : va_G} {dC : Nat → ClassId} {h : Nat} : ckd D dC h ((500, 7, 1, 120), 4) := rfl
set_option maxRecDepth 100000 in
theorem ck_109 {D : va_G} {dC : Nat → ClassId} {h : Nat} : ckd D dC h ((500, 7, 1, 120), 5) := rfl
set_option maxRecDepth 100000 in
theorem ck_110 {D : va_G} {dC : Nat → ClassId} {h : Nat} : ckd D dC h ((500, 7, 1, 120), 6) := rfl
set_option maxRecDepth 100000 in
theorem ck_111 {D : va_G} {dC : Nat → ClassId} {h : Nat} : ckd D dC h ((10500, 1, 4, 7), 0) := rfl
set_option maxRecDepth 100000 in
theorem ck_112 {D : va_G} {dC : Nat → ClassId} {h : Nat} : ckd D dC h ((501, 1, 1, 7), 0) := rfl
set_option maxRecDepth 100000 in
theorem ck_113 {D : va_G} {dC : Nat → ClassId} {h : Nat} : ckd D dC h ((502, 1, 1, 64), 0) := rfl
set_option maxRecDepth 100000 in
theorem ck_114 {D : va_G} {dC : Nat → ClassId} {h : Nat} : ckd D dC h ((505, 1, 1, 6), 0) := rfl
set_option maxRecDepth 100000 in
theorem ck_115 {D : va_G} {dC : Nat → ClassId} {h : Nat} : ckd D dC h ((506, 1, 1, 6), 0) := rfl
set_option maxRecDepth 100000 in
theorem ck_116 {D : va_G} {dC : Nat → ClassId} {h : Nat} : ckd D dC h ((603, 1, 1, 5), 0) := rfl
set_option maxRecDepth 100000 in
theorem ck_117 {D : va_G} {dC : Nat → ClassId} {h : Nat} : ckd D dC h ((604, 1, 1, 5), 0) := rfl
set_option maxRecDepth 100000 in
theorem ck_118 {D : va_G} {dC : Nat → ClassId} {h : Nat} : ckd D dC h ((605, 5, 1, 12), 0) := rfl
set_option maxRecDepth 100000 in
theorem ck_119 {D : va_G} {dC : Nat → ClassId} {h : Nat} : ckd D dC h ((605, 5, 1, 12), 1) := rfl
set_option maxRecDepth 100000 in
theorem ck_120 {D : va_G} {dC : Nat → ClassId} {h : Nat} : ckd D dC h ((605, 5, 1, 12), 2) := rfl
set_option maxRecDepth 100000 in
theorem ck_121 {D : va_G} {dC : Nat → ClassId} {h : Nat} : ckd D dC h ((605, 5, 1, 12), 3) := rfl
set_option maxRecDepth 100000 in
theorem ck_122 {D : va_G} {dC : Nat → ClassId} {h : Nat} : ckd D dC h ((605, 5, 1, 12), 4) := rfl
set_option maxRecDepth 100000 in
theorem ck_123 {D : va_G} {dC : Nat → ClassId} {h : Nat} : ckd D dC h ((10605, 1, 4, 5), 0) := rfl
set_option maxRecDepth 100000 in
theorem ck_124 {D : va_G} {dC : Nat → ClassId} {h : Nat} : ckd D dC h ((606, 1, 1, 12), 0) := rfl
set_option maxRecDepth 100000 in
theorem ck_125 {D : va_G} {dC : Nat → ClassId} {h : Nat} : ckd D dC h ((607, 1, 1, 5), 0) := rfl
set_option maxRecDepth 100000 in
theorem ck_126 {D : va_G} {dC : Nat → ClassId} {h : Nat} : ckd D dC h ((608, 1, 1, 5), 0) := rfl
set_option maxRecDepth 100000 in
theorem ck_127 {D : va_G} {dC : Nat → ClassId} {h : Nat} : ckd D dC h ((609, 1, 1, 8), 0) := rfl
set_option maxRecDepth 100000 in
theorem ck_128 {D : va_G} {dC : Nat → ClassId} {h : Nat} : ckd D dC h ((702, 1, 1, 17), 0) := rfl
set_option maxRecDepth 100000 in
theorem ck_129 {D : va_G} {dC : Nat → ClassId} {h : Nat} : ckd D dC h ((703, 17, 1, 8), 0) := rfl
set_option maxRecDepth 100000 in
theorem ck_130 {D : va_G} {dC : Nat → ClassId} {h : Nat} : ckd D dC h ((703, 17, 1, 8), 1) := rfl
set_option maxRecDepth 100000 in
theorem ck_131 {D : va_G} {dC : Nat → ClassId} {h : Nat} : ckd D dC h ((703, 17, 1, 8), 2) := rfl
set_option maxRecDepth 100000 in
theorem ck_132 {D : va_G} {dC : Nat → ClassId} {h : Nat} : ckd D dC h ((703, 17, 1, 8), 3) := rfl
set_option maxRecDepth 100000 in
theorem ck_133 {D : va_G} {dC : Nat → ClassId} {h : Nat} : ckd D dC h ((703, 17, 1, 8), 4) := rfl
set_option maxRecDepth 100000 in
theorem ck_134 {D : va_G} {dC : Nat → ClassId} {h : Nat} : ckd D dC h ((703, 17, 1, 8), 5) := rfl
set_option maxRecDepth 100000 in
theorem ck_135 {D : va_G} {dC : Nat → ClassId} {h : Nat} : ckd D dC h ((703, 17, 1, 8), 6) := rfl
set_option maxRecDepth 100000 in
theorem ck_136 {D : va_G} {dC : Nat → ClassId} {h : Nat} : ckd D dC h ((703, 17, 1, 8), 7) := rfl
set_option maxRecDepth 100000 in
theorem ck_137 {D : va_G} {dC : Nat → ClassId} {h : Nat} : ckd D dC h ((703, 17, 1, 8), 8) := rfl
set_option maxRecDepth 100000 in
theorem ck_138 {D : va_G} {dC : Nat → ClassId} {h : Nat} : ckd D dC h ((703, 17, 1, 8), 9) := rfl
set_option maxRecDepth 100000 in
theorem ck_139 {D : va_G} {dC : Nat → ClassId} {h : Nat} : ckd D dC h ((703, 17, 1, 8), 10) := rfl
set_option maxRecDepth 100000 in
theorem ck_140 {D : va_G} {dC : Nat → ClassId} {h : Nat} : ckd D dC h ((703, 17, 1, 8), 11) := rfl
set_option maxRecDepth 100000 in
theorem ck_141 {D : va_G} {dC : Nat → ClassId} {h : Nat} : ckd D dC h ((703, 17, 1, 8), 12) := rfl
set_option maxRecDepth 100000 in
theorem ck_142 {D : va_G} {dC : Nat → ClassId} {h : Nat} : ckd D dC h ((703, 17, 1, 8), 13) := rfl
set_option maxRecDepth 100000 in
theorem ck_143 {D : va_G} {dC : Nat → ClassId} {h : Nat} : ckd D dC h ((703, 17, 1, 8), 14) := rfl
set_option maxRecDepth 100000 in
theorem ck_144 {D : va_G} {dC : Nat → ClassId} {h : Nat} : ckd D dC h ((703, 17, 1, 8), 15) := rfl
set_option maxRecDepth 100000 in
theorem ck_145 {D : va_G} {dC : Nat → ClassId} {h : Nat} : ckd D dC h ((703, 17, 1, 8), 16) := rfl
set_option maxRecDepth 100000 in
theorem ck_146 {D : va_G} {dC : Nat → ClassId} {h : Nat} : ckd D dC h ((10703, 1, 4, 17), 0) := rfl
set_option maxRecDepth 100000 in
theorem ck_147 {D : va_G} {dC : Nat → ClassId} {h : Nat} : ckd D dC h ((704, 17, 1, 8), 0) := rfl
set_option maxRecDepth 100000 in
theorem ck_148 {D : va_G} {dC : Nat → ClassId} {h : Nat} : ckd D dC h ((704, 17, 1, 8), 1) := rfl
set_option maxRecDepth 100000 in
theorem ck_149 {D : va_G} {dC : Nat → ClassId} {h : Nat} : ckd D dC h ((704, 17, 1, 8), 2) := rfl
set_option maxRecDepth 100000 in
theorem ck_150 {D : va_G} {dC : Nat → ClassId} {h : Nat} : ckd D dC h ((704, 17, 1, 8), 3) := rfl
set_option maxRecDepth 100000 in
theorem ck_151 {D : va_G} {dC : Nat → ClassId} {h : Nat} : ckd D dC h ((704, 17, 1, 8), 4) := rfl
set_option maxRecDepth 100000 in
theorem ck_152 {D : va_G} {dC : Nat → ClassId} {h : Nat} : ckd D dC h ((704, 17, 1, 8), 5) := rfl
set_option maxRecDepth 100000 in
theorem ck_153 {D : va_G} {dC : Nat → ClassId} {h : Nat} : ckd D dC h ((704, 17, 1, 8), 6) := rfl
set_option maxRecDepth 100000 in
theorem ck_154 {D : va_G} {dC : Nat → ClassId} {h : Nat} : ckd D dC h ((704, 17, 1, 8), 7) := rfl
set_option maxRecDepth 100000 in
theorem ck_155 {D : va_G} {dC : Nat → ClassId} {h : Nat} : ckd D dC h ((704, 17, 1, 8), 8) := rfl
set_option maxRecDepth 100000 in
theorem ck_156 {D : va_G} {dC : Nat → ClassId} {h : Nat} : ckd D dC h ((704, 17, 1, 8), 9) := rfl
set_option maxRecDepth 100000 in
theorem ck_157 {D : va_G} {dC : Nat → ClassId} {h : Nat} : ckd D dC h ((704, 17, 1, 8), 10) := rfl
set_option maxRecDepth 100000 in
theorem ck_158 {D : va_G} {dC : Nat → ClassId} {h : Nat} : ckd D dC h ((704, 17, 1, 8), 11) := rfl
set_option maxRecDepth 100000 in
theorem ck_159 {D : va_G} {dC : Nat → ClassId} {h : Nat} : ckd D dC h ((704, 17, 1, 8), 12) := rfl
set_option maxRecDepth 100000 in
theorem ck_160 {D : va_G} {dC : Nat → ClassId} {h : Nat} : ckd D dC h ((704, 17, 1, 8), 13) := rfl
set_option maxRecDepth 100000 in
theorem ck_161 {D : va_G} {dC : Nat → ClassId} {h : Nat} : ckd D dC h ((704, 17, 1, 8), 14) := rfl
set_option maxRecDepth 100000 in
theorem ck_162 {D : va_G} {dC : Nat → ClassId} {h : Nat} : ckd D dC h ((704, 17, 1, 8), 15) := rfl
set_option maxRecDepth 100000 in
theorem ck_163 {D : va_G} {dC : Nat → ClassId} {h : Nat} : ckd D dC h ((704, 17, 1, 8), 16) := rfl
set_option maxRecDepth 100000 in
theorem ck_164 {D : va_G} {dC : Nat → ClassId} {h : Nat} : ckd D dC h ((10704, 1, 4, 17), 0) := rfl
set_option maxRecDepth 100000 in
theorem ck_165 {D : va_G} {dC : Nat → ClassId} {h : Nat} : ckd D dC h ((705, 17, 1, 8), 0) := rfl
set_option maxRecDepth 100000 in
theorem ck_166 {D : va_G} {dC : Nat → ClassId} {h : Nat} : ckd D dC h ((705, 17, 1, 8), 1) := rfl
set_option maxRecDepth 100000 in
theorem ck_167 {D : va_G} {dC : Nat → ClassId} {h : Nat} : ckd D dC h ((705, 17, 1, 8), 2) := rfl
set_option maxRecDepth 100000 in
theorem ck_168 {D : va_G} {dC : Nat → ClassId} {h : Nat} : ckd D dC h ((705, 17, 1, 8), 3) := rfl
set_option maxRecDepth 100000 in
theorem ck_169 {D : va_G} {dC : Nat → ClassId} {h : Nat} : ckd D dC h ((705, 17, 1, 8), 4) := rfl
set_option maxRecDepth 100000 in
theorem ck_170 {D : va_G} {dC : Nat → ClassId} {h : Nat} : ckd D dC h ((705, 17, 1, 8), 5) := rfl
set_option maxRecDepth 100000 in
theorem ck_171 {D : va_G} {dC : Nat → ClassId} {h : Nat} : ckd D dC h ((705, 17, 1, 8), 6) := rfl
set_option maxRecDepth 100000 in
theorem ck_172 {D : va_G} {dC : Nat → ClassId} {h : Nat} : ckd D dC h ((705, 17, 1, 8), 7) := rfl
set_option maxRecDepth 100000 in
theorem ck_173 {D : va_G} {dC : Nat → ClassId} {h : Nat} : ckd D dC h ((705, 17, 1, 8), 8) := rfl
set_option maxRecDepth 100000 in
theorem ck_174 {D : va_G} {dC : Nat → ClassId} {h : Nat} : ckd D dC h ((705, 17, 1, 8), 9) := rfl
set_option maxRecDepth 100000 in
theorem ck_175 {D : va_G} {dC : Nat → ClassId} {h : Nat} : ckd D dC h ((705, 17, 1, 8), 10) := rfl
set_option maxRecDepth 100000 in
theorem ck_176 {D : va_G} {dC : Nat → ClassId} {h : Nat} : ckd D dC h ((705, 17, 1, 8), 11) := rfl
set_option maxRecDepth 100000 in
theorem ck_177 {D : va_G} {dC : Nat → ClassId} {h : Nat} : ckd D dC h ((705, 17, 1, 8), 12) := rfl
set_option maxRecDepth 100000 in
theorem ck_178 {D : va_G} {dC : Nat → ClassId} {h : Nat} : ckd D dC h ((705, 17, 1, 8), 13) := rfl
set_option maxRecDepth 100000 in
theorem ck_179 {D : va_G} {dC : Nat → ClassId} {h : Nat} : ckd D dC h ((705, 17, 1, 8), 14) := rfl
set_option maxRecDepth 100000 in
theorem ck_180 {D : va_G} {dC : Nat → ClassId} {h : Nat} : ckd D dC h ((705, 17, 1, 8), 15) := rfl
set_option maxRecDepth 100000 in
theorem ck_181 {D : va_G} {dC : Nat → ClassId} {h : Nat} : ckd D dC h ((705, 17, 1, 8), 16) := rfl
set_option maxRecDepth 100000 in
theorem ck_182 {D : va_G} {dC : Nat → ClassId} {h : Nat} : ckd D dC h ((10705, 1, 4, 17), 0) := rfl
set_option maxRecDepth 100000 in
theorem ck_183 {D : va_G} {dC : Nat → ClassId} {h : Nat} : ckd D dC h ((706, 1, 1, 17), 0) := rfl
set_option maxRecDepth 100000 in
theorem ck_184 {D : va_G} {dC : Nat → ClassId} {h : Nat} : ckd D dC h ((707, 1, 1, 17), 0) := rfl
set_option maxRecDepth 100000 in
theorem ck_185 {D : va_G} {dC : Nat → ClassId} {h : Nat} : ckd D dC h ((708, 17, 1, 72), 0) := rfl
set_option maxRecDepth 100000 in
theorem ck_186 {D : va_G} {dC : Nat → ClassId} {h : Nat} : ckd D dC h ((708, 17, 1, 72), 1) := rfl
set_option maxRecDepth 100000 in
theorem ck_187 {D : va_G} {dC : Nat → ClassId} {h : Nat} : ckd D dC h ((708, 17, 1, 72), 2) := rfl
set_option maxRecDepth 100000 in
theorem ck_188 {D : va_G} {dC : Nat → ClassId} {h : Nat} : ckd D dC h ((708, 17, 1, 72), 3) := rfl
set_option maxRecDepth 100000 in
theorem ck_189 {D : va_G} {dC : Nat → ClassId} {h : Nat} : ckd D dC h ((708, 17, 1, 72), 4) := rfl
set_option maxRecDepth 100000 in
theorem ck_190 {D : va_G} {dC : Nat → ClassId} {h : Nat} : ckd D dC h ((708, 17, 1, 72), 5) := rfl
set_option maxRecDepth 100000 in
theorem ck_191 {D : va_G} {dC : Nat → ClassId} {h : Nat} : ckd D dC h ((708, 17, 1, 72), 6) := rfl
set_option maxRecDepth 100000 in
theorem ck_192 {D : va_G} {dC : Nat → ClassId} {h : Nat} : ckd D dC h ((708, 17, 1, 72), 7) := rfl
set_option maxRecDepth 100000 in
theorem ck_193 {D : va_G} {dC : Nat → ClassId} {h : Nat} : ckd D dC h ((708, 17, 1, 72), 8) := rfl
set_option maxRecDepth 100000 in
theorem ck_194 {D : va_G} {dC : Nat → ClassId} {h : Nat} : ckd D dC h ((708, 17, 1, 72), 9) := rfl
set_option maxRecDepth 100000 in
theorem ck_195 {D : va_G} {dC : Nat → ClassId} {h : Nat} : ckd D dC h ((708, 17, 1, 72), 10) := rfl
set_option maxRecDepth 100000 in
theorem ck_196 {D : va_G} {dC : Nat → ClassId} {h : Nat} : ckd D dC h ((708, 17, 1, 72), 11) := rfl
set_option maxRecDepth 100000 in
theorem ck_197 {D : va_G} {dC : Nat → ClassId} {h : Nat} : ckd D dC h ((708, 17, 1, 72), 12) := rfl
set_option maxRecDepth 100000 in
theorem ck_198 {D : va_G} {dC : Nat → ClassId} {h : Nat} : ckd D dC h ((708, 17, 1, 72), 13) := rfl
set_option maxRecDepth 100000 in
theorem ck_199 {D : va_G} {dC : Nat → ClassId} {h : Nat} : ckd D dC h ((708, 17, 1, 72), 14) := rfl
set_option maxRecDepth 100000 in
theorem ck_200 {D : va_G} {dC : Nat → ClassId} {h : Nat} : ckd D dC h ((708, 17, 1, 72), 15) := rfl
set_option maxRecDepth 100000 in
theorem ck_201 {D : va_G} {dC : Nat → ClassId} {h : Nat} : ckd D dC h ((708, 17, 1, 72), 16) := rfl
set_option maxRecDepth 100000 in
theorem ck_202 {D : va_G} {dC : Nat → ClassId} {h : Nat} : ckd D dC h ((10708, 1, 4, 17), 0) := rfl
set_option maxRecDepth 100000 in
theorem ck_203 {D : va_G} {dC : Nat → ClassId} {h : Nat} : ckd D dC h ((709, 1, 1, 17), 0) := rfl
set_option maxRecDepth 100000 in
theorem ck_204 {D : va_G} {dC : Nat → ClassId} {h : Nat} : ckd D dC h ((710, 17, 1, 4), 0) := rfl
set_option maxRecDepth 100000 in
theorem ck_205 {D : va_G} {dC : Nat → ClassId} {h : Nat} : ckd D dC h ((710, 17, 1, 4), 1) := rfl
set_option maxRecDepth 100000 in
theorem ck_206 {D : va_G} {dC : Nat → ClassId} {h : Nat} : ckd D dC h ((710, 17, 1, 4), 2) := rfl
set_option maxRecDepth 100000 in
theorem ck_207 {D : va_G} {dC : Nat → ClassId} {h : Nat} : ckd D dC h ((710, 17, 1, 4), 3) := rfl
set_option maxRecDepth 100000 in
theorem ck_208 {D : va_G} {dC : Nat → ClassId} {h : Nat} : ckd D dC h ((710, 17, 1, 4), 4) := rfl
set_option maxRecDepth 100000 in
theorem ck_209 {D : va_G} {dC : Nat → ClassId} {h : Nat} : ckd D dC h ((710, 17, 1, 4), 5) := rfl
set_option maxRecDepth 100000 in
theorem ck_210 {D : va_G} {dC : Nat → ClassId} {h : Nat} : ckd D dC h ((710, 17, 1, 4), 6) := rfl
set_option maxRecDepth 100000 in
theorem ck_211 {D : va_G} {dC : Nat → ClassId} {h : Nat} : ckd D dC h ((710, 17, 1, 4), 7) := rfl
set_option maxRecDepth 100000 in
theorem ck_212 {D : va_G} {dC : Nat → ClassId} {h : Nat} : ckd D dC h ((710, 17, 1, 4), 8) := rfl
set_option maxRecDepth 100000 in
theorem ck_213 {D : va_G} {dC : Nat → ClassId} {h : Nat} : ckd D dC h ((710, 17, 1, 4), 9) := rfl
set_option maxRecDepth 100000 in
theorem ck_214 {D : va_G} {dC : Nat → ClassId} {h : Nat} : ckd D dC h ((710, 17, 1, 4), 10) := rfl
set_option maxRecDepth 100000 in
theorem ck_215 {D : va_G} {dC : Nat → ClassId} {h : Nat} : ckd D dC h ((710, 17, 1, 4), 11) := rfl
set_option maxRecDepth 100000 in
theorem ck_216 {D : va_G} {dC : Nat → ClassId} {h : Nat} : ckd D dC h ((710, 17, 1, 4), 12) := rfl
set_option maxRecDepth 100000 in
theorem ck_217 {D : va_G} {dC : Nat → ClassId} {h : Nat} : ckd D dC h ((710, 17, 1, 4), 13) := rfl
set_option maxRecDepth 100000 in
theorem ck_218 {D : va_G} {dC : Nat → ClassId} {h : Nat} : ckd D dC h ((710, 17, 1, 4), 14) := rfl
set_option maxRecDepth 100000 in
theorem ck_219 {D : va_G} {dC : Nat → ClassId} {h : Nat} : ckd D dC h ((710, 17, 1, 4), 15) := rfl
set_option maxRecDepth 100000 in
theorem ck_220 {D : va_G} {dC : Nat → ClassId} {h : Nat} : ckd D dC h ((710, 17, 1, 4), 16) := rfl
set_option maxRecDepth 100000 in
theorem ck_221 {D : va_G} {dC : Nat → ClassId} {h : Nat} : ckd D dC h ((10710, 1, 4, 17), 0) := rfl
set_option maxRecDepth 100000 in
theorem ck_222 {D : va_G} {dC : Nat → ClassId} {h : Nat} : ckd D dC h ((711, 1, 1, 17), 0) := rfl
set_option maxRecDepth 100000 in
theorem ck_223 {D : va_G} {dC : Nat → ClassId} {h : Nat} : ckd D dC h ((800, 1, 1, 12), 0) := rfl
set_option maxRecDepth 100000 in
theorem ck_224 {D : va_G} {dC : Nat → ClassId} {h : Nat} : ckd D dC h ((801, 1, 1, 12), 0) := rfl
set_option maxRecDepth 100000 in
theorem ck_225 {D : va_G} {dC : Nat → ClassId} {h : Nat} : ckd D dC h ((802, 1, 1, 12), 0) := rfl
set_option maxRecDepth 100000 in
theorem ck_226 {D : va_G} {dC : Nat → ClassId} {h : Nat} : ckd D dC h ((803, 1, 1, 12), 0) := rfl
set_option maxRecDepth 100000 in
theorem ck_227 {D : va_G} {dC : Nat → ClassId} {h : Nat} : ckd D dC h ((804, 1, 1, 12), 0) := rfl
set_option maxRecDepth 100000 in
theorem ck_228 {D : va_G} {dC : Nat → ClassId} {h : Nat} : ckd D dC h ((805, 12, 1, 6), 0) := rfl
set_option maxRecDepth 100000 in
theorem ck_229 {D : va_G} {dC : Nat → ClassId} {h : Nat} : ckd D dC h ((805, 12, 1, 6), 1) := rfl
set_option maxRecDepth 100000 in
theorem ck_230 {D : va_G} {dC : Nat → ClassId} {h : Nat} : ckd D dC h ((805, 12, 1, 6), 2) := rfl
set_option maxRecDepth 100000 in
theorem ck_231 {D : va_G} {dC : Nat → ClassId} {h : Nat} : ckd D dC h ((805, 12, 1, 6), 3) := rfl
set_option maxRecDepth 100000 in
theorem ck_232 {D : va_G} {dC : Nat → ClassId} {h : Nat} : ckd D dC h ((805, 12, 1, 6), 4) := rfl
set_option maxRecDepth 100000 in
theorem ck_233 {D : va_G} {dC : Nat → ClassId} {h : Nat} : ckd D dC h ((805, 12, 1, 6), 5) := rfl
set_option maxRecDepth 100000 in
theorem ck_234 {D : va_G} {dC : Nat → ClassId} {h : Nat} : ckd D dC h ((805, 12, 1, 6), 6) := rfl
set_option maxRecDepth 100000 in
theorem ck_235 {D : va_G} {dC : Nat → ClassId} {h : Nat} : ckd D dC h ((805, 12, 1, 6), 7) := rfl
set_option maxRecDepth 100000 in
theorem ck_236 {D : va_G} {dC : Nat → ClassId} {h : Nat} : ckd D dC h ((805, 12, 1, 6), 8) := rfl
set_option maxRecDepth 100000 in
theorem ck_237 {D : va_G} {dC : Nat → ClassId} {h : Nat} : ckd D dC h ((805, 12, 1, 6), 9) := rfl
set_option maxRecDepth 100000 in
theorem ck_238 {D : va_G} {dC : Nat → ClassId} {h : Nat} : ckd D dC h ((805, 12, 1, 6), 10) := rfl
set_option maxRecDepth 100000 in
theorem ck_239 {D : va_G} {dC : Nat → ClassId} {h : Nat} : ckd D dC h ((805, 12, 1, 6), 11) := rfl
set_option maxRecDepth 100000 in
theorem ck_240 {D : va_G} {dC : Nat → ClassId} {h : Nat} : ckd D dC h ((10805, 1, 4, 12), 0) := rfl
set_option maxRecDepth 100000 in
theorem ck_241 {D : va_G} {dC : Nat → ClassId} {h : Nat} : ckd D dC h ((806, 12, 1, 6), 0) := rfl
set_option maxRecDepth 100000 in
theorem ck_242 {D : va_G} {dC : Nat → ClassId} {h : Nat} : ckd D dC h ((806, 12, 1, 6), 1) := rfl
set_option maxRecDepth 100000 in
theorem ck_243 {D : va_G} {dC : Nat → ClassId} {h : Nat} : ckd D dC h ((806, 12, 1, 6), 2) := rfl
set_option maxRecDepth 100000 in
theorem ck_244 {D : va_G} {dC : Nat → ClassId} {h : Nat} : ckd D dC h ((806, 12, 1, 6), 3) := rfl
set_option maxRecDepth 100000 in
theorem ck_245 {D : va_G} {dC : Nat → ClassId} {h : Nat} : ckd D dC h ((806, 12, 1, 6), 4) := rfl
set_option maxRecDepth 100000 in
theorem ck_246 {D : va_G} {dC : Nat → ClassId} {h : Nat} : ckd D dC h ((806, 12, 1, 6), 5) := rfl
set_option maxRecDepth 100000 in
theorem ck_247 {D : va_G} {dC : Nat → ClassId} {h : Nat} : ckd D dC h ((806, 12, 1, 6), 6) := rfl
set_option maxRecDepth 100000 in
theorem ck_248 {D : va_G} {dC : Nat → ClassId} {h : Nat} : ckd D dC h ((806, 12, 1, 6), 7) := rfl
set_option maxRecDepth 100000 in
theorem ck_249 {D : va_G} {dC : Nat → ClassId} {h : Nat} : ckd D dC h ((806, 12, 1, 6), 8) := rfl
set_option maxRecDepth 100000 in
theorem ck_250 {D : va_G} {dC : Nat → ClassId} {h : Nat} : ckd D dC h ((806, 12, 1, 6), 9) := rfl
set_option maxRecDepth 100000 in
theorem ck_251 {D : va_G} {dC : Nat → ClassId} {h : Nat} : ckd D dC h ((806, 12, 1, 6), 10) := rfl
set_option maxRecDepth 100000 in
theorem ck_252 {D : va_G} {dC : Nat → ClassId} {h : Nat} : ckd D dC h ((806, 12, 1, 6), 11) := rfl
set_option maxRecDepth 100000 in
theorem ck_253 {D : va_G} {dC : Nat → ClassId} {h : Nat} : ckd D dC h ((10806, 1, 4, 12), 0) := rfl
set_option maxRecDepth 100000 in
theorem ck_254 {D : va_G} {dC : Nat → ClassId} {h : Nat} : ckd D dC h ((905, 1, 1, 16), 0) := rfl
set_option maxRecDepth 100000 in
theorem ck_255 {D : va_G} {dC : Nat → ClassId} {h : Nat} : ckd D dC h ((906, 16, 1, 6), 0) := rfl
set_option maxRecDepth 100000 in
theorem ck_256 {D : va_G} {dC : Nat → ClassId} {h : Nat} : ckd D dC h ((906, 16, 1, 6), 1) := rfl
set_option maxRecDepth 100000 in
theorem ck_257 {D : va_G} {dC : Nat → ClassId} {h : Nat} : ckd D dC h ((906, 16, 1, 6), 2) := rfl
set_option maxRecDepth 100000 in
theorem ck_258 {D : va_G} {dC : Nat → ClassId} {h : Nat} : ckd D dC h ((906, 16, 1, 6), 3) := rfl
set_option maxRecDepth 100000 in
theorem ck_259 {D : va_G} {dC : Nat → ClassId} {h : Nat} : ckd D dC h ((906, 16, 1, 6), 4) := rfl
set_option maxRecDepth 100000 in
theorem ck_260 {D : va_G} {dC : Nat → ClassId} {h : Nat} : ckd D dC h ((906, 16, 1, 6), 5) := rfl
set_option maxRecDepth 100000 in
theorem ck_261 {D : va_G} {dC : Nat → ClassId} {h : Nat} : ckd D dC h ((906, 16, 1, 6), 6) := rfl
set_option maxRecDepth 100000 in
theorem ck_262 {D : va_G} {dC : Nat → ClassId} {h : Nat} : ckd D dC h ((906, 16, 1, 6), 7) := rfl
set_option maxRecDepth 100000 in
theorem ck_263 {D : va_G} {dC : Nat → ClassId} {h : Nat} : ckd D dC h ((906, 16, 1, 6), 8) := rfl
set_option maxRecDepth 100000 in
theorem ck_264 {D : va_G} {dC : Nat → ClassId} {h : Nat} : ckd D dC h ((906, 16, 1, 6), 9) := rfl
set_option maxRecDepth 100000 in
theorem ck_265 {D : va_G} {dC : Nat → ClassId} {h : Nat} : ckd D dC h ((906, 16, 1, 6), 10) := rfl
set_option maxRecDepth 100000 in
theorem ck_266 {D : va_G} {dC : Nat → ClassId} {h : Nat} : ckd D dC h ((906, 16, 1, 6), 11) := rfl
set_option maxRecDepth 100000 in
theorem ck_267 {D : va_G} {dC : Nat → ClassId} {h : Nat} : ckd D dC h ((906, 16, 1, 6), 12) := rfl
set_option maxRecDepth 100000 in
theorem ck_268 {D : va_G} {dC : Nat → ClassId} {h : Nat} : ckd D dC h ((906, 16, 1, 6), 13) := rfl
set_option maxRecDepth 100000 in
theorem ck_269 {D : va_G} {dC : Nat → ClassId} {h : Nat} : ckd D dC h ((906, 16, 1, 6), 14) := rfl
set_option maxRecDepth 100000 in
theorem ck_270 {D : va_G} {dC : Nat → ClassId} {h : Nat} : ckd D dC h ((906, 16, 1, 6), 15) := rfl
set_option maxRecDepth 100000 in
theorem ck_271 {D : va_G} {dC : Nat → ClassId} {h : Nat} : ckd D dC h ((10906, 1, 4, 16), 0) := rfl
set_option maxRecDepth 100000 in
theorem ck_272 {D : va_G} {dC : Nat → ClassId} {h : Nat} : ckd D dC h ((907, 16, 1, 6), 0) := rfl
set_option maxRecDepth 100000 in
theorem ck_273 {D : va_G} {dC : Nat → ClassId} {h : Nat} : ckd D dC h ((907, 16, 1, 6), 1) := rfl
set_option maxRecDepth 100000 in
theorem ck_274 {D : va_G} {dC : Nat → ClassId} {h : Nat} : ckd D dC h ((907, 16, 1, 6), 2) := rfl
set_option maxRecDepth 100000 in
theorem ck_275 {D : va_G} {dC : Nat → ClassId} {h : Nat} : ckd D dC h ((907, 16, 1, 6), 3) := rfl
set_option maxRecDepth 100000 in
theorem ck_276 {D : va_G} {dC : Nat → ClassId} {h : Nat} : ckd D dC h ((907, 16, 1, 6), 4) := rfl
set_option maxRecDepth 100000 in
theorem ck_277 {D : va_G} {dC : Nat → ClassId} {h : Nat} : ckd D dC h ((907, 16, 1, 6), 5) := rfl
set_option maxRecDepth 100000 in
theorem ck_278 {D : va_G} {dC : Nat → ClassId} {h : Nat} : ckd D dC h ((907, 16, 1, 6), 6) := rfl
set_option maxRecDepth 100000 in
theorem ck_279 {D : va_G} {dC : Nat → ClassId} {h : Nat} : ckd D dC h ((907, 16, 1, 6), 7) := rfl
set_option maxRecDepth 100000 in
theorem ck_280 {D : va_G} {dC : Nat → ClassId} {h : Nat} : ckd D dC h ((907, 16, 1, 6), 8) := rfl
set_option maxRecDepth 100000 in
theorem ck_281 {D : va_G} {dC : Nat → ClassId} {h : Nat} : ckd D dC h ((907, 16, 1, 6), 9) := rfl
set_option maxRecDepth 100000 in
theorem ck_282 {D : va_G} {dC : Nat → ClassId} {h : Nat} : ckd D dC h ((907, 16, 1, 6), 10) := rfl
set_option maxRecDepth 100000 in
theorem ck_283 {D : va_G} {dC : Nat → ClassId} {h : Nat} : ckd D dC h ((907, 16, 1, 6), 11) := rfl
set_option maxRecDepth 100000 in
theorem ck_284 {D : va_G} {dC : Nat → ClassId} {h : Nat} : ckd D dC h ((907, 16, 1, 6), 12) := rfl
set_option maxRecDepth 100000 in
theorem ck_285 {D : va_G} {dC : Nat → ClassId} {h : Nat} : ckd D dC h ((907, 16, 1, 6), 13) := rfl
set_option maxRecDepth 100000 in
theorem ck_286 {D : va_G} {dC : Nat → ClassId} {h : Nat} : ckd D dC h ((907, 16, 1, 6), 14) := rfl
set_option maxRecDepth 100000 in
theorem ck_287 {D : va_G} {dC : Nat → ClassId} {h : Nat} : ckd D dC h ((907, 16, 1, 6), 15) := rfl
set_option maxRecDepth 100000 in
theorem ck_288 {D : va_G} {dC : Nat → ClassId} {h : Nat} : ckd D dC h ((10907, 1, 4, 16), 0) := rfl
set_option maxRecDepth 100000 in
theorem ck_289 {D : va_G} {dC : Nat → ClassId} {h : Nat} : ckd D dC h ((909, 1, 1, 16), 0) := rfl
set_option maxRecDepth 100000 in
theorem ck_290 {D : va_G} {dC : Nat → ClassId} {h : Nat} : ckd D dC h ((910, 1, 1, 16), 0) := rfl
set_option maxRecDepth 100000 in
theorem ck_291 {D : va_G} {dC : Nat → ClassId} {h : Nat} : ckd D dC h ((911, 16, 1, 8), 0) := rfl
set_option maxRecDepth 100000 in
theorem ck_292 {D : va_G} {dC : Nat → ClassId} {h : Nat} : ckd D dC h ((911, 16, 1, 8), 1) := rfl
set_option maxRecDepth 100000 in
theorem ck_293 {D : va_G} {dC : Nat → ClassId} {h : Nat} : ckd D dC h ((911, 16, 1, 8), 2) := rfl
set_option maxRecDepth 100000 in
theorem ck_294 {D : va_G} {dC : Nat → ClassId} {h : Nat} : ckd D dC h ((911, 16, 1, 8), 3) := rfl
set_option maxRecDepth 100000 in
theorem ck_295 {D : va_G} {dC : Nat → ClassId} {h : Nat} : ckd D dC h ((911, 16, 1, 8), 4) := rfl
set_option maxRecDepth 100000 in
theorem ck_296 {D : va_G} {dC : Nat → ClassId} {h : Nat} : ckd D dC h ((911, 16, 1, 8), 5) := rfl
set_option maxRecDepth 100000 in
theorem ck_297 {D : va_G} {dC : Nat → ClassId} {h : Nat} : ckd D dC h ((911, 16, 1, 8), 6) := rfl
set_option maxRecDepth 100000 in
theorem ck_298 {D : va_G} {dC : Nat → ClassId} {h : Nat} : ckd D dC h ((911, 16, 1, 8), 7) := rfl
set_option maxRecDepth 100000 in
theorem ck_299 {D : va_G} {dC : Nat → ClassId} {h : Nat} : ckd D dC h ((911, 16, 1, 8), 8) := rfl
set_option maxRecDepth 100000 in
theorem ck_300 {D : va_G} {dC : Nat → ClassId} {h : Nat} : ckd D dC h ((911, 16, 1, 8), 9) := rfl
set_option maxRecDepth 100000 in
theorem ck_301 {D : va_G} {dC : Nat → ClassId} {h : Nat} : ckd D dC h ((911, 16, 1, 8), 10) := rfl
set_option maxRecDepth 100000 in
theorem ck_302 {D : va_G} {dC : Nat → ClassId} {h : Nat} : ckd D dC h ((911, 16, 1, 8), 11) := rfl
set_option maxRecDepth 100000 in
theorem ck_303 {D : va_G} {dC : Nat → ClassId} {h : Nat} : ckd D dC h ((911, 16, 1, 8), 12) := rfl
set_option maxRecDepth 100000 in
theorem ck_304 {D : va_G} {dC : Nat → ClassId} {h : Nat} : ckd D dC h ((911, 16, 1, 8), 13) := rfl
set_option maxRecDepth 100000 in
theorem ck_305 {D : va_G} {dC : Nat → ClassId} {h : Nat} : ckd D dC h ((911, 16, 1, 8), 14) := rfl
set_option maxRecDepth 100000 in
theorem ck_306 {D : va_G} {dC : Nat → ClassId} {h : Nat} : ckd D dC h ((911, 16, 1, 8), 15) := rfl
set_option maxRecDepth 100000 in
theorem ck_307 {D : va_G} {dC : Nat → ClassId} {h : Nat} : ckd D dC h ((10911, 1, 4, 16), 0) := rfl
set_option maxRecDepth 100000 in
theorem ck_308 {D : va_G} {dC : Nat → ClassId} {h : Nat} : ckd D dC h ((913, 1, 1, 5000), 0) := rfl
set_option maxRecDepth 100000 in
theorem ck_309 {D : va_G} {dC : Nat → ClassId} {h : Nat} : ckd D dC h ((914, 1, 1, 8), 0) := rfl
set_option maxRecDepth 100000 in
theorem ck_310 {D : va_G} {dC : Nat → ClassId} {h : Nat} : ckd D dC h ((915, 1, 1, 8), 0) := rfl
set_option maxRecDepth 100000 in
theorem ck_311 {D : va_G} {dC : Nat → ClassId} {h : Nat} : ckd D dC h ((916, 1, 1, 8), 0) := rfl
set_option maxRecDepth 100000 in
theorem ck_312 {D : va_G} {dC : Nat → ClassId} {h : Nat} : ckd D dC h ((917, 1, 1, 8), 0) := rfl
set_option maxRecDepth 100000 in
theorem ck_313 {D : va_G} {dC : Nat → ClassId} {h : Nat} : ckd D dC h ((918, 1, 1, 9), 0) := rfl
set_option maxRecDepth 100000 in
theorem ck_314 {D : va_G} {dC : Nat → ClassId} {h : Nat} : ckd D dC h ((1000, 1, 1, 120), 0) := rfl
set_option maxRecDepth 100000 in
theorem ck_315 {D : va_G} {dC : Nat → ClassId} {h : Nat} : ckd D dC h ((1104, 1, 1, 100), 0) := rfl
set_option maxRecDepth 100000 in
theorem ck_316 {D : va_G} {dC : Nat → ClassId} {h : Nat} : ckd D dC h ((1105, 1, 1, 8), 0) := rfl
set_option maxRecDepth 100000 in
theorem ck_317 {D : va_G} {dC : Nat → ClassId} {h : Nat} : ckd D dC h ((1106, 1, 1, 300), 0) := rfl
set_option maxRecDepth 100000 in
theorem ck_318 {D : va_G} {dC : Nat → ClassId} {h : Nat} : ckd D dC h ((1107, 1, 1, 300), 0) := rfl
set_option maxRecDepth 100000 in
theorem ck_319 {D : va_G} {dC : Nat → ClassId} {h : Nat} : ckd D dC h ((1301, 1, 1, 120), 0) := rfl
set_option maxRecDepth 100000 in
theorem ck_320 {D : va_G} {dC : Nat → ClassId} {h : Nat} : ckd D dC h ((1306, 1, 1, 12), 0) := rfl
set_option maxRecDepth 100000 in
theorem ck_321 {D : va_G} {dC : Nat → ClassId} {h : Nat} : ckd D dC h ((1307, 1, 1, 12), 0) := rfl
set_option maxRecDepth 100000 in
theorem ck_322 {D : va_G} {dC : Nat → ClassId} {h : Nat} : ckd D dC h ((1308, 1, 1, 12), 0) := rfl
set_option maxRecDepth 100000 in
theorem ck_323 {D : va_G} {dC : Nat → ClassId} {h : Nat} : ckd D dC h ((1309, 1, 2, 12), 0) := rfl
set_option maxRecDepth 100000 in
theorem ck_324 {D : va_G} {dC : Nat → ClassId} {h : Nat} : ckd D dC h ((1310, 1, 1, 12), 0) := rfl
set_option maxRecDepth 100000 in
theorem ck_325 {D : va_G} {dC : Nat → ClassId} {h : Nat} : ckd D dC h ((1311, 1, 1, 12), 0) := rfl
set_option maxRecDepth 100000 in
theorem ck_326 {D : va_G} {dC : Nat → ClassId} {h : Nat} : ckd D dC h ((1312, 1, 1, 72), 0) := rfl
set_option maxRecDepth 100000 in
theorem ck_327 {D : va_G} {dC : Nat → ClassId} {h : Nat} : ckd D dC h ((1313, 1, 1, 72), 0) := rfl
set_option maxRecDepth 100000 in
theorem ck_328 {D : va_G} {dC : Nat → ClassId} {h : Nat} : ckd D dC h ((1315, 1, 1, 17), 0) := rfl
set_option maxRecDepth 100000 in
theorem ck_329 {D : va_G} {dC : Nat → ClassId} {h : Nat} : ckd D dC h ((1316, 1, 1, 136), 0) := rfl
set_option maxRecDepth 100000 in
theorem ck_330 {D : va_G} {dC : Nat → ClassId} {h : Nat} : ckd D dC h ((1317, 1, 1, 136), 0) := rfl
set_option maxRecDepth 100000 in
theorem ck_331 {D : va_G} {dC : Nat → ClassId} {h : Nat} : ckd D dC h ((1318, 1, 1, 136), 0) := rfl
set_option maxRecDepth 100000 in
theorem ck_332 {D : va_G} {dC : Nat → ClassId} {h : Nat} : ckd D dC h ((1319, 1, 1, 17), 0) := rfl
set_option maxRecDepth 100000 in
theorem ck_333 {D : va_G} {dC : Nat → ClassId} {h : Nat} : ckd D dC h ((1320, 1, 1, 1224), 0) := rfl
set_option maxRecDepth 100000 in
theorem ck_334 {D : va_G} {dC : Nat → ClassId} {h : Nat} : ckd D dC h ((1321, 1, 1, 17), 0) := rfl
set_option maxRecDepth 100000 in
theorem ck_335 {D : va_G} {dC : Nat → ClassId} {h : Nat} : ckd D dC h ((1323, 1, 1, 1820), 0) := rfl
set_option maxRecDepth 100000 in
theorem ck_336 {D : va_G} {dC : Nat → ClassId} {h : Nat} : ckd D dC h ((1324, 1, 1, 1820), 0) := rfl
set_option maxRecDepth 100000 in
theorem ck_337 {D : va_G} {dC : Nat → ClassId} {h : Nat} : ckd D dC h ((1325, 1, 1, 7), 0) := rfl
set_option maxRecDepth 100000 in
theorem ck_338 {D : va_G} {dC : Nat → ClassId} {h : Nat} : ckd D dC h ((1326, 1, 1, 7), 0) := rfl
set_option maxRecDepth 100000 in
theorem ck_339 {D : va_G} {dC : Nat → ClassId} {h : Nat} : ckd D dC h ((1327, 1, 1, 420), 0) := rfl
set_option maxRecDepth 100000 in
theorem ck_340 {D : va_G} {dC : Nat → ClassId} {h : Nat} : ckd D dC h ((1328, 1, 1, 420), 0) := rfl
set_option maxRecDepth 100000 in
theorem ck_341 {D : va_G} {dC : Nat → ClassId} {h : Nat} : ckd D dC h ((1329, 1, 1, 420), 0) := rfl
set_option maxRecDepth 100000 in
theorem ck_342 {D : va_G} {dC : Nat → ClassId} {h : Nat} : ckd D dC h ((1332, 1, 1, 9), 0) := rfl
set_option maxRecDepth 100000 in
theorem ck_343 {D : va_G} {dC : Nat → ClassId} {h : Nat} : ckd D dC h ((1333, 1, 1, 60), 0) := rfl
set_option maxRecDepth 100000 in
theorem ck_344 {D : va_G} {dC : Nat → ClassId} {h : Nat} : ckd D dC h ((1334, 1, 1, 20), 0) := rfl
set_option maxRecDepth 100000 in
theorem ck_345 {D : va_G} {dC : Nat → ClassId} {h : Nat} : ckd D dC h ((1335, 1, 1, 20), 0) := rfl
set_option maxRecDepth 100000 in
theorem ck_346 {D : va_G} {dC : Nat → ClassId} {h : Nat} : ckd D dC h ((1336, 1, 1, 20), 0) := rfl
set_option maxRecDepth 100000 in
theorem ck_347 {D : va_G} {dC : Nat → ClassId} {h : Nat} : ckd D dC h ((1337, 1, 1, 20), 0) := rfl
set_option maxRecDepth 100000 in
theorem ck_348 {D : va_G} {dC : Nat → ClassId} {h : Nat} : ckd D dC h ((1340, 1, 1, 8), 0) := rfl
set_option maxRecDepth 100000 in
theorem ck_349 {D : va_G} {dC : Nat → ClassId} {h : Nat} : ckd D dC h ((1341, 1, 1, 5000), 0) := rfl
set_option maxRecDepth 100000 in
theorem ck_350 {D : va_G} {dC : Nat → ClassId} {h : Nat} : ckd D dC h ((1344, 1, 1, 100), 0) := rfl
set_option maxRecDepth 100000 in
theorem ck_351 {D : va_G} {dC : Nat → ClassId} {h : Nat} : ckd D dC h ((1345, 1, 1, 20), 0) := rfl
set_option maxRecDepth 100000 in
theorem ck_352 {D : va_G} {dC : Nat → ClassId} {h : Nat} : ckd D dC h ((1346, 1, 1, 20), 0) := rfl
set_option maxRecDepth 100000 in
theorem ck_353 {D : va_G} {dC : Nat → ClassId} {h : Nat} : ckd D dC h ((1347, 1, 2, 20), 0) := rfl
set_option maxRecDepth 100000 in
theorem ck_354 {D : va_G} {dC : Nat → ClassId} {h : Nat} : ckd D dC h ((1349, 1, 1, 64), 0) := rfl
set_option maxRecDepth 100000 in
theorem ck_355 {D : va_G} {dC : Nat → ClassId} {h : Nat} : ckd D dC h ((1350, 1, 1, 12), 0) := rfl
set_option maxRecDepth 100000 in
theorem ck_356 {D : va_G} {dC : Nat → ClassId} {h : Nat} : ckd D dC h ((1351, 1, 1, 12), 0) := rfl
set_option maxRecDepth 100000 in
theorem ck_357 {D : va_G} {dC : Nat → ClassId} {h : Nat} : ckd D dC h ((1352, 1, 1, 104), 0) := rfl
set_option maxRecDepth 100000 in
theorem ck_358 {D : va_G} {dC : Nat → ClassId} {h : Nat} : ckd D dC h ((1353, 1, 3, 104), 0) := rfl
set_option maxRecDepth 100000 in
theorem ck_359 {D : va_G} {dC : Nat → ClassId} {h : Nat} : ckd D dC h ((1355, 1, 1, 10), 0) := rfl
set_option maxRecDepth 100000 in
theorem ck_360 {D : va_G} {dC : Nat → ClassId} {h : Nat} : ckd D dC h ((1356, 1, 2, 10), 0) := rfl
set_option maxRecDepth 100000 in
theorem ck_361 {D : va_G} {dC : Nat → ClassId} {h : Nat} : ckd D dC h ((1357, 1, 1, 120), 0) := rfl
set_option maxRecDepth 100000 in
theorem ck_362 {D : va_G} {dC : Nat → ClassId} {h : Nat} : ckd D dC h ((1359, 1, 1, 5), 0) := rfl
set_option maxRecDepth 100000 in
theorem ck_363 {D : va_G} {dC : Nat → ClassId} {h : Nat} : ckd D dC h ((1360, 1, 2, 5), 0) := rfl
set_option maxRecDepth 100000 in
theorem ck_364 {D : va_G} {dC : Nat → ClassId} {h : Nat} : ckd D dC h ((1361, 1, 1, 60), 0) := rfl
set_option maxRecDepth 100000 in
theorem ck_365 {D : va_G} {dC : Nat → ClassId} {h : Nat} : ckd D dC h ((1362, 1, 1, 5), 0) := rfl
set_option maxRecDepth 100000 in
theorem ck_366 {D : va_G} {dC : Nat → ClassId} {h : Nat} : ckd D dC h ((1363, 1, 1, 5), 0) := rfl
set_option maxRecDepth 100000 in
theorem ck_367 {D : va_G} {dC : Nat → ClassId} {h : Nat} : ckd D dC h ((1377, 1, 1, 73), 0) := rfl
set_option maxRecDepth 100000 in
theorem ck_368 {D : va_G} {dC : Nat → ClassId} {h : Nat} : ckd D dC h ((1378, 1, 1, 16), 0) := rfl
set_option maxRecDepth 100000 in
theorem ck_369 {D : va_G} {dC : Nat → ClassId} {h : Nat} : ckd D dC h ((1379, 1, 1, 8), 0) := rfl
set_option maxRecDepth 100000 in
theorem ck_370 {D : va_G} {dC : Nat → ClassId} {h : Nat} : ckd D dC h ((1380, 1, 1, 300), 0) := rfl
set_option maxRecDepth 100000 in
theorem ck_371 {D : va_G} {dC : Nat → ClassId} {h : Nat} : ckd D dC h ((1381, 1, 1, 300), 0) := rfl
set_option maxRecDepth 100000 in
theorem ck_372 {D : va_G} {dC : Nat → ClassId} {h : Nat} : ckd D dC h ((1400, 1, 3, 1), 0) := rfl
def wB_0 : List (Ent × Nat) := [((0, 1, 0, 0), 0), ((1, 1, 0, 0), 0), ((2, 1, 0, 0), 0), ((3, 1, 0, 0), 0), ((4, 1, 0, 0), 0), ((5, 1, 0, 0), 0), ((6, 1, 0, 0), 0), ((7, 1, 0, 0), 0), ((8, 1, 0, 0), 0), ((9, 1, 0, 0), 0), ((10, 1, 0, 0), 0), ((11, 1, 0, 0), 0), ((12, 1, 0, 0), 0), ((103, 1, 1, 10), 0), ((104, 1, 2, 10), 0), ((105, 10, 1, 12), 0), ((105, 10, 1, 12), 1), ((105, 10, 1, 12), 2), ((105, 10, 1, 12), 3), ((105, 10, 1, 12), 4)]
theorem cB_0 {D : va_G} {dC : Nat → ClassId} {h : Nat} : ∀ k ∈ wB_0, ckd D dC h k := List.forall_mem_cons.mpr ⟨ck_0, List.forall_mem_cons.mpr ⟨ck_1, List.forall_mem_cons.mpr ⟨ck_2, List.forall_mem_cons.mpr ⟨ck_3, List.forall_mem_cons.mpr ⟨ck_4, List.forall_mem_cons.mpr ⟨ck_5, List.forall_mem_cons.mpr ⟨ck_6, List.forall_mem_cons.mpr ⟨ck_7, List.forall_mem_cons.mpr ⟨ck_8, List.forall_mem_cons.mpr ⟨ck_9, List.forall_mem_cons.mpr ⟨ck_10, List.forall_mem_cons.mpr ⟨ck_11, List.forall_mem_cons.mpr ⟨ck_12, List.forall_mem_cons.mpr ⟨ck_13, List.forall_mem_cons.mpr ⟨ck_14, List.forall_mem_cons.mpr ⟨ck_15, List.forall_mem_cons.mpr ⟨ck_16, List.forall_mem_cons.mpr ⟨ck_17, List.forall_mem_cons.mpr ⟨ck_18, List.forall_mem_cons.mpr ⟨ck_19, fun _ hk => absurd hk List.not_mem_nil⟩⟩⟩⟩⟩⟩⟩⟩⟩⟩⟩⟩⟩⟩⟩⟩⟩⟩⟩⟩
def wB_1 : List (Ent × Nat) := [((105, 10, 1, 12), 5), ((105, 10, 1, 12), 6), ((105, 10, 1, 12), 7), ((105, 10, 1, 12), 8), ((105, 10, 1, 12), 9), ((10105, 1, 4, 10), 0), ((200, 1, 1, 12), 0), ((201, 1, 1, 12), 0), ((202, 8, 1, 8), 0), ((202, 8, 1, 8), 1), ((202, 8, 1, 8), 2), ((202, 8, 1, 8), 3), ((202, 8, 1, 8), 4), ((202, 8, 1, 8), 5), ((202, 8, 1, 8), 6), ((202, 8, 1, 8), 7), ((10202, 1, 4, 8), 0), ((203, 13, 1, 8), 0), ((203, 13, 1, 8), 1), ((203, 13, 1, 8), 2)]
theorem cB_1 {D : va_G} {dC : Nat → ClassId} {h : Nat} : ∀ k ∈ wB_1, ckd D dC h k := List.forall_mem_cons.mpr ⟨ck_20, List.forall_mem_cons.mpr ⟨ck_21, List.forall_mem_cons.mpr ⟨ck_22, List.forall_mem_cons.mpr ⟨ck_23, List.forall_mem_cons.mpr ⟨ck_24, List.forall_mem_cons.mpr ⟨ck_25, List.forall_mem_cons.mpr ⟨ck_26, List.forall_mem_cons.mpr ⟨ck_27, List.forall_mem_cons.mpr ⟨ck_28, List.forall_mem_cons.mpr ⟨ck_29, List.forall_mem_cons.mpr ⟨ck_30, List.forall_mem_cons.mpr ⟨ck_31, List.forall_mem_cons.mpr ⟨ck_32, List.forall_mem_cons.mpr ⟨ck_33, List.forall_mem_cons.mpr ⟨ck_34, List.forall_mem_cons.mpr ⟨ck_35, List.forall_mem_cons.mpr ⟨ck_36, List.forall_mem_cons.mpr ⟨ck_37, List.forall_mem_cons.mpr ⟨ck_38, List.forall_mem_cons.mpr ⟨ck_39, fun _ hk => absurd hk List.not_mem_nil⟩⟩⟩⟩⟩⟩⟩⟩⟩⟩⟩⟩⟩⟩⟩⟩⟩⟩⟩⟩
def wB_2 : List (Ent × Nat) := [((203, 13, 1, 8), 3), ((203, 13, 1, 8), 4), ((203, 13, 1, 8), 5), ((203, 13, 1, 8), 6), ((203, 13, 1, 8), 7), ((203, 13, 1, 8), 8), ((203, 13, 1, 8), 9), ((203, 13, 1, 8), 10), ((203, 13, 1, 8), 11), ((203, 13, 1, 8), 12), ((10203, 1, 4, 13), 0), ((204, 13, 3, 8), 0), ((204, 13, 3, 8), 1), ((204, 13, 3, 8), 2), ((204, 13, 3, 8), 3), ((204, 13, 3, 8), 4), ((204, 13, 3, 8), 5), ((204, 13, 3, 8), 6), ((204, 13, 3, 8), 7), ((204, 13, 3, 8), 8)]
theorem cB_2 {D : va_G} {dC : Nat → ClassId} {h : Nat} : ∀ k ∈ wB_2, ckd D dC h k := List.forall_mem_cons.mpr ⟨ck_40, List.forall_mem_cons.mpr ⟨ck_41, List.forall_mem_cons.mpr ⟨ck_42, List.forall_mem_cons.mpr ⟨ck_43, List.forall_mem_cons.mpr ⟨ck_44, List.forall_mem_cons.mpr ⟨ck_45, List.forall_mem_cons.mpr ⟨ck_46, List.forall_mem_cons.mpr ⟨ck_47, List.forall_mem_cons.mpr ⟨ck_48, List.forall_mem_cons.mpr ⟨ck_49, List.forall_mem_cons.mpr ⟨ck_50, List.forall_mem_cons.mpr ⟨ck_51, List.forall_mem_cons.mpr ⟨ck_52, List.forall_mem_cons.mpr ⟨ck_53, List.forall_mem_cons.mpr ⟨ck_54, List.forall_mem_cons.mpr ⟨ck_55, List.forall_mem_cons.mpr ⟨ck_56, List.forall_mem_cons.mpr ⟨ck_57, List.forall_mem_cons.mpr ⟨ck_58, List.forall_mem_cons.mpr ⟨ck_59, fun _ hk => absurd hk List.not_mem_nil⟩⟩⟩⟩⟩⟩⟩⟩⟩⟩⟩⟩⟩⟩⟩⟩⟩⟩⟩⟩
def wB_3 : List (Ent × Nat) := [((204, 13, 3, 8), 9), ((204, 13, 3, 8), 10), ((204, 13, 3, 8), 11), ((204, 13, 3, 8), 12), ((10204, 1, 5, 13), 0), ((205, 1, 1, 13), 0), ((301, 16, 1, 16), 0), ((301, 16, 1, 16), 1), ((301, 16, 1, 16), 2), ((301, 16, 1, 16), 3), ((301, 16, 1, 16), 4), ((301, 16, 1, 16), 5), ((301, 16, 1, 16), 6), ((301, 16, 1, 16), 7), ((301, 16, 1, 16), 8), ((301, 16, 1, 16), 9), ((301, 16, 1, 16), 10), ((301, 16, 1, 16), 11), ((301, 16, 1, 16), 12), ((301, 16, 1, 16), 13)]
theorem cB_3 {D : va_G} {dC : Nat → ClassId} {h : Nat} : ∀ k ∈ wB_3, ckd D dC h k := List.forall_mem_cons.mpr ⟨ck_60, List.forall_mem_cons.mpr ⟨ck_61, List.forall_mem_cons.mpr ⟨ck_62, List.forall_mem_cons.mpr ⟨ck_63, List.forall_mem_cons.mpr ⟨ck_64, List.forall_mem_cons.mpr ⟨ck_65, List.forall_mem_cons.mpr ⟨ck_66, List.forall_mem_cons.mpr ⟨ck_67, List.forall_mem_cons.mpr ⟨ck_68, List.forall_mem_cons.mpr ⟨ck_69, List.forall_mem_cons.mpr ⟨ck_70, List.forall_mem_cons.mpr ⟨ck_71, List.forall_mem_cons.mpr ⟨ck_72, List.forall_mem_cons.mpr ⟨ck_73, List.forall_mem_cons.mpr ⟨ck_74, List.forall_mem_cons.mpr ⟨ck_75, List.forall_mem_cons.mpr ⟨ck_76, List.forall_mem_cons.mpr ⟨ck_77, List.forall_mem_cons.mpr ⟨ck_78, List.forall_mem_cons.mpr ⟨ck_79, fun _ hk => absurd hk List.not_mem_nil⟩⟩⟩⟩⟩⟩⟩⟩⟩⟩⟩⟩⟩⟩⟩⟩⟩⟩⟩⟩
def wB_4 : List (Ent × Nat) := [((301, 16, 1, 16), 14), ((301, 16, 1, 16), 15), ((10301, 1, 4, 16), 0), ((302, 16, 1, 16), 0), ((302, 16, 1, 16), 1), ((302, 16, 1, 16), 2), ((302, 16, 1, 16), 3), ((302, 16, 1, 16), 4), ((302, 16, 1, 16), 5), ((302, 16, 1, 16), 6), ((302, 16, 1, 16), 7), ((302, 16, 1, 16), 8), ((302, 16, 1, 16), 9), ((302, 16, 1, 16), 10), ((302, 16, 1, 16), 11), ((302, 16, 1, 16), 12), ((302, 16, 1, 16), 13), ((302, 16, 1, 16), 14), ((302, 16, 1, 16), 15), ((10302, 1, 4, 16), 0)]
theorem cB_4 {D : va_G} {dC : Nat → ClassId} {h : Nat} : ∀ k ∈ wB_4, ckd D dC h k := List.forall_mem_cons.mpr ⟨ck_80, List.forall_mem_cons.mpr ⟨ck_81, List.forall_mem_cons.mpr ⟨ck_82, List.forall_mem_cons.mpr ⟨ck_83, List.forall_mem_cons.mpr ⟨ck_84, List.forall_mem_cons.mpr ⟨ck_85, List.forall_mem_cons.mpr ⟨ck_86, List.forall_mem_cons.mpr ⟨ck_87, List.forall_mem_cons.mpr ⟨ck_88, List.forall_mem_cons.mpr ⟨ck_89, List.forall_mem_cons.mpr ⟨ck_90, List.forall_mem_cons.mpr ⟨ck_91, List.forall_mem_cons.mpr ⟨ck_92, List.forall_mem_cons.mpr ⟨ck_93, List.forall_mem_cons.mpr ⟨ck_94, List.forall_mem_cons.mpr ⟨ck_95, List.forall_mem_cons.mpr ⟨ck_96, List.forall_mem_cons.mpr ⟨ck_97, List.forall_mem_cons.mpr ⟨ck_98, List.forall_mem_cons.mpr ⟨ck_99, fun _ hk => absurd hk List.not_mem_nil⟩⟩⟩⟩⟩⟩⟩⟩⟩⟩⟩⟩⟩⟩⟩⟩⟩⟩⟩⟩
def wB_5 : List (Ent × Nat) := [((303, 1, 1, 16), 0), ((304, 1, 1, 73), 0), ((305, 1, 1, 16), 0), ((306, 1, 2, 16), 0), ((500, 7, 1, 120), 0), ((500, 7, 1, 120), 1), ((500, 7, 1, 120), 2), ((500, 7, 1, 120), 3), ((500, 7, 1, 120), 4), ((500, 7, 1, 120), 5), ((500, 7, 1, 120), 6), ((10500, 1, 4, 7), 0), ((501, 1, 1, 7), 0), ((502, 1, 1, 64), 0), ((505, 1, 1, 6), 0), ((506, 1, 1, 6), 0), ((603, 1, 1, 5), 0), ((604, 1, 1, 5), 0), ((605, 5, 1, 12), 0), ((605, 5, 1, 12), 1)]
theorem cB_5 {D : va_G} {dC : Nat → ClassId} {h : Nat} : ∀ k ∈ wB_5, ckd D dC h k := List.forall_mem_cons.mpr ⟨ck_100, List.forall_mem_cons.mpr ⟨ck_101, List.forall_mem_cons.mpr ⟨ck_102, List.forall_mem_cons.mpr ⟨ck_103, List.forall_mem_cons.mpr ⟨ck_104, List.forall_mem_cons.mpr ⟨ck_105, List.forall_mem_cons.mpr ⟨ck_106, List.forall_mem_cons.mpr ⟨ck_107, List.forall_mem_cons.mpr ⟨ck_108, List.forall_mem_cons.mpr ⟨ck_109, List.forall_mem_cons.mpr ⟨ck_110, List.forall_mem_cons.mpr ⟨ck_111, List.forall_mem_cons.mpr ⟨ck_112, List.forall_mem_cons.mpr ⟨ck_113, List.forall_mem_cons.mpr ⟨ck_114, List.forall_mem_cons.mpr ⟨ck_115, List.forall_mem_cons.mpr ⟨ck_116, List.forall_mem_cons.mpr ⟨ck_117, List.forall_mem_cons.mpr ⟨ck_118, List.forall_mem_cons.mpr ⟨ck_119, fun _ hk => absurd hk List.not_mem_nil⟩⟩⟩⟩⟩⟩⟩⟩⟩⟩⟩⟩⟩⟩⟩⟩⟩⟩⟩⟩
def wB_6 : List (Ent × Nat) := [((605, 5, 1, 12), 2), ((605, 5, 1, 12), 3), ((605, 5, 1, 12), 4), ((10605, 1, 4, 5), 0), ((606, 1, 1, 12), 0), ((607, 1, 1, 5), 0), ((608, 1, 1, 5), 0), ((609, 1, 1, 8), 0), ((702, 1, 1, 17), 0), ((703, 17, 1, 8), 0), ((703, 17, 1, 8), 1), ((703, 17, 1, 8), 2), ((703, 17, 1, 8), 3), ((703, 17, 1, 8), 4), ((703, 17, 1, 8), 5), ((703, 17, 1, 8), 6), ((703, 17, 1, 8), 7), ((703, 17, 1, 8), 8), ((703, 17, 1, 8), 9), ((703, 17, 1, 8), 10)]
theorem cB_6 {D : va_G} {dC : Nat → ClassId} {h : Nat} : ∀ k ∈ wB_6, ckd D dC h k := List.forall_mem_cons.mpr ⟨ck_120, List.forall_mem_cons.mpr ⟨ck_121, List.forall_mem_cons.mpr ⟨ck_122, List.forall_mem_cons.mpr ⟨ck_123, List.forall_mem_cons.mpr ⟨ck_124, List.forall_mem_cons.mpr ⟨ck_125, List.forall_mem_cons.mpr ⟨ck_126, List.forall_mem_cons.mpr ⟨ck_127, List.forall_mem_cons.mpr ⟨ck_128, List.forall_mem_cons.mpr ⟨ck_129, List.forall_mem_cons.mpr ⟨ck_130, List.forall_mem_cons.mpr ⟨ck_131, List.forall_mem_cons.mpr ⟨ck_132, List.forall_mem_cons.mpr ⟨ck_133, List.forall_mem_cons.mpr ⟨ck_134, List.forall_mem_cons.mpr ⟨ck_135, List.forall_mem_cons.mpr ⟨ck_136, List.forall_mem_cons.mpr ⟨ck_137, List.forall_mem_cons.mpr ⟨ck_138, List.forall_mem_cons.mpr ⟨ck_139, fun _ hk => absurd hk List.not_mem_nil⟩⟩⟩⟩⟩⟩⟩⟩⟩⟩⟩⟩⟩⟩⟩⟩⟩⟩⟩⟩
def wB_7 : List (Ent × Nat) := [((703, 17, 1, 8), 11), ((703, 17, 1, 8), 12), ((703, 17, 1, 8), 13), ((703, 17, 1, 8), 14), ((703, 17, 1, 8), 15), ((703, 17, 1, 8), 16), ((10703, 1, 4, 17), 0), ((704, 17, 1, 8), 0), ((704, 17, 1, 8), 1), ((704, 17, 1, 8), 2), ((704, 17, 1, 8), 3), ((704, 17, 1, 8), 4), ((704, 17, 1, 8), 5), ((704, 17, 1, 8), 6), ((704, 17, 1, 8), 7), ((704, 17, 1, 8), 8), ((704, 17, 1, 8), 9), ((704, 17, 1, 8), 10), ((704, 17, 1, 8), 11), ((704, 17, 1, 8), 12)]
theorem cB_7 {D : va_G} {dC : Nat → ClassId} {h : Nat} : ∀ k ∈ wB_7, ckd D dC h k := List.forall_mem_cons.mpr ⟨ck_140, List.forall_mem_cons.mpr ⟨ck_141, List.forall_mem_cons.mpr ⟨ck_142, List.forall_mem_cons.mpr ⟨ck_143, List.forall_mem_cons.mpr ⟨ck_144, List.forall_mem_cons.mpr ⟨ck_145, List.forall_mem_cons.mpr ⟨ck_146, List.forall_mem_cons.mpr ⟨ck_147, List.forall_mem_cons.mpr ⟨ck_148, List.forall_mem_cons.mpr ⟨ck_149, List.forall_mem_cons.mpr ⟨ck_150, List.forall_mem_cons.mpr ⟨ck_151, List.forall_mem_cons.mpr ⟨ck_152, List.forall_mem_cons.mpr ⟨ck_153, List.forall_mem_cons.mpr ⟨ck_154, List.forall_mem_cons.mpr ⟨ck_155, List.forall_mem_cons.mpr ⟨ck_156, List.forall_mem_cons.mpr ⟨ck_157, List.forall_mem_cons.mpr ⟨ck_158, List.forall_mem_cons.mpr ⟨ck_159, fun _ hk => absurd hk List.not_mem_nil⟩⟩⟩⟩⟩⟩⟩⟩⟩⟩⟩⟩⟩⟩⟩⟩⟩⟩⟩⟩
def wB_8 : List (Ent × Nat) := [((704, 17, 1, 8), 13), ((704, 17, 1, 8), 14), ((704, 17, 1, 8), 15), ((704, 17, 1, 8), 16), ((10704, 1, 4, 17), 0), ((705, 17, 1, 8), 0), ((705, 17, 1, 8), 1), ((705, 17, 1, 8), 2), ((705, 17, 1, 8), 3), ((705, 17, 1, 8), 4), ((705, 17, 1, 8), 5), ((705, 17, 1, 8), 6), ((705, 17, 1, 8), 7), ((705, 17, 1, 8), 8), ((705, 17, 1, 8), 9), ((705, 17, 1, 8), 10), ((705, 17, 1, 8), 11), ((705, 17, 1, 8), 12), ((705, 17, 1, 8), 13), ((705, 17, 1, 8), 14)]
theorem cB_8 {D : va_G} {dC : Nat → ClassId} {h : Nat} : ∀ k ∈ wB_8, ckd D dC h k := List.forall_mem_cons.mpr ⟨ck_160, List.forall_mem_cons.mpr ⟨ck_161, List.forall_mem_cons.mpr ⟨ck_162, List.forall_mem_cons.mpr ⟨ck_163, List.forall_mem_cons.mpr ⟨ck_164, List.forall_mem_cons.mpr ⟨ck_165, List.forall_mem_cons.mpr ⟨ck_166, List.forall_mem_cons.mpr ⟨ck_167, List.forall_mem_cons.mpr ⟨ck_168, List.forall_mem_cons.mpr ⟨ck_169, List.forall_mem_cons.mpr ⟨ck_170, List.forall_mem_cons.mpr ⟨ck_171, List.forall_mem_cons.mpr ⟨ck_172, List.forall_mem_cons.mpr ⟨ck_173, List.forall_mem_cons.mpr ⟨ck_174, List.forall_mem_cons.mpr ⟨ck_175, List.forall_mem_cons.mpr ⟨ck_176, List.forall_mem_cons.mpr ⟨ck_177, List.forall_mem_cons.mpr ⟨ck_178, List.forall_mem_cons.mpr ⟨ck_179, fun _ hk => absurd hk List.not_mem_nil⟩⟩⟩⟩⟩⟩⟩⟩⟩⟩⟩⟩⟩⟩⟩⟩⟩⟩⟩⟩
def wB_9 : List (Ent × Nat) := [((705, 17, 1, 8), 15), ((705, 17, 1, 8), 16), ((10705, 1, 4, 17), 0), ((706, 1, 1, 17), 0), ((707, 1, 1, 17), 0), ((708, 17, 1, 72), 0), ((708, 17, 1, 72), 1), ((708, 17, 1, 72), 2), ((708, 17, 1, 72), 3), ((708, 17, 1, 72), 4), ((708, 17, 1, 72), 5), ((708, 17, 1, 72), 6), ((708, 17, 1, 72), 7), ((708, 17, 1, 72), 8), ((708, 17, 1, 72), 9), ((708, 17, 1, 72), 10), ((708, 17, 1, 72), 11), ((708, 17, 1, 72), 12), ((708, 17, 1, 72), 13), ((708, 17, 1, 72), 14)]
theorem cB_9 {D : va_G} {dC : Nat → ClassId} {h : Nat} : ∀ k ∈ wB_9, ckd D dC h k := List.forall_mem_cons.mpr ⟨ck_180, List.forall_mem_cons.mpr ⟨ck_181, List.forall_mem_cons.mpr ⟨ck_182, List.forall_mem_cons.mpr ⟨ck_183, List.forall_mem_cons.mpr ⟨ck_184, List.forall_mem_cons.mpr ⟨ck_185, List.forall_mem_cons.mpr ⟨ck_186, List.forall_mem_cons.mpr ⟨ck_187, List.forall_mem_cons.mpr ⟨ck_188, List.forall_mem_cons.mpr ⟨ck_189, List.forall_mem_cons.mpr ⟨ck_190, List.forall_mem_cons.mpr ⟨ck_191, List.forall_mem_cons.mpr ⟨ck_192, List.forall_mem_cons.mpr ⟨ck_193, List.forall_mem_cons.mpr ⟨ck_194, List.forall_mem_cons.mpr ⟨ck_195, List.forall_mem_cons.mpr ⟨ck_196, List.forall_mem_cons.mpr ⟨ck_197, List.forall_mem_cons.mpr ⟨ck_198, List.forall_mem_cons.mpr ⟨ck_199, fun _ hk => absurd hk List.not_mem_nil⟩⟩⟩⟩⟩⟩⟩⟩⟩⟩⟩⟩⟩⟩⟩⟩⟩⟩⟩⟩
def wB_10 : List (Ent × Nat) := [((708, 17, 1, 72), 15), ((708, 17, 1, 72), 16), ((10708, 1, 4, 17), 0), ((709, 1, 1, 17), 0), ((710, 17, 1, 4), 0), ((710, 17, 1, 4), 1), ((710, 17, 1, 4), 2), ((710, 17, 1, 4), 3), ((710, 17, 1, 4), 4), ((710, 17, 1, 4), 5), ((710, 17, 1, 4), 6), ((710, 17, 1, 4), 7), ((710, 17, 1, 4), 8), ((710, 17, 1, 4), 9), ((710, 17, 1, 4), 10), ((710, 17, 1, 4), 11), ((710, 17, 1, 4), 12), ((710, 17, 1, 4), 13), ((710, 17, 1, 4), 14), ((710, 17, 1, 4), 15)]
theorem cB_10 {D : va_G} {dC : Nat → ClassId} {h : Nat} : ∀ k ∈ wB_10, ckd D dC h k := List.forall_mem_cons.mpr ⟨ck_200, List.forall_mem_cons.mpr ⟨ck_201, List.forall_mem_cons.mpr ⟨ck_202, List.forall_mem_cons.mpr ⟨ck_203, List.forall_mem_cons.mpr ⟨ck_204, List.forall_mem_cons.mpr ⟨ck_205, List.forall_mem_cons.mpr ⟨ck_206, List.forall_mem_cons.mpr ⟨ck_207, List.forall_mem_cons.mpr ⟨ck_208, List.forall_mem_cons.mpr ⟨ck_209, List.forall_mem_cons.mpr ⟨ck_210, List.forall_mem_cons.mpr ⟨ck_211, List.forall_mem_cons.mpr ⟨ck_212, List.forall_mem_cons.mpr ⟨ck_213, List.forall_mem_cons.mpr ⟨ck_214, List.forall_mem_cons.mpr ⟨ck_215, List.forall_mem_cons.mpr ⟨ck_216, List.forall_mem_cons.mpr ⟨ck_217, List.forall_mem_cons.mpr ⟨ck_218, List.forall_mem_cons.mpr ⟨ck_219, fun _ hk => absurd hk List.not_mem_nil⟩⟩⟩⟩⟩⟩⟩⟩⟩⟩⟩⟩⟩⟩⟩⟩⟩⟩⟩⟩
def wB_11 : List (Ent × Nat) := [((710, 17, 1, 4), 16), ((10710, 1, 4, 17), 0), ((711, 1, 1, 17), 0), ((800, 1, 1, 12), 0), ((801, 1, 1, 12), 0), ((802, 1, 1, 12), 0), ((803, 1, 1, 12), 0), ((804, 1, 1, 12), 0), ((805, 12, 1, 6), 0), ((805, 12, 1, 6), 1), ((805, 12, 1, 6), 2), ((805, 12, 1, 6), 3), ((805, 12, 1, 6), 4), ((805, 12, 1, 6), 5), ((805, 12, 1, 6), 6), ((805, 12, 1, 6), 7), ((805, 12, 1, 6), 8), ((805, 12, 1, 6), 9), ((805, 12, 1, 6), 10), ((805, 12, 1, 6), 11)]
theorem cB_11 {D : va_G} {dC : Nat → ClassId} {h : Nat} : ∀ k ∈ wB_11, ckd D dC h k := List.forall_mem_cons.mpr ⟨ck_220, List.forall_mem_cons.mpr ⟨ck_221, List.forall_mem_cons.mpr ⟨ck_222, List.forall_mem_cons.mpr ⟨ck_223, List.forall_mem_cons.mpr ⟨ck_224, List.forall_mem_cons.mpr ⟨ck_225, List.forall_mem_cons.mpr ⟨ck_226, List.forall_mem_cons.mpr ⟨ck_227, List.forall_mem_cons.mpr ⟨ck_228, List.forall_mem_cons.mpr ⟨ck_229, List.forall_mem_cons.mpr ⟨ck_230, List.forall_mem_cons.mpr ⟨ck_231, List.forall_mem_cons.mpr ⟨ck_232, List.forall_mem_cons.mpr ⟨ck_233, List.forall_mem_cons.mpr ⟨ck_234, List.forall_mem_cons.mpr ⟨ck_235, List.forall_mem_cons.mpr ⟨ck_236, List.forall_mem_cons.mpr ⟨ck_237, List.forall_mem_cons.mpr ⟨ck_238, List.forall_mem_cons.mpr ⟨ck_239, fun _ hk => absurd hk List.not_mem_nil⟩⟩⟩⟩⟩⟩⟩⟩⟩⟩⟩⟩⟩⟩⟩⟩⟩⟩⟩⟩
def wB_12 : List (Ent × Nat) := [((10805, 1, 4, 12), 0), ((806, 12, 1, 6), 0), ((806, 12, 1, 6), 1), ((806, 12, 1, 6), 2), ((806, 12, 1, 6), 3), ((806, 12, 1, 6), 4), ((806, 12, 1, 6), 5), ((806, 12, 1, 6), 6), ((806, 12, 1, 6), 7), ((806, 12, 1, 6), 8), ((806, 12, 1, 6), 9), ((806, 12, 1, 6), 10), ((806, 12, 1, 6), 11), ((10806, 1, 4, 12), 0), ((905, 1, 1, 16), 0), ((906, 16, 1, 6), 0), ((906, 16, 1, 6), 1), ((906, 16, 1, 6), 2), ((906, 16, 1, 6), 3), ((906, 16, 1, 6), 4)]
theorem cB_12 {D : va_G} {dC : Nat → ClassId} {h : Nat} : ∀ k ∈ wB_12, ckd D dC h k := List.forall_mem_cons.mpr ⟨ck_240, List.forall_mem_cons.mpr ⟨ck_241, List.forall_mem_cons.mpr ⟨ck_242, List.forall_mem_cons.mpr ⟨ck_243, List.forall_mem_cons.mpr ⟨ck_244, List.forall_mem_cons.mpr ⟨ck_245, List.forall_mem_cons.mpr ⟨ck_246, List.forall_mem_cons.mpr ⟨ck_247, List.forall_mem_cons.mpr ⟨ck_248, List.forall_mem_cons.mpr ⟨ck_249, List.forall_mem_cons.mpr ⟨ck_250, List.forall_mem_cons.mpr ⟨ck_251, List.forall_mem_cons.mpr ⟨ck_252, List.forall_mem_cons.mpr ⟨ck_253, List.forall_mem_cons.mpr ⟨ck_254, List.forall_mem_cons.mpr ⟨ck_255, List.forall_mem_cons.mpr ⟨ck_256, List.forall_mem_cons.mpr ⟨ck_257, List.forall_mem_cons.mpr ⟨ck_258, List.forall_mem_cons.mpr ⟨ck_259, fun _ hk => absurd hk List.not_mem_nil⟩⟩⟩⟩⟩⟩⟩⟩⟩⟩⟩⟩⟩⟩⟩⟩⟩⟩⟩⟩
def wB_13 : List (Ent × Nat) := [((906, 16, 1, 6), 5), ((906, 16, 1, 6), 6), ((906, 16, 1, 6), 7), ((906, 16, 1, 6), 8), ((906, 16, 1, 6), 9), ((906, 16, 1, 6), 10), ((906, 16, 1, 6), 11), ((906, 16, 1, 6), 12), ((906, 16, 1, 6), 13), ((906, 16, 1, 6), 14), ((906, 16, 1, 6), 15), ((10906, 1, 4, 16), 0), ((907, 16, 1, 6), 0), ((907, 16, 1, 6), 1), ((907, 16, 1, 6), 2), ((907, 16, 1, 6), 3), ((907, 16, 1, 6), 4), ((907, 16, 1, 6), 5), ((907, 16, 1, 6), 6), ((907, 16, 1, 6), 7)]
theorem cB_13 {D : va_G} {dC : Nat → ClassId} {h : Nat} : ∀ k ∈ wB_13, ckd D dC h k := List.forall_mem_cons.mpr ⟨ck_260, List.forall_mem_cons.mpr ⟨ck_261, List.forall_mem_cons.mpr ⟨ck_262, List.forall_mem_cons.mpr ⟨ck_263, List.forall_mem_cons.mpr ⟨ck_264, List.forall_mem_cons.mpr ⟨ck_265, List.forall_mem_cons.mpr ⟨ck_266, List.forall_mem_cons.mpr ⟨ck_267, List.forall_mem_cons.mpr ⟨ck_268, List.forall_mem_cons.mpr ⟨ck_269, List.forall_mem_cons.mpr ⟨ck_270, List.forall_mem_cons.mpr ⟨ck_271, List.forall_mem_cons.mpr ⟨ck_272, List.forall_mem_cons.mpr ⟨ck_273, List.forall_mem_cons.mpr ⟨ck_274, List.forall_mem_cons.mpr ⟨ck_275, List.forall_mem_cons.mpr ⟨ck_276, List.forall_mem_cons.mpr ⟨ck_277, List.forall_mem_cons.mpr ⟨ck_278, List.forall_mem_cons.mpr ⟨ck_279, fun _ hk => absurd hk List.not_mem_nil⟩⟩⟩⟩⟩⟩⟩⟩⟩⟩⟩⟩⟩⟩⟩⟩⟩⟩⟩⟩
def wB_14 : List (Ent × Nat) := [((907, 16, 1, 6), 8), ((907, 16, 1, 6), 9), ((907, 16, 1, 6), 10), ((907, 16, 1, 6), 11), ((907, 16, 1, 6), 12), ((907, 16, 1, 6), 13), ((907, 16, 1, 6), 14), ((907, 16, 1, 6), 15), ((10907, 1, 4, 16), 0), ((909, 1, 1, 16), 0), ((910, 1, 1, 16), 0), ((911, 16, 1, 8), 0), ((911, 16, 1, 8), 1), ((911, 16, 1, 8), 2), ((911, 16, 1, 8), 3), ((911, 16, 1, 8), 4), ((911, 16, 1, 8), 5), ((911, 16, 1, 8), 6), ((911, 16, 1, 8), 7), ((911, 16, 1, 8), 8)]
theorem cB_14 {D : va_G} {dC : Nat → ClassId} {h : Nat} : ∀ k ∈ wB_14, ckd D dC h k := List.forall_mem_cons.mpr ⟨ck_280, List.forall_mem_cons.mpr ⟨ck_281, List.forall_mem_cons.mpr ⟨ck_282, List.forall_mem_cons.mpr ⟨ck_283, List.forall_mem_cons.mpr ⟨ck_284, List.forall_mem_cons.mpr ⟨ck_285, List.forall_mem_cons.mpr ⟨ck_286, List.forall_mem_cons.mpr ⟨ck_287, List.forall_mem_cons.mpr ⟨ck_288, List.forall_mem_cons.mpr ⟨ck_289, List.forall_mem_cons.mpr ⟨ck_290, List.forall_mem_cons.mpr ⟨ck_291, List.forall_mem_cons.mpr ⟨ck_292, List.forall_mem_cons.mpr ⟨ck_293, List.forall_mem_cons.mpr ⟨ck_294, List.forall_mem_cons.mpr ⟨ck_295, List.forall_mem_cons.mpr ⟨ck_296, List.forall_mem_cons.mpr ⟨ck_297, List.forall_mem_cons.mpr ⟨ck_298, List.forall_mem_cons.mpr ⟨ck_299, fun _ hk => absurd hk List.not_mem_nil⟩⟩⟩⟩⟩⟩⟩⟩⟩⟩⟩⟩⟩⟩⟩⟩⟩⟩⟩⟩
def wB_15 : List (Ent × Nat) := [((911, 16, 1, 8), 9), ((911, 16, 1, 8), 10), ((911, 16, 1, 8), 11), ((911, 16, 1, 8), 12), ((911, 16, 1, 8), 13), ((911, 16, 1, 8), 14), ((911, 16, 1, 8), 15), ((10911, 1, 4, 16), 0), ((913, 1, 1, 5000), 0), ((914, 1, 1, 8), 0), ((915, 1, 1, 8), 0), ((916, 1, 1, 8), 0), ((917, 1, 1, 8), 0), ((918, 1, 1, 9), 0), ((1000, 1, 1, 120), 0), ((1104, 1, 1, 100), 0), ((1105, 1, 1, 8), 0), ((1106, 1, 1, 300), 0), ((1107, 1, 1, 300), 0), ((1301, 1, 1, 120), 0)]
theorem cB_15 {D : va_G} {dC : Nat → ClassId} {h : Nat} : ∀ k ∈ wB_15, ckd D dC h k := List.forall_mem_cons.mpr ⟨ck_300, List.forall_mem_cons.mpr ⟨ck_301, List.forall_mem_cons.mpr ⟨ck_302, List.forall_mem_cons.mpr ⟨ck_303, List.forall_mem_cons.mpr ⟨ck_304, List.forall_mem_cons.mpr ⟨ck_305, List.forall_mem_cons.mpr ⟨ck_306, List.forall_mem_cons.mpr ⟨ck_307, List.forall_mem_cons.mpr ⟨ck_308, List.forall_mem_cons.mpr ⟨ck_309, List.forall_mem_cons.mpr ⟨ck_310, List.forall_mem_cons.mpr ⟨ck_311, List.forall_mem_cons.mpr ⟨ck_312, List.forall_mem_cons.mpr ⟨ck_313, List.forall_mem_cons.mpr ⟨ck_314, List.forall_mem_cons.mpr ⟨ck_315, List.forall_mem_cons.mpr ⟨ck_316, List.forall_mem_cons.mpr ⟨ck_317, List.forall_mem_cons.mpr ⟨ck_318, List.forall_mem_cons.mpr ⟨ck_319, fun _ hk => absurd hk List.not_mem_nil⟩⟩⟩⟩⟩⟩⟩⟩⟩⟩⟩⟩⟩⟩⟩⟩⟩⟩⟩⟩
def wB_16 : List (Ent × Nat) := [((1306, 1, 1, 12), 0), ((1307, 1, 1, 12), 0), ((1308, 1, 1, 12), 0), ((1309, 1, 2, 12), 0), ((1310, 1, 1, 12), 0), ((1311, 1, 1, 12), 0), ((1312, 1, 1, 72), 0), ((1313, 1, 1, 72), 0), ((1315, 1, 1, 17), 0), ((1316, 1, 1, 136), 0), ((1317, 1, 1, 136), 0), ((1318, 1, 1, 136), 0), ((1319, 1, 1, 17), 0), ((1320, 1, 1, 1224), 0), ((1321, 1, 1, 17), 0), ((1323, 1, 1, 1820), 0), ((1324, 1, 1, 1820), 0), ((1325, 1, 1, 7), 0), ((1326, 1, 1, 7), 0), ((1327, 1, 1, 420), 0)]
theorem cB_16 {D : va_G} {dC : Nat → ClassId} {h : Nat} : ∀ k ∈ wB_16, ckd D dC h k := List.forall_mem_cons.mpr ⟨ck_320, List.forall_mem_cons.mpr ⟨ck_321, List.forall_mem_cons.mpr ⟨ck_322, List.forall_mem_cons.mpr ⟨ck_323, List.forall_mem_cons.mpr ⟨ck_324, List.forall_mem_cons.mpr ⟨ck_325, List.forall_mem_cons.mpr ⟨ck_326, List.forall_mem_cons.mpr ⟨ck_327, List.forall_mem_cons.mpr ⟨ck_328, List.forall_mem_cons.mpr ⟨ck_329, List.forall_mem_cons.mpr ⟨ck_330, List.forall_mem_cons.mpr ⟨ck_331, List.forall_mem_cons.mpr ⟨ck_332, List.forall_mem_cons.mpr ⟨ck_333, List.forall_mem_cons.mpr ⟨ck_334, List.forall_mem_cons.mpr ⟨ck_335, List.forall_mem_cons.mpr ⟨ck_336, List.forall_mem_cons.mpr ⟨ck_337, List.forall_mem_cons.mpr ⟨ck_338, List.forall_mem_cons.mpr ⟨ck_339, fun _ hk => absurd hk List.not_mem_nil⟩⟩⟩⟩⟩⟩⟩⟩⟩⟩⟩⟩⟩⟩⟩⟩⟩⟩⟩⟩
def wB_17 : List (Ent × Nat) := [((1328, 1, 1, 420), 0), ((1329, 1, 1, 420), 0), ((1332, 1, 1, 9), 0), ((1333, 1, 1, 60), 0), ((1334, 1, 1, 20), 0), ((1335, 1, 1, 20), 0), ((1336, 1, 1, 20), 0), ((1337, 1, 1, 20), 0), ((1340, 1, 1, 8), 0), ((1341, 1, 1, 5000), 0), ((1344, 1, 1, 100), 0), ((1345, 1, 1, 20), 0), ((1346, 1, 1, 20), 0), ((1347, 1, 2, 20), 0), ((1349, 1, 1, 64), 0), ((1350, 1, 1, 12), 0), ((1351, 1, 1, 12), 0), ((1352, 1, 1, 104), 0), ((1353, 1, 3, 104), 0), ((1355, 1, 1, 10), 0)]
theorem cB_17 {D : va_G} {dC : Nat → ClassId} {h : Nat} : ∀ k ∈ wB_17, ckd D dC h k := List.forall_mem_cons.mpr ⟨ck_340, List.forall_mem_cons.mpr ⟨ck_341, List.forall_mem_cons.mpr ⟨ck_342, List.forall_mem_cons.mpr ⟨ck_343, List.forall_mem_cons.mpr ⟨ck_344, List.forall_mem_cons.mpr ⟨ck_345, List.forall_mem_cons.mpr ⟨ck_346, List.forall_mem_cons.mpr ⟨ck_347, List.forall_mem_cons.mpr ⟨ck_348, List.forall_mem_cons.mpr ⟨ck_349, List.forall_mem_cons.mpr ⟨ck_350, List.forall_mem_cons.mpr ⟨ck_351, List.forall_mem_cons.mpr ⟨ck_352, List.forall_mem_cons.mpr ⟨ck_353, List.forall_mem_cons.mpr ⟨ck_354, List.forall_mem_cons.mpr ⟨ck_355, List.forall_mem_cons.mpr ⟨ck_356, List.forall_mem_cons.mpr ⟨ck_357, List.forall_mem_cons.mpr ⟨ck_358, List.forall_mem_cons.mpr ⟨ck_359, fun _ hk => absurd hk List.not_mem_nil⟩⟩⟩⟩⟩⟩⟩⟩⟩⟩⟩⟩⟩⟩⟩⟩⟩⟩⟩⟩
def wB_18 : List (Ent × Nat) := [((1356, 1, 2, 10), 0), ((1357, 1, 1, 120), 0), ((1359, 1, 1, 5), 0), ((1360, 1, 2, 5), 0), ((1361, 1, 1, 60), 0), ((1362, 1, 1, 5), 0), ((1363, 1, 1, 5), 0), ((1377, 1, 1, 73), 0), ((1378, 1, 1, 16), 0), ((1379, 1, 1, 8), 0), ((1380, 1, 1, 300), 0), ((1381, 1, 1, 300), 0), ((1400, 1, 3, 1), 0)]
theorem cB_18 {D : va_G} {dC : Nat → ClassId} {h : Nat} : ∀ k ∈ wB_18, ckd D dC h k := List.forall_mem_cons.mpr ⟨ck_360, List.forall_mem_cons.mpr ⟨ck_361, List.forall_mem_cons.mpr ⟨ck_362, List.forall_mem_cons.mpr ⟨ck_363, List.forall_mem_cons.mpr ⟨ck_364, List.forall_mem_cons.mpr ⟨ck_365, List.forall_mem_cons.mpr ⟨ck_366, List.forall_mem_cons.mpr ⟨ck_367, List.forall_mem_cons.mpr ⟨ck_368, List.forall_mem_cons.mpr ⟨ck_369, List.forall_mem_cons.mpr ⟨ck_370, List.forall_mem_cons.mpr ⟨ck_371, List.forall_mem_cons.mpr ⟨ck_372, fun _ hk => absurd hk List.not_mem_nil⟩⟩⟩⟩⟩⟩⟩⟩⟩⟩⟩⟩⟩
theorem wKs_eq : wKs AL = wB_0 ++ (wB_1 ++ (wB_2 ++ (wB_3 ++ (wB_4 ++ (wB_5 ++ (wB_6 ++ (wB_7 ++ (wB_8 ++ (wB_9 ++ (wB_10 ++ (wB_11 ++ (wB_12 ++ (wB_13 ++ (wB_14 ++ (wB_15 ++ (wB_16 ++ (wB_17 ++ (wB_18)))))))))))))))))) := by decide +kernel
theorem ck_all {D : va_G} {dC : Nat → ClassId} {h : Nat} : ∀ k ∈ wKs AL, ckd D dC h k := by
  rw [wKs_eq]
  exact List.forall_mem_append.mpr ⟨cB_0, List.forall_mem_append.mpr ⟨cB_1, List.forall_mem_append.mpr ⟨cB_2, List.forall_mem_append.mpr ⟨cB_3, List.forall_mem_append.mpr ⟨cB_4, List.forall_mem_append.mpr ⟨cB_5, List.forall_mem_append.mpr ⟨cB_6, List.forall_mem_append.mpr ⟨cB_7, List.forall_mem_append.mpr ⟨cB_8, List.forall_mem_append.mpr ⟨cB_9, List.forall_mem_append.mpr ⟨cB_10, List.forall_mem_append.mpr ⟨cB_11, List.forall_mem_append.mpr ⟨cB_12, List.forall_mem_append.mpr ⟨cB_13, List.forall_mem_append.mpr ⟨cB_14, List.forall_mem_append.mpr ⟨cB_15, List.forall_mem_append.mpr ⟨cB_16, List.forall_mem_append.mpr ⟨cB_17, cB_18⟩⟩⟩⟩⟩⟩⟩⟩⟩⟩⟩⟩⟩⟩⟩⟩⟩⟩
theorem pos_nd : ((wKs AL).map (fun k => posB k.1.1 + k.2)).Nodup := by decide +kernel
theorem wld0_D {D : va_G} {dC : Nat → ClassId} {h : Nat} (μ : Mem) : va_D (wld0 D dC h).2.2.2 (wsM (wld0 D dC h) μ) := by
  refine ⟨fun i j p q hp hq e => ?_, fun k q hq => ?_⟩
  · obtain ⟨a, ha, rfl⟩ := List.getElem?_map .. ▸ hp |> Option.map_eq_some_iff.mp
    obtain ⟨b, hb, rfl⟩ := List.getElem?_map .. ▸ hq |> Option.map_eq_some_iff.mp
    have e' : posB a.1.1 + a.2 = posB b.1.1 + b.2 := by
      have : h + posB a.1.1 + a.2 = h + posB b.1.1 + b.2 := e
      omega
    have hi : i < (wKs AL).length := (List.getElem?_eq_some_iff.mp ha).1
    refine (List.getElem?_inj (l := (wKs AL).map (fun k => posB k.1.1 + k.2)) (by rw [List.length_map]; exact hi) pos_nd).mp ?_
    rw [List.getElem?_map, List.getElem?_map, ha, hb]
    exact congrArg some e'
  · obtain ⟨a, ha, rfl⟩ := List.getElem?_map .. ▸ hq |> Option.map_eq_some_iff.mp
    show h ≤ h + posB a.1.1 + a.2
    omega
theorem wld0_P {D : va_G} {dC : Nat → ClassId} {h : Nat} {H : Heap} (hP : va_P D vwCl (dW h (lawDs (wld0 D dC h) h)) H) : va_P (wld0 D dC h).1 vwCl (wsM (wld0 D dC h) mem0) H := by
  intro i q hq
  obtain ⟨a, ha, rfl⟩ := List.getElem?_map .. ▸ hq |> Option.map_eq_some_iff.mp
  have h1 : ckd D dC h a := ck_all a (List.mem_of_getElem? ha)
  have h2 := hP _ _ (dW_at h1)
  have e : h + (posB a.1.1 + a.2) = wad (wld0 D dC h) a.1.1 a.2 := (Nat.add_assoc h (posB a.1.1) a.2).symm
  rw [e] at h2
  exact h2
