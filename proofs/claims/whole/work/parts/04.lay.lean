/-! THE TABLES' WORDS that a callee may ask for, the nest mates' links, the layout -/
def BW : List Cond := lw_tbl.filter goodWord
def isNest : Cond → Bool
  | .fieldLinkNest .. => true
  | .methodLinkNest .. => true
  | _ => false
def NL : List Cond := lw_tbl.filter isNest
theorem BW_at {x : Cond} (i : Nat) (h : lw_tbl[i]? = some x) (g : goodWord x = true) : x ∈ BW := List.mem_filter.mpr ⟨List.mem_of_getElem? h, g⟩
theorem NL_at {x : Cond} (i : Nat) (h : lw_tbl[i]? = some x) (g : isNest x = true) : x ∈ NL := List.mem_filter.mpr ⟨List.mem_of_getElem? h, g⟩
theorem BW_good : ∀ x ∈ BW, goodWord x = true := fun _ h => (List.mem_filter.mp h).2
theorem BW_in {ws : List Cond} (h : ∀ x ∈ ws, x ∈ BW) : GoodIn BW ws := fun x hx => ⟨h x hx, good_of_word (BW_good x (h x hx))⟩
theorem BW_code {y : MethodName} {cc : ByteArray} {n : Nat} {r : Option FieldType} (h : Cond.code y cc n r ∈ BW) : GoodIn BW (Cond.code y cc n r :: BW) := BW_in fun x hx => (List.mem_cons.mp hx).elim (fun e => e ▸ h) id
theorem NL_warm {s U : State} (hW : s.WarmedH U.vm) (h : ∀ x ∈ NL, va_Nw x s) : ∀ x ∈ NL, va_Nw x U := by
  intro x hx
  have h1 := h x hx
  have h2 : isNest x = true := (List.mem_filter.mp hx).2
  cases x <;> first | exact h1.warmF hW | exact h1.warmM hW | (simp [isNest] at h2)
theorem NL_same {s U : State} (e : s.vm = U.vm) (h : ∀ x ∈ NL, va_Nw x s) : ∀ x ∈ NL, va_Nw x U := by
  intro x hx
  have h1 := h x hx
  have h2 : isNest x = true := (List.mem_filter.mp hx).2
  cases x <;> first | exact va_Nw.same rfl e h1 | (simp [isNest] at h2)

def AL : List Ent := [(0, 1, 0, 0), (1, 1, 0, 0), (2, 1, 0, 0), (3, 1, 0, 0), (4, 1, 0, 0), (5, 1, 0, 0), (6, 1, 0, 0), (7, 1, 0, 0), (8, 1, 0, 0), (9, 1, 0, 0), (10, 1, 0, 0), (11, 1, 0, 0), (12, 1, 0, 0), (103, 1, 1, 10), (104, 1, 2, 10), (105, 10, 1, 12), (10105, 1, 4, 10), (200, 1, 1, 12), (201, 1, 1, 12), (202, 8, 1, 8), (10202, 1, 4, 8), (203, 13, 1, 8), (10203, 1, 4, 13), (204, 13, 3, 8), (10204, 1, 5, 13), (205, 1, 1, 13), (301, 16, 1, 16), (10301, 1, 4, 16), (302, 16, 1, 16), (10302, 1, 4, 16), (303, 1, 1, 16), (304, 1, 1, 73), (305, 1, 1, 16), (306, 1, 2, 16), (500, 7, 1, 120), (10500, 1, 4, 7), (501, 1, 1, 7), (502, 1, 1, 64), (505, 1, 1, 6), (506, 1, 1, 6), (603, 1, 1, 5), (604, 1, 1, 5), (605, 5, 1, 12), (10605, 1, 4, 5), (606, 1, 1, 12), (607, 1, 1, 5), (608, 1, 1, 5), (609, 1, 1, 8), (702, 1, 1, 17), (703, 17, 1, 8), (10703, 1, 4, 17), (704, 17, 1, 8), (10704, 1, 4, 17), (705, 17, 1, 8), (10705, 1, 4, 17), (706, 1, 1, 17), (707, 1, 1, 17), (708, 17, 1, 72), (10708, 1, 4, 17), (709, 1, 1, 17), (710, 17, 1, 4), (10710, 1, 4, 17), (711, 1, 1, 17), (800, 1, 1, 12), (801, 1, 1, 12), (802, 1, 1, 12), (803, 1, 1, 12), (804, 1, 1, 12), (805, 12, 1, 6), (10805, 1, 4, 12), (806, 12, 1, 6), (10806, 1, 4, 12), (905, 1, 1, 16), (906, 16, 1, 6), (10906, 1, 4, 16), (907, 16, 1, 6), (10907, 1, 4, 16), (909, 1, 1, 16), (910, 1, 1, 16), (911, 16, 1, 8), (10911, 1, 4, 16), (913, 1, 1, 5000), (914, 1, 1, 8), (915, 1, 1, 8), (916, 1, 1, 8), (917, 1, 1, 8), (918, 1, 1, 9), (1000, 1, 1, 120), (1104, 1, 1, 100), (1105, 1, 1, 8), (1106, 1, 1, 300), (1107, 1, 1, 300), (1301, 1, 1, 120), (1306, 1, 1, 12), (1307, 1, 1, 12), (1308, 1, 1, 12), (1309, 1, 2, 12), (1310, 1, 1, 12), (1311, 1, 1, 12), (1312, 1, 1, 72), (1313, 1, 1, 72), (1315, 1, 1, 17), (1316, 1, 1, 136), (1317, 1, 1, 136), (1318, 1, 1, 136), (1319, 1, 1, 17), (1320, 1, 1, 1224), (1321, 1, 1, 17), (1323, 1, 1, 1820), (1324, 1, 1, 1820), (1325, 1, 1, 7), (1326, 1, 1, 7), (1327, 1, 1, 420), (1328, 1, 1, 420), (1329, 1, 1, 420), (1332, 1, 1, 9), (1333, 1, 1, 60), (1334, 1, 1, 20), (1335, 1, 1, 20), (1336, 1, 1, 20), (1337, 1, 1, 20), (1340, 1, 1, 8), (1341, 1, 1, 5000), (1344, 1, 1, 100), (1345, 1, 1, 20), (1346, 1, 1, 20), (1347, 1, 2, 20), (1349, 1, 1, 64), (1350, 1, 1, 12), (1351, 1, 1, 12), (1352, 1, 1, 104), (1353, 1, 3, 104), (1355, 1, 1, 10), (1356, 1, 2, 10), (1357, 1, 1, 120), (1359, 1, 1, 5), (1360, 1, 2, 5), (1361, 1, 1, 60), (1362, 1, 1, 5), (1363, 1, 1, 5), (1377, 1, 1, 73), (1378, 1, 1, 16), (1379, 1, 1, 8), (1380, 1, 1, 300), (1381, 1, 1, 300), (1400, 1, 3, 1)]
def FLl : List (List (Nat ⊕ Nat)) := [[.inl 6, .inl 7, .inl 8, .inl 103, .inl 104, .inl 10105, .inr 106], [.inl 200, .inl 201, .inl 10202, .inl 10203, .inl 10204, .inl 205, .inr 206], [.inl 6, .inl 10301, .inl 10302, .inl 303, .inl 304, .inl 305, .inl 306], [.inl 9, .inl 4], [.inl 10500, .inl 501, .inl 502, .inr 503, .inr 504, .inl 505, .inl 506, .inr 507], [.inl 6, .inl 8, .inl 0, .inl 603, .inl 604, .inl 10605, .inl 606, .inl 607, .inl 608, .inl 609, .inr 610, .inr 611, .inr 612, .inr 613, .inr 614], [.inl 9, .inl 7, .inl 702, .inl 10703, .inl 10704, .inl 10705, .inl 706, .inl 707, .inl 10708, .inl 709, .inl 10710, .inl 711, .inr 712], [.inl 800, .inl 801, .inl 802, .inl 803, .inl 804, .inl 10805, .inl 10806, .inr 807, .inr 808], [.inl 6, .inl 7, .inl 4, .inr 903, .inr 904, .inl 905, .inl 10906, .inl 10907, .inr 908, .inl 909, .inl 910, .inl 10911, .inr 912, .inl 913, .inl 914, .inl 915, .inl 916, .inl 917, .inl 918], [.inl 1000, .inr 1001, .inr 1002, .inr 1003], [.inl 6, .inl 7, .inl 4, .inl 8, .inl 1104, .inl 1105, .inl 1106, .inl 1107], [.inl 9, .inl 7, .inl 6, .inl 4, .inl 3, .inl 8, .inl 10, .inl 2, .inl 1, .inl 0, .inl 5], [.inr 1300, .inl 1301, .inr 1302, .inr 1303, .inr 1304, .inr 1305, .inl 1306, .inl 1307, .inl 1308, .inl 1309, .inl 1310, .inl 1311, .inl 1312, .inl 1313, .inr 1314, .inl 1315, .inl 1316, .inl 1317, .inl 1318, .inl 1319, .inl 1320, .inl 1321, .inr 1322, .inl 1323, .inl 1324, .inl 1325, .inl 1326, .inl 1327, .inl 1328, .inl 1329, .inr 1330, .inr 1331, .inl 1332, .inl 1333, .inl 1334, .inl 1335, .inl 1336, .inl 1337, .inr 1338, .inr 1339, .inl 1340, .inl 1341, .inr 1342, .inr 1343, .inl 1344, .inl 1345, .inl 1346, .inl 1347, .inr 1348, .inl 1349, .inl 1350, .inl 1351, .inl 1352, .inl 1353, .inr 1354, .inl 1355, .inl 1356, .inl 1357, .inr 1358, .inl 1359, .inl 1360, .inl 1361, .inl 1362, .inl 1363, .inr 1364, .inr 1365, .inr 1366, .inr 1367, .inr 1368, .inr 1369, .inr 1370, .inr 1371, .inr 1372, .inr 1373, .inr 1374, .inr 1375, .inr 1376, .inl 1377, .inl 1378, .inl 1379, .inl 1380, .inl 1381]]
def FL (j : Nat) : List (Nat ⊕ Nat) := FLl.getD j []
theorem AL_nd : (AL.map (·.1)).Nodup := by decide +kernel
/-- fields that are numbers have the number that their place tells -/
def FLp : Nat → List (Nat ⊕ Nat) → Nat → Bool
  | _, [], _ => true
  | j, .inl _ :: t, k => FLp j t (k + 1)
  | j, .inr v :: t, k => (v == 100 * (j + 1) + k && decide (k < 100)) && FLp j t (k + 1)
theorem FLp_at {j : Nat} : ∀ {l : List (Nat ⊕ Nat)} {k0 : Nat}, FLp j l k0 = true → ∀ (k v : Nat), l[k]? = some (.inr v) → v = 100 * (j + 1) + (k0 + k) ∧ k0 + k < 100 := by
  intro l
  induction l with
  | nil => intro k0 _ k v h; simp at h
  | cons a t ih =>
    intro k0 h k v hv
    cases a with
    | inl q =>
      cases k with
      | zero => simp at hv
      | succ k =>
        have := ih (k0 := k0 + 1) h k v (by simpa using hv)
        constructor <;> omega
    | inr q =>
      simp only [FLp, Bool.and_eq_true, beq_iff_eq, decide_eq_true_eq] at h
      cases k with
      | zero =>
        simp at hv
        omega
      | succ k =>
        have := ih (k0 := k0 + 1) h.2 k v (by simpa using hv)
        constructor <;> omega
theorem FL_ok : (List.range 13).all (fun j => FLp j (FL j) 0) = true := by decide +kernel
theorem FL_num {j k v : Nat} (h : (FL j)[k]? = some (.inr v)) : v = 100 * (j + 1) + k ∧ k < 100 := by
  by_cases hj : j < 13
  · have h1 := List.all_eq_true.mp FL_ok j (List.mem_range.mpr hj)
    have := FLp_at h1 k v h
    constructor <;> omega
  · have : FL j = [] := by
      unfold FL
      rw [List.getD_eq_getElem?_getD, List.getElem?_eq_none (by show 13 ≤ j; omega)]
      rfl
    rw [this] at h
    simp at h
def FLq (v : Nat) : Nat ⊕ Nat → Bool
  | .inl _ => true
  | .inr u => u != v
theorem FL_arr : AL.all (fun e => decide (e.2.2.1 = 0) || FLl.all (fun l => l.all (FLq e.1))) = true := by decide +kernel
theorem FL_no {e : Ent} {j : Nat} (he : e ∈ AL) (h0 : e.2.2.1 ≠ 0) : .inr e.1 ∉ FL j := by
  intro hm
  have h1 := List.all_eq_true.mp FL_arr e he
  simp only [Bool.or_eq_true, decide_eq_true_eq, h0, false_or] at h1
  unfold FL at hm
  rw [List.getD_eq_getElem?_getD] at hm
  cases hq : FLl[j]? with
  | none => rw [hq] at hm; simp at hm
  | some l =>
    rw [hq] at hm
    have h2 := List.all_eq_true.mp h1 l (List.mem_of_getElem? hq)
    simp only [Option.getD_some] at hm
    have h3 := List.all_eq_true.mp h2 _ hm
    simp [FLq] at h3

theorem al_0 : ((0, 1, 0, 0) : Ent) ∈ AL := List.mem_of_getElem? (i := 0) rfl
theorem al_1 : ((1, 1, 0, 0) : Ent) ∈ AL := List.mem_of_getElem? (i := 1) rfl
theorem al_2 : ((2, 1, 0, 0) : Ent) ∈ AL := List.mem_of_getElem? (i := 2) rfl
theorem al_3 : ((3, 1, 0, 0) : Ent) ∈ AL := List.mem_of_getElem? (i := 3) rfl
theorem al_4 : ((4, 1, 0, 0) : Ent) ∈ AL := List.mem_of_getElem? (i := 4) rfl
theorem al_5 : ((5, 1, 0, 0) : Ent) ∈ AL := List.mem_of_getElem? (i := 5) rfl
theorem al_6 : ((6, 1, 0, 0) : Ent) ∈ AL := List.mem_of_getElem? (i := 6) rfl
theorem al_7 : ((7, 1, 0, 0) : Ent) ∈ AL := List.mem_of_getElem? (i := 7) rfl
theorem al_8 : ((8, 1, 0, 0) : Ent) ∈ AL := List.mem_of_getElem? (i := 8) rfl
theorem al_9 : ((9, 1, 0, 0) : Ent) ∈ AL := List.mem_of_getElem? (i := 9) rfl
theorem al_10 : ((10, 1, 0, 0) : Ent) ∈ AL := List.mem_of_getElem? (i := 10) rfl
theorem al_11 : ((11, 1, 0, 0) : Ent) ∈ AL := List.mem_of_getElem? (i := 11) rfl
theorem al_12 : ((12, 1, 0, 0) : Ent) ∈ AL := List.mem_of_getElem? (i := 12) rfl
theorem al_103 : ((103, 1, 1, 10) : Ent) ∈ AL := List.mem_of_getElem? (i := 13) rfl
theorem al_104 : ((104, 1, 2, 10) : Ent) ∈ AL := List.mem_of_getElem? (i := 14) rfl
theorem al_105 : ((105, 10, 1, 12) : Ent) ∈ AL := List.mem_of_getElem? (i := 15) rfl
theorem al_10105 : ((10105, 1, 4, 10) : Ent) ∈ AL := List.mem_of_getElem? (i := 16) rfl
theorem al_200 : ((200, 1, 1, 12) : Ent) ∈ AL := List.mem_of_getElem? (i := 17) rfl
theorem al_201 : ((201, 1, 1, 12) : Ent) ∈ AL := List.mem_of_getElem? (i := 18) rfl
theorem al_202 : ((202, 8, 1, 8) : Ent) ∈ AL := List.mem_of_getElem? (i := 19) rfl
theorem al_10202 : ((10202, 1, 4, 8) : Ent) ∈ AL := List.mem_of_getElem? (i := 20) rfl
theorem al_203 : ((203, 13, 1, 8) : Ent) ∈ AL := List.mem_of_getElem? (i := 21) rfl
theorem al_10203 : ((10203, 1, 4, 13) : Ent) ∈ AL := List.mem_of_getElem? (i := 22) rfl
theorem al_204 : ((204, 13, 3, 8) : Ent) ∈ AL := List.mem_of_getElem? (i := 23) rfl
theorem al_10204 : ((10204, 1, 5, 13) : Ent) ∈ AL := List.mem_of_getElem? (i := 24) rfl
theorem al_205 : ((205, 1, 1, 13) : Ent) ∈ AL := List.mem_of_getElem? (i := 25) rfl
theorem al_301 : ((301, 16, 1, 16) : Ent) ∈ AL := List.mem_of_getElem? (i := 26) rfl
theorem al_10301 : ((10301, 1, 4, 16) : Ent) ∈ AL := List.mem_of_getElem? (i := 27) rfl
theorem al_302 : ((302, 16, 1, 16) : Ent) ∈ AL := List.mem_of_getElem? (i := 28) rfl
theorem al_10302 : ((10302, 1, 4, 16) : Ent) ∈ AL := List.mem_of_getElem? (i := 29) rfl
theorem al_303 : ((303, 1, 1, 16) : Ent) ∈ AL := List.mem_of_getElem? (i := 30) rfl
theorem al_304 : ((304, 1, 1, 73) : Ent) ∈ AL := List.mem_of_getElem? (i := 31) rfl
theorem al_305 : ((305, 1, 1, 16) : Ent) ∈ AL := List.mem_of_getElem? (i := 32) rfl
theorem al_306 : ((306, 1, 2, 16) : Ent) ∈ AL := List.mem_of_getElem? (i := 33) rfl
theorem al_500 : ((500, 7, 1, 120) : Ent) ∈ AL := List.mem_of_getElem? (i := 34) rfl
theorem al_10500 : ((10500, 1, 4, 7) : Ent) ∈ AL := List.mem_of_getElem? (i := 35) rfl
theorem al_501 : ((501, 1, 1, 7) : Ent) ∈ AL := List.mem_of_getElem? (i := 36) rfl
theorem al_502 : ((502, 1, 1, 64) : Ent) ∈ AL := List.mem_of_getElem? (i := 37) rfl
theorem al_505 : ((505, 1, 1, 6) : Ent) ∈ AL := List.mem_of_getElem? (i := 38) rfl
theorem al_506 : ((506, 1, 1, 6) : Ent) ∈ AL := List.mem_of_getElem? (i := 39) rfl
theorem al_603 : ((603, 1, 1, 5) : Ent) ∈ AL := List.mem_of_getElem? (i := 40) rfl
theorem al_604 : ((604, 1, 1, 5) : Ent) ∈ AL := List.mem_of_getElem? (i := 41) rfl
theorem al_605 : ((605, 5, 1, 12) : Ent) ∈ AL := List.mem_of_getElem? (i := 42) rfl
theorem al_10605 : ((10605, 1, 4, 5) : Ent) ∈ AL := List.mem_of_getElem? (i := 43) rfl
theorem al_606 : ((606, 1, 1, 12) : Ent) ∈ AL := List.mem_of_getElem? (i := 44) rfl
theorem al_607 : ((607, 1, 1, 5) : Ent) ∈ AL := List.mem_of_getElem? (i := 45) rfl
theorem al_608 : ((608, 1, 1, 5) : Ent) ∈ AL := List.mem_of_getElem? (i := 46) rfl
theorem al_609 : ((609, 1, 1, 8) : Ent) ∈ AL := List.mem_of_getElem? (i := 47) rfl
theorem al_702 : ((702, 1, 1, 17) : Ent) ∈ AL := List.mem_of_getElem? (i := 48) rfl
theorem al_703 : ((703, 17, 1, 8) : Ent) ∈ AL := List.mem_of_getElem? (i := 49) rfl
theorem al_10703 : ((10703, 1, 4, 17) : Ent) ∈ AL := List.mem_of_getElem? (i := 50) rfl
theorem al_704 : ((704, 17, 1, 8) : Ent) ∈ AL := List.mem_of_getElem? (i := 51) rfl
theorem al_10704 : ((10704, 1, 4, 17) : Ent) ∈ AL := List.mem_of_getElem? (i := 52) rfl
theorem al_705 : ((705, 17, 1, 8) : Ent) ∈ AL := List.mem_of_getElem? (i := 53) rfl
theorem al_10705 : ((10705, 1, 4, 17) : Ent) ∈ AL := List.mem_of_getElem? (i := 54) rfl
theorem al_706 : ((706, 1, 1, 17) : Ent) ∈ AL := List.mem_of_getElem? (i := 55) rfl
theorem al_707 : ((707, 1, 1, 17) : Ent) ∈ AL := List.mem_of_getElem? (i := 56) rfl
theorem al_708 : ((708, 17, 1, 72) : Ent) ∈ AL := List.mem_of_getElem? (i := 57) rfl
theorem al_10708 : ((10708, 1, 4, 17) : Ent) ∈ AL := List.mem_of_getElem? (i := 58) rfl
theorem al_709 : ((709, 1, 1, 17) : Ent) ∈ AL := List.mem_of_getElem? (i := 59) rfl
theorem al_710 : ((710, 17, 1, 4) : Ent) ∈ AL := List.mem_of_getElem? (i := 60) rfl
theorem al_10710 : ((10710, 1, 4, 17) : Ent) ∈ AL := List.mem_of_getElem? (i := 61) rfl
theorem al_711 : ((711, 1, 1, 17) : Ent) ∈ AL := List.mem_of_getElem? (i := 62) rfl
theorem al_800 : ((800, 1, 1, 12) : Ent) ∈ AL := List.mem_of_getElem? (i := 63) rfl
theorem al_801 : ((801, 1, 1, 12) : Ent) ∈ AL := List.mem_of_getElem? (i := 64) rfl
theorem al_802 : ((802, 1, 1, 12) : Ent) ∈ AL := List.mem_of_getElem? (i := 65) rfl
theorem al_803 : ((803, 1, 1, 12) : Ent) ∈ AL := List.mem_of_getElem? (i := 66) rfl
theorem al_804 : ((804, 1, 1, 12) : Ent) ∈ AL := List.mem_of_getElem? (i := 67) rfl
theorem al_805 : ((805, 12, 1, 6) : Ent) ∈ AL := List.mem_of_getElem? (i := 68) rfl
theorem al_10805 : ((10805, 1, 4, 12) : Ent) ∈ AL := List.mem_of_getElem? (i := 69) rfl
theorem al_806 : ((806, 12, 1, 6) : Ent) ∈ AL := List.mem_of_getElem? (i := 70) rfl
theorem al_10806 : ((10806, 1, 4, 12) : Ent) ∈ AL := List.mem_of_getElem? (i := 71) rfl
theorem al_905 : ((905, 1, 1, 16) : Ent) ∈ AL := List.mem_of_getElem? (i := 72) rfl
theorem al_906 : ((906, 16, 1, 6) : Ent) ∈ AL := List.mem_of_getElem? (i := 73) rfl
theorem al_10906 : ((10906, 1, 4, 16) : Ent) ∈ AL := List.mem_of_getElem? (i := 74) rfl
theorem al_907 : ((907, 16, 1, 6) : Ent) ∈ AL := List.mem_of_getElem? (i := 75) rfl
theorem al_10907 : ((10907, 1, 4, 16) : Ent) ∈ AL := List.mem_of_getElem? (i := 76) rfl
theorem al_909 : ((909, 1, 1, 16) : Ent) ∈ AL := List.mem_of_getElem? (i := 77) rfl
theorem al_910 : ((910, 1, 1, 16) : Ent) ∈ AL := List.mem_of_getElem? (i := 78) rfl
theorem al_911 : ((911, 16, 1, 8) : Ent) ∈ AL := List.mem_of_getElem? (i := 79) rfl
theorem al_10911 : ((10911, 1, 4, 16) : Ent) ∈ AL := List.mem_of_getElem? (i := 80) rfl
theorem al_913 : ((913, 1, 1, 5000) : Ent) ∈ AL := List.mem_of_getElem? (i := 81) rfl
theorem al_914 : ((914, 1, 1, 8) : Ent) ∈ AL := List.mem_of_getElem? (i := 82) rfl
theorem al_915 : ((915, 1, 1, 8) : Ent) ∈ AL := List.mem_of_getElem? (i := 83) rfl
theorem al_916 : ((916, 1, 1, 8) : Ent) ∈ AL := List.mem_of_getElem? (i := 84) rfl
theorem al_917 : ((917, 1, 1, 8) : Ent) ∈ AL := List.mem_of_getElem? (i := 85) rfl
theorem al_918 : ((918, 1, 1, 9) : Ent) ∈ AL := List.mem_of_getElem? (i := 86) rfl
theorem al_1000 : ((1000, 1, 1, 120) : Ent) ∈ AL := List.mem_of_getElem? (i := 87) rfl
theorem al_1104 : ((1104, 1, 1, 100) : Ent) ∈ AL := List.mem_of_getElem? (i := 88) rfl
theorem al_1105 : ((1105, 1, 1, 8) : Ent) ∈ AL := List.mem_of_getElem? (i := 89) rfl
theorem al_1106 : ((1106, 1, 1, 300) : Ent) ∈ AL := List.mem_of_getElem? (i := 90) rfl
theorem al_1107 : ((1107, 1, 1, 300) : Ent) ∈ AL := List.mem_of_getElem? (i := 91) rfl
theorem al_1301 : ((1301, 1, 1, 120) : Ent) ∈ AL := List.mem_of_getElem? (i := 92) rfl
theorem al_1306 : ((1306, 1, 1, 12) : Ent) ∈ AL := List.mem_of_getElem? (i := 93) rfl
theorem al_1307 : ((1307, 1, 1, 12) : Ent) ∈ AL := List.mem_of_getElem? (i := 94) rfl
theorem al_1308 : ((1308, 1, 1, 12) : Ent) ∈ AL := List.mem_of_getElem? (i := 95) rfl
theorem al_1309 : ((1309, 1, 2, 12) : Ent) ∈ AL := List.mem_of_getElem? (i := 96) rfl
theorem al_1310 : ((1310, 1, 1, 12) : Ent) ∈ AL := List.mem_of_getElem? (i := 97) rfl
theorem al_1311 : ((1311, 1, 1, 12) : Ent) ∈ AL := List.mem_of_getElem? (i := 98) rfl
theorem al_1312 : ((1312, 1, 1, 72) : Ent) ∈ AL := List.mem_of_getElem? (i := 99) rfl
theorem al_1313 : ((1313, 1, 1, 72) : Ent) ∈ AL := List.mem_of_getElem? (i := 100) rfl
theorem al_1315 : ((1315, 1, 1, 17) : Ent) ∈ AL := List.mem_of_getElem? (i := 101) rfl
theorem al_1316 : ((1316, 1, 1, 136) : Ent) ∈ AL := List.mem_of_getElem? (i := 102) rfl
theorem al_1317 : ((1317, 1, 1, 136) : Ent) ∈ AL := List.mem_of_getElem? (i := 103) rfl
theorem al_1318 : ((1318, 1, 1, 136) : Ent) ∈ AL := List.mem_of_getElem? (i := 104) rfl
theorem al_1319 : ((1319, 1, 1, 17) : Ent) ∈ AL := List.mem_of_getElem? (i := 105) rfl
theorem al_1320 : ((1320, 1, 1, 1224) : Ent) ∈ AL := List.mem_of_getElem? (i := 106) rfl
theorem al_1321 : ((1321, 1, 1, 17) : Ent) ∈ AL := List.mem_of_getElem? (i := 107) rfl
theorem al_1323 : ((1323, 1, 1, 1820) : Ent) ∈ AL := List.mem_of_getElem? (i := 108) rfl
theorem al_1324 : ((1324, 1, 1, 1820) : Ent) ∈ AL := List.mem_of_getElem? (i := 109) rfl
theorem al_1325 : ((1325, 1, 1, 7) : Ent) ∈ AL := List.mem_of_getElem? (i := 110) rfl
theorem al_1326 : ((1326, 1, 1, 7) : Ent) ∈ AL := List.mem_of_getElem? (i := 111) rfl
theorem al_1327 : ((1327, 1, 1, 420) : Ent) ∈ AL := List.mem_of_getElem? (i := 112) rfl
theorem al_1328 : ((1328, 1, 1, 420) : Ent) ∈ AL := List.mem_of_getElem? (i := 113) rfl
theorem al_1329 : ((1329, 1, 1, 420) : Ent) ∈ AL := List.mem_of_getElem? (i := 114) rfl
theorem al_1332 : ((1332, 1, 1, 9) : Ent) ∈ AL := List.mem_of_getElem? (i := 115) rfl
theorem al_1333 : ((1333, 1, 1, 60) : Ent) ∈ AL := List.mem_of_getElem? (i := 116) rfl
theorem al_1334 : ((1334, 1, 1, 20) : Ent) ∈ AL := List.mem_of_getElem? (i := 117) rfl
theorem al_1335 : ((1335, 1, 1, 20) : Ent) ∈ AL := List.mem_of_getElem? (i := 118) rfl
theorem al_1336 : ((1336, 1, 1, 20) : Ent) ∈ AL := List.mem_of_getElem? (i := 119) rfl
theorem al_1337 : ((1337, 1, 1, 20) : Ent) ∈ AL := List.mem_of_getElem? (i := 120) rfl
theorem al_1340 : ((1340, 1, 1, 8) : Ent) ∈ AL := List.mem_of_getElem? (i := 121) rfl
theorem al_1341 : ((1341, 1, 1, 5000) : Ent) ∈ AL := List.mem_of_getElem? (i := 122) rfl
theorem al_1344 : ((1344, 1, 1, 100) : Ent) ∈ AL := List.mem_of_getElem? (i := 123) rfl
theorem al_1345 : ((1345, 1, 1, 20) : Ent) ∈ AL := List.mem_of_getElem? (i := 124) rfl
theorem al_1346 : ((1346, 1, 1, 20) : Ent) ∈ AL := List.mem_of_getElem? (i := 125) rfl
theorem al_1347 : ((1347, 1, 2, 20) : Ent) ∈ AL := List.mem_of_getElem? (i := 126) rfl
theorem al_1349 : ((1349, 1, 1, 64) : Ent) ∈ AL := List.mem_of_getElem? (i := 127) rfl
theorem al_1350 : ((1350, 1, 1, 12) : Ent) ∈ AL := List.mem_of_getElem? (i := 128) rfl
theorem al_1351 : ((1351, 1, 1, 12) : Ent) ∈ AL := List.mem_of_getElem? (i := 129) rfl
theorem al_1352 : ((1352, 1, 1, 104) : Ent) ∈ AL := List.mem_of_getElem? (i := 130) rfl
theorem al_1353 : ((1353, 1, 3, 104) : Ent) ∈ AL := List.mem_of_getElem? (i := 131) rfl
theorem al_1355 : ((1355, 1, 1, 10) : Ent) ∈ AL := List.mem_of_getElem? (i := 132) rfl
theorem al_1356 : ((1356, 1, 2, 10) : Ent) ∈ AL := List.mem_of_getElem? (i := 133) rfl
theorem al_1357 : ((1357, 1, 1, 120) : Ent) ∈ AL := List.mem_of_getElem? (i := 134) rfl
theorem al_1359 : ((1359, 1, 1, 5) : Ent) ∈ AL := List.mem_of_getElem? (i := 135) rfl
theorem al_1360 : ((1360, 1, 2, 5) : Ent) ∈ AL := List.mem_of_getElem? (i := 136) rfl
theorem al_1361 : ((1361, 1, 1, 60) : Ent) ∈ AL := List.mem_of_getElem? (i := 137) rfl
theorem al_1362 : ((1362, 1, 1, 5) : Ent) ∈ AL := List.mem_of_getElem? (i := 138) rfl
theorem al_1363 : ((1363, 1, 1, 5) : Ent) ∈ AL := List.mem_of_getElem? (i := 139) rfl
theorem al_1377 : ((1377, 1, 1, 73) : Ent) ∈ AL := List.mem_of_getElem? (i := 140) rfl
theorem al_1378 : ((1378, 1, 1, 16) : Ent) ∈ AL := List.mem_of_getElem? (i := 141) rfl
theorem al_1379 : ((1379, 1, 1, 8) : Ent) ∈ AL := List.mem_of_getElem? (i := 142) rfl
theorem al_1380 : ((1380, 1, 1, 300) : Ent) ∈ AL := List.mem_of_getElem? (i := 143) rfl
theorem al_1381 : ((1381, 1, 1, 300) : Ent) ∈ AL := List.mem_of_getElem? (i := 144) rfl
theorem al_1400 : ((1400, 1, 3, 1) : Ent) ∈ AL := List.mem_of_getElem? (i := 145) rfl
/-- a class's facts: its place among the classes, its words, its fields' types and names -/
def Cf (j : Nat) (C : String) (T : u_T) (N : Nat) : Prop := vwCl[j]? = some (C, T, N) ∧ (∀ x ∈ u_ws C T N, x ∈ BW) ∧ (∃ ty0 : Nat → FieldType, ∀ k, k < N → parseFieldDescriptor (T k).2.2.1 = some (ty0 k)) ∧ (∀ a, a < N → ∀ b, b < N → a ≠ b → (T a).2.1 ≠ (T b).2.1) ∧ ((j, 1, 0, 0) : Ent) ∈ AL ∧ (FL j).length = N

theorem cf_0_w : (u_ws RX0 TX0 7).all (fun x => decide (x ∈ lw_tbl) && goodWord x) = true := by decide +kernel
theorem cf_0 : Cf 0 RX0 TX0 7 := ⟨rfl, fun x hx => List.mem_filter.mpr (by simpa using List.all_eq_true.mp cf_0_w x hx), ⟨tyX0, tyX0_ok⟩, nmX0, al_0, rfl⟩
theorem cf_1_w : (u_ws RX1 TX1 7).all (fun x => decide (x ∈ lw_tbl) && goodWord x) = true := by decide +kernel
theorem cf_1 : Cf 1 RX1 TX1 7 := ⟨rfl, fun x hx => List.mem_filter.mpr (by simpa using List.all_eq_true.mp cf_1_w x hx), ⟨tyX1, tyX1_ok⟩, nmX1, al_1, rfl⟩
theorem cf_2_w : (u_ws RX2 TX2 7).all (fun x => decide (x ∈ lw_tbl) && goodWord x) = true := by decide +kernel
theorem cf_2 : Cf 2 RX2 TX2 7 := ⟨rfl, fun x hx => List.mem_filter.mpr (by simpa using List.all_eq_true.mp cf_2_w x hx), ⟨tyX2, tyX2_ok⟩, nmX2, al_2, rfl⟩
theorem cf_3_w : (u_ws RX3 TX3 2).all (fun x => decide (x ∈ lw_tbl) && goodWord x) = true := by decide +kernel
theorem cf_3 : Cf 3 RX3 TX3 2 := ⟨rfl, fun x hx => List.mem_filter.mpr (by simpa using List.all_eq_true.mp cf_3_w x hx), ⟨tyX3, tyX3_ok⟩, nmX3, al_3, rfl⟩
theorem cf_4_w : (u_ws RX4 TX4 8).all (fun x => decide (x ∈ lw_tbl) && goodWord x) = true := by decide +kernel
theorem cf_4 : Cf 4 RX4 TX4 8 := ⟨rfl, fun x hx => List.mem_filter.mpr (by simpa using List.all_eq_true.mp cf_4_w x hx), ⟨tyX4, tyX4_ok⟩, nmX4, al_4, rfl⟩
theorem cf_5_w : (u_ws RX5 TX5 15).all (fun x => decide (x ∈ lw_tbl) && goodWord x) = true := by decide +kernel
theorem cf_5 : Cf 5 RX5 TX5 15 := ⟨rfl, fun x hx => List.mem_filter.mpr (by simpa using List.all_eq_true.mp cf_5_w x hx), ⟨tyX5, tyX5_ok⟩, nmX5, al_5, rfl⟩
theorem cf_6_w : (u_ws RX6 TX6 13).all (fun x => decide (x ∈ lw_tbl) && goodWord x) = true := by decide +kernel
theorem cf_6 : Cf 6 RX6 TX6 13 := ⟨rfl, fun x hx => List.mem_filter.mpr (by simpa using List.all_eq_true.mp cf_6_w x hx), ⟨tyX6, tyX6_ok⟩, nmX6, al_6, rfl⟩
theorem cf_7_w : (u_ws RX7 TX7 9).all (fun x => decide (x ∈ lw_tbl) && goodWord x) = true := by decide +kernel
theorem cf_7 : Cf 7 RX7 TX7 9 := ⟨rfl, fun x hx => List.mem_filter.mpr (by simpa using List.all_eq_true.mp cf_7_w x hx), ⟨tyX7, tyX7_ok⟩, nmX7, al_7, rfl⟩
theorem cf_8_w : (u_ws RX8 TX8 19).all (fun x => decide (x ∈ lw_tbl) && goodWord x) = true := by decide +kernel
theorem cf_8 : Cf 8 RX8 TX8 19 := ⟨rfl, fun x hx => List.mem_filter.mpr (by simpa using List.all_eq_true.mp cf_8_w x hx), ⟨tyX8, tyX8_ok⟩, nmX8, al_8, rfl⟩
theorem cf_9_w : (u_ws RX9 TX9 4).all (fun x => decide (x ∈ lw_tbl) && goodWord x) = true := by decide +kernel
theorem cf_9 : Cf 9 RX9 TX9 4 := ⟨rfl, fun x hx => List.mem_filter.mpr (by simpa using List.all_eq_true.mp cf_9_w x hx), ⟨tyX9, tyX9_ok⟩, nmX9, al_9, rfl⟩
theorem cf_10_w : (u_ws RX10 TX10 8).all (fun x => decide (x ∈ lw_tbl) && goodWord x) = true := by decide +kernel
theorem cf_10 : Cf 10 RX10 TX10 8 := ⟨rfl, fun x hx => List.mem_filter.mpr (by simpa using List.all_eq_true.mp cf_10_w x hx), ⟨tyX10, tyX10_ok⟩, nmX10, al_10, rfl⟩
theorem cf_11_w : (u_ws RX11 TX11 11).all (fun x => decide (x ∈ lw_tbl) && goodWord x) = true := by decide +kernel
theorem cf_11 : Cf 11 RX11 TX11 11 := ⟨rfl, fun x hx => List.mem_filter.mpr (by simpa using List.all_eq_true.mp cf_11_w x hx), ⟨tyX11, tyX11_ok⟩, nmX11, al_11, rfl⟩
theorem cf_12_w : (u_ws RX12 TX12 82).all (fun x => decide (x ∈ lw_tbl) && goodWord x) = true := by decide +kernel
theorem cf_12 : Cf 12 RX12 TX12 82 := ⟨rfl, fun x hx => List.mem_filter.mpr (by simpa using List.all_eq_true.mp cf_12_w x hx), ⟨tyX12, tyX12_ok⟩, nmX12, al_12, rfl⟩
