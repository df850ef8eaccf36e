def RF : Nat := 60
def kj {κ α : Type} (k : κ) (f : κ → Option α) : Option α := f k
theorem kE {κ α : Type} {k : κ} {f : κ → Option α} {o : α} (h : kj k f = some o) : ∃ k', k' = k ∧ f k' = some o := ⟨k, rfl, h⟩
theorem noS {α : Type} {x : α} {P : Prop} (h : (none : Option α) = some x) : P := nomatch h
def B_signsIn_l1b (v0 : Int32) (rec : Int32 → Int32 → Option Int32) (v1 : Int32) (v2 : Int32) : Option Int32 :=
  if v2 < 0 then some v1 else
  (if ((v0 >>> (v2 &&& 31)) &&& (nI 255)) = 0 then some v1 else
   (some (v1 + (nI 1))).bind fun x1 =>
   some x1).bind fun x2 =>
  (some (v2 + (-8))).bind fun x3 =>
  rec x2 x3
def B_signsIn_l1 (v0 : Int32) : Nat → Int32 → Int32 → Option Int32
  | 0 => fun _ _ => none
  | n + 1 => B_signsIn_l1b v0 (B_signsIn_l1 v0 n)
def B_signsIn (a1 : Int32) : Option Int32 :=
  (B_signsIn_l1 a1 FU (nI 0) (nI 24)).bind fun x1 =>
  some x1
def Tape_put_l1b (v1 : Int32) (rec : Int32 → Mem → Option Mem) (v2 : Int32) (μ : Mem) : Option Mem :=
  if v2 < 0 then some μ else
  (some ((v1 >>> (v2 &&& 31)) &&& (nI 255))).bind fun x1 =>
  (if x1 = 0 then some μ else
   if (mI μ 1001 0 0) < (nI 120) then
     ((mWr μ 1000 0 120 (mI μ 1001 0 0) x1).bind fun μ2 =>
     (some (mSI μ2 1001 0 0 ((mI μ2 1001 0 0) + (nI 1)))).bind fun μ3 =>
     some μ3)
   else
   some μ).bind fun μ4 =>
  (some (v2 + (-8))).bind fun x5 =>
  rec x5 μ4
def Tape_put_l1 (v1 : Int32) : Nat → Int32 → Mem → Option Mem
  | 0 => fun _ _ => none
  | n + 1 => Tape_put_l1b v1 (Tape_put_l1 v1 n)
def Tape_put (a1 : Int32) (μ : Mem) : Option Mem :=
  (Tape_put_l1 a1 FU (nI 24) μ).bind fun μ1 =>
  some μ1
def B_feed (a1 : Int32) (a2 : Int32) (a3 : Int32) (a4 : Int32) (a5 : Int32) (μ : Mem) : Option (Int32 × Mem) :=
  (B_signsIn a1).bind fun x1 =>
  (B_signsIn a2).bind fun x2 =>
  (B_signsIn a3).bind fun x3 =>
  (B_signsIn a4).bind fun x4 =>
  (B_signsIn a5).bind fun x5 =>
  (some ((((x1 + x2) + x3) + x4) + x5)).bind fun x6 =>
  if (nI 120) < ((mI μ 1001 0 0) + x6) then some ((-1), μ) else
  (Tape_put a1 μ).bind fun μ7 =>
  (Tape_put a2 μ7).bind fun μ8 =>
  (Tape_put a3 μ8).bind fun μ9 =>
  (Tape_put a4 μ9).bind fun μ10 =>
  (Tape_put a5 μ10).bind fun μ11 =>
  some ((mI μ11 1001 0 0), μ11)
def B_end (a1 : Int32) (μ : Mem) : Option (Int32 × Mem) :=
  if a1 < 0 then (mRz (nI 0)).bind fun z => some (z, μ) else
  if (mI μ 1001 0 0) < a1 then (mRz (nI 0)).bind fun z => some (z, μ) else
  (some (mSI μ 1001 0 0 a1)).bind fun μ1 =>
  (mRz (nI 1)).bind fun z => some (z, μ1)
def Pages_clearRow_l1b (rec : Int32 → Mem → Option Mem) (v1 : Int32) (μ : Mem) : Option Mem :=
  if v1 < (nI 4) then
    ((mIx (mI μ 712 0 0) 17).bind fun r1 =>
    (mWr μ 710 r1 4 v1 (nI 0)).bind fun μ2 =>
    (some (v1 + (nI 1))).bind fun x3 =>
    rec x3 μ2)
  else
  some μ
def Pages_clearRow_l1 : Nat → Int32 → Mem → Option Mem
  | 0 => fun _ _ => none
  | n + 1 => Pages_clearRow_l1b  (Pages_clearRow_l1  n)
def Pages_clearRow (μ : Mem) : Option Mem :=
  (mWr μ 702 0 17 (mI μ 712 0 0) (nI 0)).bind fun μ1 =>
  (mWr μ1 706 0 17 (mI μ1 712 0 0) (nI 0)).bind fun μ2 =>
  (mWr μ2 707 0 17 (mI μ2 712 0 0) (nI 0)).bind fun μ3 =>
  (mWr μ3 709 0 17 (mI μ3 712 0 0) (nI 0)).bind fun μ4 =>
  (Pages_clearRow_l1 FU (nI 0) μ4).bind fun μ5 =>
  some μ5
def Tape_begin (μ : Mem) : Option Mem :=
  (some (mSI μ 1002 0 0 (nI 0))).bind fun μ1 =>
  (some (mSI μ1 1003 0 0 (-1))).bind fun μ2 =>
  some μ2
def Tape_look_l1b (rec : Int32 → Mem → Option Mem) (v1 : Int32) (μ : Mem) : Option Mem :=
  if v1 < (mI μ 1001 0 0) then
    ((mRd μ 1000 0 120 v1).bind fun x1 =>
    if x1 = (nI 32) then
      ((some (mSI μ 1002 0 0 (v1 + (nI 1)))).bind fun μ2 =>
      (some (v1 + (nI 1))).bind fun x3 =>
      rec x3 μ2)
    else
    some μ)
  else
  some μ
def Tape_look_l1 : Nat → Int32 → Mem → Option Mem
  | 0 => fun _ _ => none
  | n + 1 => Tape_look_l1b  (Tape_look_l1  n)
def Tape_look (μ : Mem) : Option (Int32 × Mem) :=
  (some (mI μ 1002 0 0)).bind fun x1 =>
  (Tape_look_l1 FU x1 μ).bind fun μ2 =>
  if (mI μ2 1002 0 0) < (mI μ2 1001 0 0) then
    ((mRd μ2 1000 0 120 (mI μ2 1002 0 0)).bind fun x3 =>
    some (x3, μ2))
  else
  some ((-1), μ2)
def Pantry_has (a1 : Int32) (μ : Mem) : Option Int32 :=
  if a1 < 0 then mRz (nI 0) else
  if a1 < (mI μ 808 0 0) then mRz (nI 1) else
  mRz (nI 0)
def B_holdsBit (a1 : Int32) (a2 : Int32) : Option Int32 :=
  if ((a1 >>> (a2 &&& 31)) &&& (nI 1)) = 0 then mRz (nI 0) else
  mRz (nI 1)
def Tape_wrongHere (μ : Mem) : Option (Int32 × Mem) :=
  (some (mSI μ 1003 0 0 (mI μ 1002 0 0))).bind fun μ1 =>
  (mRz (nI 0)).bind fun z => some (z, μ1)
def Tape_step (μ : Mem) : Option Mem :=
  if (mI μ 1002 0 0) < (mI μ 1001 0 0) then
    ((some (mSI μ 1002 0 0 ((mI μ 1002 0 0) + (nI 1)))).bind fun μ1 =>
    some μ1)
  else
  some μ
def B_isDigit (a1 : Int32) : Option Int32 :=
  if a1 < (nI 48) then mRz (nI 0) else
  if (nI 57) < a1 then mRz (nI 0) else
  mRz (nI 1)
def Tape_readNumber_l1b (v3 : Int32) (rec : Int32 → Mem → Option (Int32 × Mem)) (v2 : Int32) (μ : Mem) : Option (Int32 × Mem) :=
  if (mI μ 1002 0 0) < v3 then
    ((mRd μ 1000 0 120 (mI μ 1002 0 0)).bind fun x1 =>
    (B_isDigit x1).bind fun x2 =>
    if x2 = 0 then some (v2, μ) else
    (mRd μ 1000 0 120 (mI μ 1002 0 0)).bind fun x3 =>
    (some (((v2 * (nI 10)) + x3) - (nI 48))).bind fun x4 =>
    (some (mSI μ 1002 0 0 ((mI μ 1002 0 0) + (nI 1)))).bind fun μ5 =>
    rec x4 μ5)
  else
  some (v2, μ)
def Tape_readNumber_l1 (v3 : Int32) : Nat → Int32 → Mem → Option (Int32 × Mem)
  | 0 => fun _ _ => none
  | n + 1 => Tape_readNumber_l1b v3 (Tape_readNumber_l1 v3 n)
def Tape_readNumber (a1 : Int32) (μ : Mem) : Option (Int32 × Mem) :=
  (Tape_look μ).bind fun (x1, μ2) =>
  (B_isDigit x1).bind fun x3 =>
  (if x3 = 0 then some ((-1) : Int32) else
   some (nI 0)).bind fun x4 =>
  (some (jMin (mI μ2 1001 0 0) ((mI μ2 1002 0 0) + a1))).bind fun x5 =>
  (Tape_readNumber_l1 x5 FU x4 μ2).bind fun (x6, μ7) =>
  if x6 = (-1) then
    ((some (mSI μ7 1003 0 0 (mI μ7 1002 0 0))).bind fun μ8 =>
    some ((-1), μ8))
  else
  if (mI μ7 1002 0 0) < (mI μ7 1001 0 0) then
    ((mRd μ7 1000 0 120 (mI μ7 1002 0 0)).bind fun x9 =>
    (B_isDigit x9).bind fun x10 =>
    if x10 = 0 then some (x6, μ7) else
    (some (mSI μ7 1003 0 0 (mI μ7 1002 0 0))).bind fun μ11 =>
    some ((-1), μ11))
  else
  some (x6, μ7)
def Tape_wrongBefore (μ : Mem) : Option (Int32 × Mem) :=
  (some (mSI μ 1003 0 0 ((mI μ 1002 0 0) - (nI 1)))).bind fun μ1 =>
  (mRz (nI 0)).bind fun z => some (z, μ1)
def Tape_takes (a1 : Int32) (μ : Mem) : Option (Int32 × Mem) :=
  (Tape_look μ).bind fun (x1, μ2) =>
  if x1 = a1 then
    (if (mI μ2 1002 0 0) < (mI μ2 1001 0 0) then
      ((some (mSI μ2 1002 0 0 ((mI μ2 1002 0 0) + (nI 1)))).bind fun μ3 =>
      (mRz (nI 1)).bind fun z => some (z, μ3))
    else
    (mRz (nI 0)).bind fun z => some (z, μ2))
  else
  (mRz (nI 0)).bind fun z => some (z, μ2)
def Pages_readsParts (a1 : Int32) (μ : Mem) : Option (Int32 × Mem) :=
  (Tape_readNumber (nI 2) μ).bind fun (x1, μ2) =>
  if x1 = (-1) then (mRz (nI 0)).bind fun z => some (z, μ2) else
  if x1 = 0 then
    ((Tape_wrongBefore μ2).bind fun (x16, μ17) =>
    (mRz x16).bind fun z => some (z, μ17))
  else
  (Tape_takes (nI 45) μ2).bind fun (x3, μ4) =>
  kj (fun (x9 : Int32) (μ10 : Mem) =>
    (mIx (mI μ10 712 0 0) 17).bind fun r12 =>
    (mWr μ10 704 r12 8 a1 x1).bind fun μ13 =>
    (mIx (mI μ13 712 0 0) 17).bind fun r14 =>
    (mWr μ13 705 r14 8 a1 x9).bind fun μ15 =>
    (mRz (nI 1)).bind fun z => some (z, μ15)) fun k11 =>
  if x3 = 0 then k11 x1 μ4 else
  (Tape_readNumber (nI 2) μ4).bind fun (x5, μ6) =>
  if x5 = (-1) then (mRz (nI 0)).bind fun z => some (z, μ6) else
  if x5 < x1 then
    ((Tape_wrongBefore μ6).bind fun (x7, μ8) =>
    (mRz x7).bind fun z => some (z, μ8))
  else
  k11 x5 μ6
def Pages_readsThing (μ : Mem) : Option (Int32 × Mem) :=
  (Tape_look μ).bind fun (x1, μ2) =>
  (some (x1 - (nI 97))).bind fun x3 =>
  (Pantry_has x3 μ2).bind fun x4 =>
  if x4 = 0 then
    ((Tape_wrongHere μ2).bind fun (x5, μ6) =>
    (mRz x5).bind fun z => some (z, μ6))
  else
  (mRd μ2 706 0 17 (mI μ2 712 0 0)).bind fun x7 =>
  (B_holdsBit x7 x3).bind fun x8 =>
  if x8 = 0 then
    ((Tape_step μ2).bind fun μ9 =>
    (mRd μ9 702 0 17 (mI μ9 712 0 0)).bind fun x10 =>
    (mIx (mI μ9 712 0 0) 17).bind fun r11 =>
    (mWr μ9 703 r11 8 x10 x3).bind fun μ12 =>
    (mIx (mI μ12 712 0 0) 17).bind fun r13 =>
    (mWr μ12 704 r13 8 x10 (nI 0)).bind fun μ14 =>
    (mIx (mI μ14 712 0 0) 17).bind fun r15 =>
    (mWr μ14 705 r15 8 x10 (nI 0)).bind fun μ16 =>
    (mWr μ16 702 0 17 (mI μ16 712 0 0) (x10 + (nI 1))).bind fun μ17 =>
    (mRd μ17 706 0 17 (mI μ17 712 0 0)).bind fun x18 =>
    (mWr μ17 706 0 17 (mI μ17 712 0 0) (x18 ||| ((nI 1) <<< (x3 &&& 31)))).bind fun μ19 =>
    (Tape_look μ19).bind fun (x20, μ21) =>
    (B_isDigit x20).bind fun x22 =>
    if x22 = 0 then
      ((mRd μ21 707 0 17 (mI μ21 712 0 0)).bind fun x23 =>
      (mWr μ21 707 0 17 (mI μ21 712 0 0) (x23 ||| ((nI 1) <<< (x3 &&& 31)))).bind fun μ24 =>
      (mRz (nI 1)).bind fun z => some (z, μ24))
    else
    (Pages_readsParts x10 μ21).bind fun (x25, μ26) =>
    (mRz x25).bind fun z => some (z, μ26))
  else
  (Tape_wrongHere μ2).bind fun (x27, μ28) =>
  (mRz x27).bind fun z => some (z, μ28)
def Pages_readsThings_l1b (rec : Int32 → Mem → Option (Int32 × Mem)) (v1 : Int32) (μ : Mem) : Option (Int32 × Mem) :=
  if v1 < (nI 8) then
    ((Pages_readsThing μ).bind fun (x5, μ6) =>
    if x5 = 0 then (mRz (nI 0)).bind fun z => some (z, μ6) else
    (Tape_takes (nI 44) μ6).bind fun (x7, μ8) =>
    if x7 = 0 then (mRz (nI 1)).bind fun z => some (z, μ8) else
    (some (v1 + (nI 1))).bind fun x9 =>
    rec x9 μ8)
  else
  (Tape_look μ).bind fun (x1, μ2) =>
  (Tape_wrongHere μ2).bind fun (x3, μ4) =>
  (mRz x3).bind fun z => some (z, μ4)
def Pages_readsThings_l1 : Nat → Int32 → Mem → Option (Int32 × Mem)
  | 0 => fun _ _ => none
  | n + 1 => Pages_readsThings_l1b  (Pages_readsThings_l1  n)
def Pages_readsThings (μ : Mem) : Option (Int32 × Mem) :=
  Pages_readsThings_l1 FU (nI 0) μ
def Pages_actOf (a1 : Int32) : Option Int32 :=
  if a1 = (nI 66) then
    (some (nI 0))
  else if a1 = (nI 82) then
    (some (nI 1))
  else if a1 = (nI 83) then
    (some (nI 3))
  else if a1 = (nI 84) then
    (some (nI 2))
  else 
  some (-1)
def B_isWithin (a1 : Int32) (a2 : Int32) (a3 : Int32) : Option Int32 :=
  if a1 < a2 then mRz (nI 0) else
  if a3 < a1 then mRz (nI 0) else
  mRz (nI 1)
def Pages_putAct_l1b (v1 : Int32) (v2 : Int32) (rec : Int32 → Mem → Option Mem) (v3 : Int32) (μ : Mem) : Option Mem :=
  if v3 < v2 then
    ((mRd μ 709 0 17 (mI μ 712 0 0)).bind fun x1 =>
    if x1 < (nI 72) then
      ((mIx (mI μ 712 0 0) 17).bind fun r2 =>
      (mRd μ 709 0 17 (mI μ 712 0 0)).bind fun x3 =>
      (mWr μ 708 r2 72 x3 v1).bind fun μ4 =>
      (mRd μ4 709 0 17 (mI μ4 712 0 0)).bind fun x5 =>
      (mWr μ4 709 0 17 (mI μ4 712 0 0) (x5 + (nI 1))).bind fun μ6 =>
      (some (v3 + (nI 1))).bind fun x7 =>
      rec x7 μ6)
    else
    some μ)
  else
  some μ
def Pages_putAct_l1 (v1 : Int32) (v2 : Int32) : Nat → Int32 → Mem → Option Mem
  | 0 => fun _ _ => none
  | n + 1 => Pages_putAct_l1b v1 v2 (Pages_putAct_l1 v1 v2 n)
def Pages_putAct (a1 : Int32) (a2 : Int32) (μ : Mem) : Option Mem :=
  (mIx (mI μ 712 0 0) 17).bind fun r1 =>
  (mRd μ 710 r1 4 a1).bind fun x2 =>
  (mWr μ 710 r1 4 a1 (x2 + a2)).bind fun μ3 =>
  (Pages_putAct_l1 a1 a2 FU (nI 0) μ3).bind fun μ4 =>
  some μ4
def Pages_readsActs_l1b (rec : Int32 → Mem → Option (Int32 × Mem)) (v1 : Int32) (μ : Mem) : Option (Int32 × Mem) :=
  if v1 < (nI 8) then
    ((Tape_look μ).bind fun (x5, μ6) =>
    kj (fun (_ : Unit) =>
      (Pages_actOf x5).bind fun x8 =>
      if x8 = (-1) then
        ((Tape_wrongHere μ6).bind fun (x21, μ22) =>
        (mRz x21).bind fun z => some (z, μ22))
      else
      (Tape_step μ6).bind fun μ9 =>
      (Tape_look μ9).bind fun (x10, μ11) =>
      (B_isWithin x10 (nI 49) (nI 57)).bind fun x12 =>
      (if x12 = 0 then some ((nI 1), μ11) else
       (Tape_look μ11).bind fun (x13, μ14) =>
       (some (x13 - (nI 48))).bind fun x15 =>
       (Tape_step μ14).bind fun μ16 =>
       some (x15, μ16)).bind fun (x17, μ18) =>
      (Pages_putAct x8 x17 μ18).bind fun μ19 =>
      (some (v1 + (nI 1))).bind fun x20 =>
      rec x20 μ19) fun k7 =>
    if x5 = (-1) then
      (if 0 < v1 then (mRz (nI 1)).bind fun z => some (z, μ6) else
      k7 ())
    else
    k7 ())
  else
  (Tape_look μ).bind fun (x1, μ2) =>
  if x1 = (-1) then (mRz (nI 1)).bind fun z => some (z, μ2) else
  (Tape_wrongHere μ2).bind fun (x3, μ4) =>
  if x3 = 0 then (mRz (nI 0)).bind fun z => some (z, μ4) else
  (mRz (nI 1)).bind fun z => some (z, μ4)
def Pages_readsActs_l1 : Nat → Int32 → Mem → Option (Int32 × Mem)
  | 0 => fun _ _ => none
  | n + 1 => Pages_readsActs_l1b  (Pages_readsActs_l1  n)
def Pages_readsActs (μ : Mem) : Option (Int32 × Mem) :=
  Pages_readsActs_l1 FU (nI 0) μ
def Pages_readsTape (μ : Mem) : Option (Int32 × Mem) :=
  (Pages_clearRow μ).bind fun μ1 =>
  (Tape_begin μ1).bind fun μ2 =>
  (Pages_readsThings μ2).bind fun (x3, μ4) =>
  if x3 = 0 then (mRz (nI 0)).bind fun z => some (z, μ4) else
  (Tape_takes (nI 59) μ4).bind fun (x5, μ6) =>
  if x5 = 0 then
    ((Tape_look μ6).bind fun (x7, μ8) =>
    if x7 = (-1) then (mRz (nI 1)).bind fun z => some (z, μ8) else
    (Tape_wrongHere μ8).bind fun (x9, μ10) =>
    if x9 = 0 then (mRz (nI 0)).bind fun z => some (z, μ10) else
    (mRz (nI 1)).bind fun z => some (z, μ10))
  else
  (Pages_readsActs μ6).bind fun (x11, μ12) =>
  (mRz x11).bind fun z => some (z, μ12)
def Laws_clearRow (μ : Mem) : Option Mem :=
  (mWr μ 501 0 7 (mI μ 504 0 0) (nI 0)).bind fun μ1 =>
  some μ1
def LawReader_opensUnit (a1 : Int32) : Option Int32 :=
  if a1 = (nI 33) then mRz (nI 1) else
  if a1 = (nI 40) then mRz (nI 1) else
  mRz (nI 0)
def Laws_emit (a1 : Int32) (μ : Mem) : Option Mem :=
  (mRd μ 501 0 7 (mI μ 504 0 0)).bind fun x1 =>
  if x1 < (nI 120) then
    ((mIx (mI μ 504 0 0) 7).bind fun r2 =>
    (mWr μ 500 r2 120 x1 a1).bind fun μ3 =>
    (mWr μ3 501 0 7 (mI μ3 504 0 0) (x1 + (nI 1))).bind fun μ4 =>
    some μ4)
  else
  some μ
def LawReader_letterOf (a1 : Int32) : Option Int32 :=
  if a1 = (nI 98) then
    (some (nI 4))
  else if a1 = (nI 99) then
    (some (-1))
  else if a1 = (nI 100) then
    (some (-1))
  else if a1 = (nI 101) then
    (some (-1))
  else if a1 = (nI 102) then
    (some (nI 2))
  else if a1 = (nI 103) then
    (some (-1))
  else if a1 = (nI 104) then
    (some (-1))
  else if a1 = (nI 105) then
    (some (-1))
  else if a1 = (nI 106) then
    (some (-1))
  else if a1 = (nI 107) then
    (some (nI 8))
  else if a1 = (nI 108) then
    (some (-1))
  else if a1 = (nI 109) then
    (some (-1))
  else if a1 = (nI 110) then
    (some (nI 3))
  else if a1 = (nI 111) then
    (some (-1))
  else if a1 = (nI 112) then
    (some (-1))
  else if a1 = (nI 113) then
    (some (-1))
  else if a1 = (nI 114) then
    (some (nI 5))
  else if a1 = (nI 115) then
    (some (nI 1))
  else if a1 = (nI 116) then
    (some (nI 6))
  else if a1 = (nI 117) then
    (some (nI 7))
  else if a1 = (nI 118) then
    (some (-1))
  else if a1 = (nI 119) then
    (some (nI 0))
  else 
  some (-1)
def LawReader_sum_l1b (r_LawReader_term : Int32 → Mem → Option (Int32 × Mem)) (v1 : Int32) (rec : Int32 → Mem → Option (Int32 × Mem)) (v2 : Int32) (μ : Mem) : Option (Int32 × Mem) :=
  if v2 < (nI 120) then
    ((Tape_look μ).bind fun (x3, μ4) =>
    kj (fun (_ : Unit) =>
      (Tape_step μ4).bind fun μ6 =>
      (r_LawReader_term v1 μ6).bind fun (x7, μ8) =>
      if x7 = 0 then (mRz (nI 0)).bind fun z => some (z, μ8) else
      (if x3 = (nI 43) then some (nI 10100) else
       some (nI 10101)).bind fun x9 =>
      (Laws_emit x9 μ8).bind fun μ10 =>
      (some (v2 + (nI 1))).bind fun x11 =>
      rec x11 μ10) fun k5 =>
    if x3 = (nI 43) then k5 () else
    if x3 = (nI 45) then k5 () else
    (mRz (nI 1)).bind fun z => some (z, μ4))
  else
  (Tape_wrongHere μ).bind fun (x1, μ2) =>
  (mRz x1).bind fun z => some (z, μ2)
def LawReader_sum_l1 (r_LawReader_term : Int32 → Mem → Option (Int32 × Mem)) (v1 : Int32) : Nat → Int32 → Mem → Option (Int32 × Mem)
  | 0 => fun _ _ => none
  | n + 1 => LawReader_sum_l1b r_LawReader_term v1 (LawReader_sum_l1 r_LawReader_term v1 n)
def LawReader_sum_B (r_LawReader_term : Int32 → Mem → Option (Int32 × Mem)) (a1 : Int32) (μ : Mem) : Option (Int32 × Mem) :=
  (r_LawReader_term a1 μ).bind fun (x1, μ2) =>
  if x1 = 0 then (mRz (nI 0)).bind fun z => some (z, μ2) else
  LawReader_sum_l1 r_LawReader_term a1 FU (nI 0) μ2
def LawReader_term_l1b (r_LawReader_atom : Int32 → Mem → Option (Int32 × Mem)) (v1 : Int32) (rec : Int32 → Mem → Option (Int32 × Mem)) (v2 : Int32) (μ : Mem) : Option (Int32 × Mem) :=
  if v2 < (nI 120) then
    ((Tape_look μ).bind fun (x3, μ4) =>
    kj (fun (_ : Unit) =>
      (Tape_step μ4).bind fun μ6 =>
      (r_LawReader_atom v1 μ6).bind fun (x7, μ8) =>
      if x7 = 0 then (mRz (nI 0)).bind fun z => some (z, μ8) else
      (if x3 = (nI 42) then some (nI 10102) else
       some (nI 10103)).bind fun x9 =>
      (Laws_emit x9 μ8).bind fun μ10 =>
      (some (v2 + (nI 1))).bind fun x11 =>
      rec x11 μ10) fun k5 =>
    if x3 = (nI 42) then k5 () else
    if x3 = (nI 47) then k5 () else
    (mRz (nI 1)).bind fun z => some (z, μ4))
  else
  (Tape_wrongHere μ).bind fun (x1, μ2) =>
  (mRz x1).bind fun z => some (z, μ2)
def LawReader_term_l1 (r_LawReader_atom : Int32 → Mem → Option (Int32 × Mem)) (v1 : Int32) : Nat → Int32 → Mem → Option (Int32 × Mem)
  | 0 => fun _ _ => none
  | n + 1 => LawReader_term_l1b r_LawReader_atom v1 (LawReader_term_l1 r_LawReader_atom v1 n)
def LawReader_term_B (r_LawReader_atom : Int32 → Mem → Option (Int32 × Mem)) (a1 : Int32) (μ : Mem) : Option (Int32 × Mem) :=
  (r_LawReader_atom a1 μ).bind fun (x1, μ2) =>
  if x1 = 0 then (mRz (nI 0)).bind fun z => some (z, μ2) else
  LawReader_term_l1 r_LawReader_atom a1 FU (nI 0) μ2
def LawReader_atom_B (r_LawReader_sum : Int32 → Mem → Option (Int32 × Mem)) (a1 : Int32) (μ : Mem) : Option (Int32 × Mem) :=
  (Tape_look μ).bind fun (x1, μ2) =>
  (B_isDigit x1).bind fun x3 =>
  if x3 = 0 then
    ((LawReader_letterOf x1).bind fun x4 =>
    if x4 = (-1) then
      (if x1 = (nI 91) then
        (if a1 < (nI 6) then
          ((Tape_step μ2).bind fun μ7 =>
          (r_LawReader_sum (a1 + (nI 1)) μ7).bind fun (x8, μ9) =>
          if x8 = 0 then (mRz (nI 0)).bind fun z => some (z, μ9) else
          (Tape_takes (nI 93) μ9).bind fun (x10, μ11) =>
          if x10 = 0 then
            ((Tape_wrongHere μ11).bind fun (x12, μ13) =>
            if x12 = 0 then (mRz (nI 0)).bind fun z => some (z, μ13) else
            (mRz (nI 1)).bind fun z => some (z, μ13))
          else
          (mRz (nI 1)).bind fun z => some (z, μ11))
        else
        (Tape_wrongHere μ2).bind fun (x14, μ15) =>
        (mRz x14).bind fun z => some (z, μ15))
      else
      (Tape_wrongHere μ2).bind fun (x5, μ6) =>
      (mRz x5).bind fun z => some (z, μ6))
    else
    (Tape_step μ2).bind fun μ16 =>
    (Laws_emit ((nI 10000) + x4) μ16).bind fun μ17 =>
    (mRz (nI 1)).bind fun z => some (z, μ17))
  else
  (Tape_readNumber (nI 4) μ2).bind fun (x18, μ19) =>
  (Laws_emit x18 μ19).bind fun μ20 =>
  if x18 = (-1) then (mRz (nI 0)).bind fun z => some (z, μ20) else
  (mRz (nI 1)).bind fun z => some (z, μ20)
def G_LawReader_sum : Nat → (Int32 → Mem → Option (Int32 × Mem)) × (Int32 → Mem → Option (Int32 × Mem)) × (Int32 → Mem → Option (Int32 × Mem))
  | 0 => (fun _ _ => none, fun _ _ => none, fun _ _ => none)
  | n + 1 => (LawReader_sum_B (G_LawReader_sum n).2.1, LawReader_term_B (G_LawReader_sum n).2.2, LawReader_atom_B (G_LawReader_sum n).1)
def LawReader_sum (n : Nat) : Int32 → Mem → Option (Int32 × Mem) := (G_LawReader_sum n).1
def LawReader_term (n : Nat) : Int32 → Mem → Option (Int32 × Mem) := (G_LawReader_sum n).2.1
def LawReader_atom (n : Nat) : Int32 → Mem → Option (Int32 × Mem) := (G_LawReader_sum n).2.2
theorem LawReader_sum_s (n : Nat) : LawReader_sum (n + 1) = LawReader_sum_B (LawReader_term n) := rfl
theorem LawReader_term_s (n : Nat) : LawReader_term (n + 1) = LawReader_term_B (LawReader_atom n) := rfl
theorem LawReader_atom_s (n : Nat) : LawReader_atom (n + 1) = LawReader_atom_B (LawReader_sum n) := rfl
def LawReader_comparing (a1 : Int32) : Option Int32 :=
  if a1 = (nI 60) then
    (some (nI 10105))
  else if a1 = (nI 61) then
    (some (nI 10104))
  else if a1 = (nI 62) then
    (some (nI 10106))
  else 
  some (-1)
def LawReader_condition_l1b (r_LawReader_truth : Int32 → Int32 → Mem → Option (Int32 × Mem)) (v1 : Int32) (rec : Int32 → Mem → Option (Int32 × Mem)) (v3 : Int32) (μ : Mem) : Option (Int32 × Mem) :=
  if v3 < (nI 120) then
    ((Tape_takes (nI 124) μ).bind fun (x1, μ2) =>
    if x1 = 0 then (mRz (nI 1)).bind fun z => some (z, μ2) else
    (r_LawReader_truth v1 (nI 0) μ2).bind fun (x3, μ4) =>
    if x3 = 0 then (mRz (nI 0)).bind fun z => some (z, μ4) else
    (Laws_emit (nI 10108) μ4).bind fun μ5 =>
    (some (v3 + (nI 1))).bind fun x6 =>
    rec x6 μ5)
  else
  (mRz (nI 1)).bind fun z => some (z, μ)
def LawReader_condition_l1 (r_LawReader_truth : Int32 → Int32 → Mem → Option (Int32 × Mem)) (v1 : Int32) : Nat → Int32 → Mem → Option (Int32 × Mem)
  | 0 => fun _ _ => none
  | n + 1 => LawReader_condition_l1b r_LawReader_truth v1 (LawReader_condition_l1 r_LawReader_truth v1 n)
def LawReader_condition_B (r_LawReader_truth : Int32 → Int32 → Mem → Option (Int32 × Mem)) (a1 : Int32) (a2 : Int32) (μ : Mem) : Option (Int32 × Mem) :=
  (r_LawReader_truth a1 a2 μ).bind fun (x1, μ2) =>
  if x1 = 0 then (mRz (nI 0)).bind fun z => some (z, μ2) else
  LawReader_condition_l1 r_LawReader_truth a1 FU (nI 0) μ2
def LawReader_truth_l1b (r_LawReader_unit : Int32 → Int32 → Mem → Option (Int32 × Mem)) (v1 : Int32) (rec : Int32 → Mem → Option (Int32 × Mem)) (v3 : Int32) (μ : Mem) : Option (Int32 × Mem) :=
  if v3 < (nI 120) then
    ((Tape_takes (nI 38) μ).bind fun (x1, μ2) =>
    if x1 = 0 then (mRz (nI 1)).bind fun z => some (z, μ2) else
    (r_LawReader_unit v1 (nI 0) μ2).bind fun (x3, μ4) =>
    if x3 = 0 then (mRz (nI 0)).bind fun z => some (z, μ4) else
    (Laws_emit (nI 10107) μ4).bind fun μ5 =>
    (some (v3 + (nI 1))).bind fun x6 =>
    rec x6 μ5)
  else
  (mRz (nI 1)).bind fun z => some (z, μ)
def LawReader_truth_l1 (r_LawReader_unit : Int32 → Int32 → Mem → Option (Int32 × Mem)) (v1 : Int32) : Nat → Int32 → Mem → Option (Int32 × Mem)
  | 0 => fun _ _ => none
  | n + 1 => LawReader_truth_l1b r_LawReader_unit v1 (LawReader_truth_l1 r_LawReader_unit v1 n)
def LawReader_truth_B (r_LawReader_unit : Int32 → Int32 → Mem → Option (Int32 × Mem)) (a1 : Int32) (a2 : Int32) (μ : Mem) : Option (Int32 × Mem) :=
  (r_LawReader_unit a1 a2 μ).bind fun (x1, μ2) =>
  if x1 = 0 then (mRz (nI 0)).bind fun z => some (z, μ2) else
  LawReader_truth_l1 r_LawReader_unit a1 FU (nI 0) μ2
def LawReader_unit_B (r_LawReader_opened : Int32 → Mem → Option (Int32 × Mem)) (a1 : Int32) (a2 : Int32) (μ : Mem) : Option (Int32 × Mem) :=
  kj (fun (μ6 : Mem) =>
    kj (fun (μ10 : Mem) =>
      (Tape_look μ10).bind fun (x12, μ13) =>
      (LawReader_comparing x12).bind fun x14 =>
      if x14 = (-1) then
        ((Tape_wrongHere μ13).bind fun (x19, μ20) =>
        (mRz x19).bind fun z => some (z, μ20))
      else
      (Tape_step μ13).bind fun μ15 =>
      (LawReader_sum RF a1 μ15).bind fun (x16, μ17) =>
      if x16 = 0 then (mRz (nI 0)).bind fun z => some (z, μ17) else
      (Laws_emit x14 μ17).bind fun μ18 =>
      (mRz (nI 1)).bind fun z => some (z, μ18)) fun k11 =>
    if a2 = 0 then
      ((LawReader_sum RF a1 μ6).bind fun (x8, μ9) =>
      if x8 = 0 then (mRz (nI 0)).bind fun z => some (z, μ9) else
      k11 μ9)
    else
    k11 μ6) fun k7 =>
  if a2 = 0 then
    ((Tape_look μ).bind fun (x1, μ2) =>
    (LawReader_opensUnit x1).bind fun x3 =>
    if x3 = 0 then k7 μ2 else
    (r_LawReader_opened a1 μ2).bind fun (x4, μ5) =>
    (mRz x4).bind fun z => some (z, μ5))
  else
  k7 μ
def LawReader_opened_B (r_LawReader_condition : Int32 → Int32 → Mem → Option (Int32 × Mem)) (r_LawReader_unit : Int32 → Int32 → Mem → Option (Int32 × Mem)) (a1 : Int32) (μ : Mem) : Option (Int32 × Mem) :=
  if a1 < (nI 6) then
    ((Tape_takes (nI 40) μ).bind fun (x1, μ2) =>
    if x1 = 0 then
      ((Tape_step μ2).bind fun μ3 =>
      (r_LawReader_unit (a1 + (nI 1)) (nI 0) μ3).bind fun (x4, μ5) =>
      if x4 = 0 then (mRz (nI 0)).bind fun z => some (z, μ5) else
      (Laws_emit (nI 10109) μ5).bind fun μ6 =>
      (mRz (nI 1)).bind fun z => some (z, μ6))
    else
    (r_LawReader_condition (a1 + (nI 1)) (nI 0) μ2).bind fun (x7, μ8) =>
    if x7 = 0 then (mRz (nI 0)).bind fun z => some (z, μ8) else
    (Tape_takes (nI 41) μ8).bind fun (x9, μ10) =>
    if x9 = 0 then
      ((Tape_wrongHere μ10).bind fun (x11, μ12) =>
      if x11 = 0 then (mRz (nI 0)).bind fun z => some (z, μ12) else
      (mRz (nI 1)).bind fun z => some (z, μ12))
    else
    (mRz (nI 1)).bind fun z => some (z, μ10))
  else
  (Tape_wrongHere μ).bind fun (x13, μ14) =>
  (mRz x13).bind fun z => some (z, μ14)
def G_LawReader_condition : Nat → (Int32 → Int32 → Mem → Option (Int32 × Mem)) × (Int32 → Int32 → Mem → Option (Int32 × Mem)) × (Int32 → Int32 → Mem → Option (Int32 × Mem)) × (Int32 → Mem → Option (Int32 × Mem))
  | 0 => (fun _ _ _ => none, fun _ _ _ => none, fun _ _ _ => none, fun _ _ => none)
  | n + 1 => (LawReader_condition_B (G_LawReader_condition n).2.1, LawReader_truth_B (G_LawReader_condition n).2.2.1, LawReader_unit_B (G_LawReader_condition n).2.2.2, LawReader_opened_B (G_LawReader_condition n).1 (G_LawReader_condition n).2.2.1)
def LawReader_condition (n : Nat) : Int32 → Int32 → Mem → Option (Int32 × Mem) := (G_LawReader_condition n).1
def LawReader_truth (n : Nat) : Int32 → Int32 → Mem → Option (Int32 × Mem) := (G_LawReader_condition n).2.1
def LawReader_unit (n : Nat) : Int32 → Int32 → Mem → Option (Int32 × Mem) := (G_LawReader_condition n).2.2.1
def LawReader_opened (n : Nat) : Int32 → Mem → Option (Int32 × Mem) := (G_LawReader_condition n).2.2.2
theorem LawReader_condition_s (n : Nat) : LawReader_condition (n + 1) = LawReader_condition_B (LawReader_truth n) := rfl
theorem LawReader_truth_s (n : Nat) : LawReader_truth (n + 1) = LawReader_truth_B (LawReader_unit n) := rfl
theorem LawReader_unit_s (n : Nat) : LawReader_unit (n + 1) = LawReader_unit_B (LawReader_opened n) := rfl
theorem LawReader_opened_s (n : Nat) : LawReader_opened (n + 1) = LawReader_opened_B (LawReader_condition n) (LawReader_unit n) := rfl
def Laws_length (μ : Mem) : Option Int32 :=
  (mRd μ 501 0 7 (mI μ 504 0 0)).bind fun x1 =>
  some x1
def Laws_aim (a1 : Int32) (μ : Mem) : Option Mem :=
  if a1 < 0 then some μ else
  (mRd μ 501 0 7 (mI μ 504 0 0)).bind fun x1 =>
  if a1 < x1 then
    ((mIx (mI μ 504 0 0) 7).bind fun r2 =>
    (mRd μ 501 0 7 (mI μ 504 0 0)).bind fun x3 =>
    (mWr μ 500 r2 120 a1 x3).bind fun μ4 =>
    some μ4)
  else
  some μ
def LawReader_conditioned (μ : Mem) : Option (Int32 × Mem) :=
  (Tape_takes (nI 63) μ).bind fun (x1, μ2) =>
  if x1 = 0 then
    ((Tape_wrongHere μ2).bind fun (x10, μ11) =>
    (mRz x10).bind fun z => some (z, μ11))
  else
  (Laws_emit (nI 10110) μ2).bind fun μ3 =>
  (Laws_length μ3).bind fun x4 =>
  (Laws_emit (nI 0) μ3).bind fun μ5 =>
  (LawReader_sum RF (nI 0) μ5).bind fun (x6, μ7) =>
  if x6 = 0 then (mRz (nI 0)).bind fun z => some (z, μ7) else
  (Laws_emit (nI 10111) μ7).bind fun μ8 =>
  (Laws_aim x4 μ8).bind fun μ9 =>
  (mRz (nI 1)).bind fun z => some (z, μ9)
def LawReader_clause (μ : Mem) : Option (Int32 × Mem) :=
  (Tape_takes (nI 121) μ).bind fun (x1, μ2) =>
  if x1 = 0 then
    ((Tape_wrongHere μ2).bind fun (x3, μ4) =>
    (mRz x3).bind fun z => some (z, μ4))
  else
  (Tape_takes (nI 58) μ2).bind fun (x5, μ6) =>
  if x5 = 0 then
    ((Tape_wrongHere μ6).bind fun (x23, μ24) =>
    (mRz x23).bind fun z => some (z, μ24))
  else
  (Tape_look μ6).bind fun (x7, μ8) =>
  (LawReader_opensUnit x7).bind fun x9 =>
  kj (fun (μ16 : Mem) =>
    (if x9 = 0 then some (nI 1) else
     some (nI 0)).bind fun x18 =>
    (LawReader_condition RF (nI 0) x18 μ16).bind fun (x19, μ20) =>
    if x19 = 0 then (mRz (nI 0)).bind fun z => some (z, μ20) else
    (LawReader_conditioned μ20).bind fun (x21, μ22) =>
    if x21 = 0 then (mRz (nI 0)).bind fun z => some (z, μ22) else
    (mRz (nI 1)).bind fun z => some (z, μ22)) fun k17 =>
  if x9 = 0 then
    ((LawReader_sum RF (nI 0) μ8).bind fun (x10, μ11) =>
    if x10 = 0 then (mRz (nI 0)).bind fun z => some (z, μ11) else
    (Tape_look μ11).bind fun (x12, μ13) =>
    (LawReader_comparing x12).bind fun x14 =>
    if x14 = (-1) then
      ((Laws_emit (nI 10111) μ13).bind fun μ15 =>
      (mRz (nI 1)).bind fun z => some (z, μ15))
    else
    k17 μ13)
  else
  k17 μ8
def LawReader_readsTape_l1b (rec : Int32 → Mem → Option (Int32 × Mem)) (v1 : Int32) (μ : Mem) : Option (Int32 × Mem) :=
  if v1 < (nI 120) then
    ((LawReader_clause μ).bind fun (x3, μ4) =>
    if x3 = 0 then (mRz (nI 0)).bind fun z => some (z, μ4) else
    (Tape_takes (nI 59) μ4).bind fun (x5, μ6) =>
    if x5 = 0 then
      ((Tape_look μ6).bind fun (x8, μ9) =>
      if x8 = (-1) then (mRz (nI 1)).bind fun z => some (z, μ9) else
      (Tape_wrongHere μ9).bind fun (x10, μ11) =>
      if x10 = 0 then (mRz (nI 0)).bind fun z => some (z, μ11) else
      (mRz (nI 1)).bind fun z => some (z, μ11))
    else
    (some (v1 + (nI 1))).bind fun x7 =>
    rec x7 μ6)
  else
  (Tape_wrongHere μ).bind fun (x1, μ2) =>
  (mRz x1).bind fun z => some (z, μ2)
def LawReader_readsTape_l1 : Nat → Int32 → Mem → Option (Int32 × Mem)
  | 0 => fun _ _ => none
  | n + 1 => LawReader_readsTape_l1b  (LawReader_readsTape_l1  n)
def LawReader_readsTape (μ : Mem) : Option (Int32 × Mem) :=
  (Laws_clearRow μ).bind fun μ1 =>
  (Tape_begin μ1).bind fun μ2 =>
  LawReader_readsTape_l1 FU (nI 0) μ2
def B_fault (a1 : Int32) (μ : Mem) : Option (Int32 × Mem) :=
  kj (fun (_ : Unit) =>
    (if a1 = 0 then
       ((Pages_readsTape μ).bind fun (x4, μ5) =>
       some (x4, μ5))
     else
     (LawReader_readsTape μ).bind fun (x2, μ3) =>
     some (x2, μ3)).bind fun (x6, μ7) =>
    if x6 = 0 then some ((mI μ7 1003 0 0), μ7) else
    some ((-1), μ7)) fun k1 =>
  if a1 = 0 then k1 () else
  if a1 = (nI 1) then k1 () else
  some ((-2), μ)
def Kin_actChanges_l1b (v1 : Int32) (v2 : Int32) (v3 : Int32) (rec : Int32 → Mem → Option Mem) (v4 : Int32) (μ : Mem) : Option Mem :=
  if v3 < v4 then some μ else
  (mWr μ 304 0 73 v4 v4).bind fun μ1 =>
  (some (v4 + (nI 1))).bind fun x2 =>
  rec x2 μ1
def Kin_actChanges_l1 (v1 : Int32) (v2 : Int32) (v3 : Int32) : Nat → Int32 → Mem → Option Mem
  | 0 => fun _ _ => none
  | n + 1 => Kin_actChanges_l1b v1 v2 v3 (Kin_actChanges_l1 v1 v2 v3 n)
def Kin_actChanges_l3b (v1 : Int32) (v2 : Int32) (v3 : Int32) (v4 : Int32) (rec : Int32 → Int32 → Mem → Option Mem) (v5 : Int32) (v6 : Int32) (μ : Mem) : Option Mem :=
  if v3 < v6 then some μ else
  (mIx v1 17).bind fun r1 =>
  (mRd μ 708 r1 72 (v4 - (nI 1))).bind fun x2 =>
  (mIx v2 17).bind fun r3 =>
  (mRd μ 708 r3 72 (v6 - (nI 1))).bind fun x4 =>
  (if x2 = x4 then some (nI 1) else
   some (nI 0)).bind fun x5 =>
  (if x5 = 0 then some (v5 + (nI 1)) else
   some v5).bind fun x6 =>
  (mRd μ 304 0 73 v6).bind fun x7 =>
  (mRd μ 304 0 73 v6).bind fun x8 =>
  (mRd μ 304 0 73 (v6 - (nI 1))).bind fun x9 =>
  (mWr μ 304 0 73 v6 (jMin x6 ((jMin x8 x9) + (nI 1)))).bind fun μ10 =>
  (some (v6 + (nI 1))).bind fun x11 =>
  rec x7 x11 μ10
def Kin_actChanges_l3 (v1 : Int32) (v2 : Int32) (v3 : Int32) (v4 : Int32) : Nat → Int32 → Int32 → Mem → Option Mem
  | 0 => fun _ _ _ => none
  | n + 1 => Kin_actChanges_l3b v1 v2 v3 v4 (Kin_actChanges_l3 v1 v2 v3 v4 n)
def Kin_actChanges_l2b (v1 : Int32) (v2 : Int32) (v3 : Int32) (rec : Int32 → Mem → Option Mem) (v4 : Int32) (μ : Mem) : Option Mem :=
  (mRd μ 709 0 17 v1).bind fun x1 =>
  if x1 < v4 then some μ else
  (mRd μ 304 0 73 (nI 0)).bind fun x2 =>
  (mWr μ 304 0 73 (nI 0) v4).bind fun μ3 =>
  (Kin_actChanges_l3 v1 v2 v3 v4 FU x2 (nI 1) μ3).bind fun μ4 =>
  (some (v4 + (nI 1))).bind fun x5 =>
  rec x5 μ4
def Kin_actChanges_l2 (v1 : Int32) (v2 : Int32) (v3 : Int32) : Nat → Int32 → Mem → Option Mem
  | 0 => fun _ _ => none
  | n + 1 => Kin_actChanges_l2b v1 v2 v3 (Kin_actChanges_l2 v1 v2 v3 n)
def Kin_actChanges (a1 : Int32) (a2 : Int32) (μ : Mem) : Option (Int32 × Mem) :=
  (mRd μ 709 0 17 a2).bind fun x1 =>
  (Kin_actChanges_l1 a1 a2 x1 FU (nI 0) μ).bind fun μ2 =>
  (Kin_actChanges_l2 a1 a2 x1 FU (nI 1) μ2).bind fun μ3 =>
  (mRd μ3 304 0 73 x1).bind fun x4 =>
  some (x4, μ3)
def J_bitCount (a1 : Int32) : Option Int32 :=
  (some (a1 - ((((a1 : Int32).toUInt32 >>> (((nI 1) : Int32).toUInt32 &&& Int32.toUInt32 31)).toInt32) &&& (nI 1431655765)))).bind fun x1 =>
  (some ((x1 &&& (nI 858993459)) + ((((x1 : Int32).toUInt32 >>> (((nI 2) : Int32).toUInt32 &&& Int32.toUInt32 31)).toInt32) &&& (nI 858993459)))).bind fun x2 =>
  (some ((x2 + (((x2 : Int32).toUInt32 >>> (((nI 4) : Int32).toUInt32 &&& Int32.toUInt32 31)).toInt32)) &&& (nI 252645135))).bind fun x3 =>
  (some (x3 + (((x3 : Int32).toUInt32 >>> (((nI 8) : Int32).toUInt32 &&& Int32.toUInt32 31)).toInt32))).bind fun x4 =>
  (some (x4 + (((x4 : Int32).toUInt32 >>> (((nI 16) : Int32).toUInt32 &&& Int32.toUInt32 31)).toInt32))).bind fun x5 =>
  some (x5 &&& (nI 63))
def Kin_join_l1b (v1 : Int32) (rec : Int32 → Mem → Option Mem) (v2 : Int32) (μ : Mem) : Option Mem :=
  if v2 < v1 then
    ((Kin_actChanges v1 v2 μ).bind fun (x1, μ2) =>
    (mRd μ2 706 0 17 v1).bind fun x3 =>
    (mRd μ2 706 0 17 v2).bind fun x4 =>
    (J_bitCount (x3 ^^^ x4)).bind fun x5 =>
    (some (x5 + x1)).bind fun x6 =>
    (mIx v1 16).bind fun r7 =>
    (mWr μ2 302 r7 16 v2 x1).bind fun μ8 =>
    (mIx v1 16).bind fun r9 =>
    (mWr μ8 301 r9 16 v2 x6).bind fun μ10 =>
    (mIx v2 16).bind fun r11 =>
    (mWr μ10 301 r11 16 v1 x6).bind fun μ12 =>
    (mRd μ12 303 0 16 v1).bind fun x13 =>
    (if x13 = (-1) then
       ((mWr μ12 303 0 16 v1 v2).bind fun μ14 =>
       some μ14)
     else
     (mIx v1 16).bind fun r15 =>
     (mRd μ12 303 0 16 v1).bind fun x16 =>
     (mRd μ12 301 r15 16 x16).bind fun x17 =>
     if x6 < x17 then
       ((mWr μ12 303 0 16 v1 v2).bind fun μ18 =>
       some μ18)
     else
     some μ12).bind fun μ19 =>
    (some (v2 + (nI 1))).bind fun x20 =>
    rec x20 μ19)
  else
  some μ
def Kin_join_l1 (v1 : Int32) : Nat → Int32 → Mem → Option Mem
  | 0 => fun _ _ => none
  | n + 1 => Kin_join_l1b v1 (Kin_join_l1 v1 n)
def Kin_join (a1 : Int32) (μ : Mem) : Option Mem :=
  (mWr μ 303 0 16 a1 (-1)).bind fun μ1 =>
  (Kin_join_l1 a1 FU (nI 0) μ1).bind fun μ2 =>
  some μ2
def B_text (a1 : Int32) (μ : Mem) : Option (Int32 × Mem) :=
  kj (fun (μ6 : Mem) =>
    if a1 = (nI 1) then
      (if (mI μ6 504 0 0) < (nI 6) then
        ((LawReader_readsTape μ6).bind fun (x8, μ9) =>
        if x8 = 0 then some ((-1), μ9) else
        (some (mSI μ9 1001 0 0 (nI 0))).bind fun μ10 =>
        (some (mSI μ10 504 0 0 ((mI μ10 504 0 0) + (nI 1)))).bind fun μ11 =>
        some (((mI μ11 504 0 0) - (nI 1)), μ11))
      else
      some ((-1), μ6))
    else
    some ((-1), μ6)) fun k7 =>
  if a1 = 0 then
    (if (mI μ 712 0 0) < (nI 16) then
      ((Pages_readsTape μ).bind fun (x1, μ2) =>
      if x1 = 0 then k7 μ2 else
      (some (mSI μ2 1001 0 0 (nI 0))).bind fun μ3 =>
      (some (mSI μ3 712 0 0 ((mI μ3 712 0 0) + (nI 1)))).bind fun μ4 =>
      (Kin_join ((mI μ4 712 0 0) - (nI 1)) μ4).bind fun μ5 =>
      some (((mI μ5 712 0 0) - (nI 1)), μ5))
    else
    k7 μ)
  else
  k7 μ
def B_monthsBetween_l1b (v0 : Int32) (v1 : Int32) (rec : Int32 → Int32 → Option Int32) (v2 : Int32) (v3 : Int32) : Option Int32 :=
  if (nI 12) < v3 then some v2 else
  (if v3 < v0 then some (nI 0) else
   some (nI 1)).bind fun x1 =>
  (if v1 < v3 then some (nI 0) else
   some (nI 1)).bind fun x2 =>
  (if v1 < v0 then
     (kj (fun (_ : Unit) =>
       (some (v2 ||| ((nI 1) <<< ((v3 - (nI 1)) &&& 31)))).bind fun x4 =>
       some x4) fun k3 =>
     if x1 = 0 then
       (if x2 = 0 then some v2 else
       k3 ())
     else
     k3 ())
   else
   if x1 = 0 then some v2 else
   if x2 = 0 then some v2 else
   (some (v2 ||| ((nI 1) <<< ((v3 - (nI 1)) &&& 31)))).bind fun x5 =>
   some x5).bind fun x6 =>
  (some (v3 + (nI 1))).bind fun x7 =>
  rec x6 x7
def B_monthsBetween_l1 (v0 : Int32) (v1 : Int32) : Nat → Int32 → Int32 → Option Int32
  | 0 => fun _ _ => none
  | n + 1 => B_monthsBetween_l1b v0 v1 (B_monthsBetween_l1 v0 v1 n)
def B_monthsBetween (a1 : Int32) (a2 : Int32) : Option Int32 :=
  (B_monthsBetween_l1 a1 a2 FU (nI 0) (nI 1)).bind fun x1 =>
  some x1
def Pantry_put (a1 : Int32) (a2 : Int32) (a3 : Int32) (a4 : Int32) (μ : Mem) : Option Mem :=
  (mWr μ 800 0 12 (mI μ 808 0 0) a1).bind fun μ1 =>
  (mWr μ1 801 0 12 (mI μ1 808 0 0) a2).bind fun μ2 =>
  (mWr μ2 802 0 12 (mI μ2 808 0 0) a3).bind fun μ3 =>
  (mWr μ3 803 0 12 (mI μ3 808 0 0) a4).bind fun μ4 =>
  (some (mSI μ4 808 0 0 ((mI μ4 808 0 0) + (nI 1)))).bind fun μ5 =>
  some μ5
def B_thing (a1 : Int32) (a2 : Int32) (a3 : Int32) (a4 : Int32) (a5 : Int32) (a6 : Int32) (μ : Mem) : Option (Int32 × Mem) :=
  (B_isWithin a1 (nI 0) (nI 99)).bind fun x1 =>
  if x1 = 0 then some ((-1), μ) else
  (B_isWithin a2 (nI 0) (nI 99)).bind fun x2 =>
  if x2 = 0 then some ((-1), μ) else
  (B_isWithin a3 (nI 0) (nI 99)).bind fun x3 =>
  if x3 = 0 then some ((-1), μ) else
  (B_isWithin a5 (nI 1) (nI 12)).bind fun x4 =>
  if x4 = 0 then some ((-1), μ) else
  (B_isWithin a6 (nI 1) (nI 12)).bind fun x5 =>
  if x5 = 0 then some ((-1), μ) else
  if (mI μ 808 0 0) < (nI 12) then
    ((B_monthsBetween a5 a6).bind fun x6 =>
    (Pantry_put a1 a2 a3 x6 μ).bind fun μ7 =>
    (if a4 = 0 then some μ7 else
     (some (mSI μ7 807 0 0 ((mI μ7 807 0 0) ||| ((nI 1) <<< (((mI μ7 808 0 0) - (nI 1)) &&& 31))))).bind fun μ8 =>
     some μ8).bind fun μ9 =>
    some (((mI μ9 808 0 0) - (nI 1)), μ9))
  else
  some ((-1), μ)
def B_isYear (a1 : Int32) : Option Int32 :=
  (B_isWithin a1 (nI 1200) (nI 1999)).bind fun x1 =>
  mRz x1
def Pantry_tellSize (a1 : Int32) (a2 : Int32) (a3 : Int32) (μ : Mem) : Option (Int32 × Mem) :=
  (mRd μ 804 0 12 a1).bind fun x1 =>
  if x1 < (nI 6) then
    (kj (fun (_ : Unit) =>
      (mIx a1 12).bind fun r5 =>
      (mWr μ 805 r5 6 x1 a2).bind fun μ6 =>
      (mIx a1 12).bind fun r7 =>
      (mWr μ6 806 r7 6 x1 a3).bind fun μ8 =>
      (mWr μ8 804 0 12 a1 (x1 + (nI 1))).bind fun μ9 =>
      some ((x1 + (nI 1)), μ9)) fun k4 =>
    if 0 < x1 then
      ((mIx a1 12).bind fun r2 =>
      (mRd μ 805 r2 6 (x1 - (nI 1))).bind fun x3 =>
      if x3 < a2 then k4 () else
      some ((-1), μ))
    else
    k4 ())
  else
  some ((-1), μ)
def B_sized (a1 : Int32) (a2 : Int32) (a3 : Int32) (μ : Mem) : Option (Int32 × Mem) :=
  (Pantry_has a1 μ).bind fun x1 =>
  if x1 = 0 then some ((-1), μ) else
  (B_isYear a2).bind fun x2 =>
  if x2 = 0 then some ((-1), μ) else
  (B_isWithin a3 (nI 1) (nI 999)).bind fun x3 =>
  if x3 = 0 then some ((-1), μ) else
  (Pantry_tellSize a1 a2 a3 μ).bind fun (x4, μ5) =>
  some (x4, μ5)
def Pantry_bigBetween (a1 : Int32) (a2 : Int32) (a3 : Int32) (μ : Mem) : Option Int32 :=
  (mIx a1 12).bind fun r1 =>
  (mRd μ 806 r1 6 (a2 - (nI 1))).bind fun x2 =>
  (mIx a1 12).bind fun r3 =>
  (mRd μ 805 r3 6 (a2 - (nI 1))).bind fun x4 =>
  (some (a3 - x4)).bind fun x5 =>
  (mIx a1 12).bind fun r6 =>
  (mRd μ 805 r6 6 a2).bind fun x7 =>
  (mIx a1 12).bind fun r8 =>
  (mRd μ 805 r8 6 (a2 - (nI 1))).bind fun x9 =>
  (some (x7 - x9)).bind fun x10 =>
  if 0 < x10 then
    ((mIx a1 12).bind fun r11 =>
    (mRd μ 806 r11 6 a2).bind fun x12 =>
    (mDv ((x12 - x2) * x5) x10).bind fun x13 =>
    some (x2 + x13))
  else
  some x2
def Pantry_bigIn_l1b (v1 : Int32) (v2 : Int32) (v3 : Int32) (μ : Mem) (rec : Int32 → Option Int32) (v4 : Int32) : Option Int32 :=
  if v4 < v3 then
    ((mIx v1 12).bind fun r3 =>
    (mRd μ 805 r3 6 v4).bind fun x4 =>
    if x4 < v2 then
      ((some (v4 + (nI 1))).bind fun x5 =>
      rec x5)
    else
    (Pantry_bigBetween v1 v4 v2 μ).bind fun x6 =>
    some x6)
  else
  (mIx v1 12).bind fun r1 =>
  (mRd μ 806 r1 6 (v3 - (nI 1))).bind fun x2 =>
  some x2
def Pantry_bigIn_l1 (v1 : Int32) (v2 : Int32) (v3 : Int32) (μ : Mem) : Nat → Int32 → Option Int32
  | 0 => fun _ => none
  | n + 1 => Pantry_bigIn_l1b v1 v2 v3 μ (Pantry_bigIn_l1 v1 v2 v3 μ n)
def Pantry_bigIn (a1 : Int32) (a2 : Int32) (μ : Mem) : Option Int32 :=
  (mRd μ 804 0 12 a1).bind fun x1 =>
  if x1 = 0 then some (nI 10) else
  (mIx a1 12).bind fun r2 =>
  (mRd μ 805 r2 6 (nI 0)).bind fun x3 =>
  if x3 < a2 then Pantry_bigIn_l1 a1 a2 x1 μ FU (nI 1) else
  (mIx a1 12).bind fun r4 =>
  (mRd μ 806 r4 6 (nI 0)).bind fun x5 =>
  some x5
def B_size (a1 : Int32) (a2 : Int32) (μ : Mem) : Option Int32 :=
  (Pantry_has a1 μ).bind fun x1 =>
  if x1 = 0 then some (-1) else
  (B_isYear a2).bind fun x2 =>
  if x2 = 0 then some (-1) else
  (Pantry_bigIn a1 a2 μ).bind fun x3 =>
  some x3
def Pot_tellMost (a1 : Int32) (μ : Mem) : Option Mem :=
  (some (mSI μ 903 0 0 a1)).bind fun μ1 =>
  (some (mSI μ1 908 0 0 ((mI μ1 908 0 0) + (nI 1)))).bind fun μ2 =>
  some μ2
def B_most (a1 : Int32) (μ : Mem) : Option (Int32 × Mem) :=
  (B_isWithin a1 (nI 1) (nI 20)).bind fun x1 =>
  if x1 = 0 then (mRz (nI 0)).bind fun z => some (z, μ) else
  (Pot_tellMost a1 μ).bind fun μ2 =>
  (mRz (nI 1)).bind fun z => some (z, μ2)
def Pages_has (a1 : Int32) (μ : Mem) : Option Int32 :=
  if a1 < 0 then mRz (nI 0) else
  if a1 < (mI μ 712 0 0) then mRz (nI 1) else
  mRz (nI 0)
def Laws_has (a1 : Int32) (μ : Mem) : Option Int32 :=
  if a1 < 0 then mRz (nI 0) else
  if a1 < (mI μ 504 0 0) then mRz (nI 1) else
  mRz (nI 0)
def Pot_tellHold (a1 : Int32) (a2 : Int32) (a3 : Int32) (a4 : Int32) (μ : Mem) : Option (Int32 × Mem) :=
  if (mI μ 904 0 0) < (nI 20) then
    ((mRd μ 905 0 16 a1).bind fun x1 =>
    (B_holdsBit x1 a2).bind fun x2 =>
    (if x2 = 0 then some (nI 1) else
     some (nI 0)).bind fun x3 =>
    (mIx a1 16).bind fun r4 =>
    (if x3 = 0 then
       ((mIx a1 16).bind fun r5 =>
       (mRd μ 906 r5 6 a2).bind fun x6 =>
       some (jMax x6 a3))
     else
     some a3).bind fun x7 =>
    (mWr μ 906 r4 6 a2 x7).bind fun μ8 =>
    (mIx a1 16).bind fun r9 =>
    (if x3 = 0 then
       ((mIx a1 16).bind fun r10 =>
       (mRd μ8 907 r10 6 a2).bind fun x11 =>
       some (jMin x11 a4))
     else
     some a4).bind fun x12 =>
    (mWr μ8 907 r9 6 a2 x12).bind fun μ13 =>
    (mRd μ13 905 0 16 a1).bind fun x14 =>
    (mWr μ13 905 0 16 a1 (x14 ||| ((nI 1) <<< (a2 &&& 31)))).bind fun μ15 =>
    (some (mSI μ15 904 0 0 ((mI μ15 904 0 0) + (nI 1)))).bind fun μ16 =>
    (some (mSI μ16 908 0 0 ((mI μ16 908 0 0) + (nI 1)))).bind fun μ17 =>
    some ((mI μ17 904 0 0), μ17))
  else
  some ((-1), μ)
def B_hold (a1 : Int32) (a2 : Int32) (a3 : Int32) (a4 : Int32) (μ : Mem) : Option (Int32 × Mem) :=
  (Pages_has a1 μ).bind fun x1 =>
  if x1 = 0 then some ((-1), μ) else
  (Laws_has a2 μ).bind fun x2 =>
  if x2 = 0 then some ((-1), μ) else
  if a4 < a3 then some ((-1), μ) else
  (B_isWithin a3 (-1000000) (nI 1000000)).bind fun x3 =>
  if x3 = 0 then some ((-1), μ) else
  (B_isWithin a4 (-1000000) (nI 1000000)).bind fun x4 =>
  if x4 = 0 then some ((-1), μ) else
  (Pot_tellHold a1 a2 a3 a4 μ).bind fun (x5, μ6) =>
  some (x5, μ6)
def Pot_frame_l1b (v1 : Int32) (rec : Int32 → Int32 → Mem → Option (Int32 × Mem)) (v2 : Int32) (v3 : Int32) (μ : Mem) : Option (Int32 × Mem) :=
  if v3 < 0 then some (v2, μ) else
  if (nI 5000) < v2 then some (v2, μ) else
  (mIx v1 17).bind fun r1 =>
  (mRd μ 704 r1 8 v3).bind fun x2 =>
  (if 0 < x2 then some (nI 1) else
   some (nI 0)).bind fun x3 =>
  (if x3 = 0 then some (nI 1) else
   (mIx v1 17).bind fun r4 =>
   (mRd μ 704 r4 8 v3).bind fun x5 =>
   some x5).bind fun x6 =>
  (mWr μ 914 0 8 v3 x6).bind fun μ7 =>
  (if x3 = 0 then some (mI μ7 903 0 0) else
   (mIx v1 17).bind fun r8 =>
   (mRd μ7 705 r8 8 v3).bind fun x9 =>
   (mRd μ7 914 0 8 v3).bind fun x10 =>
   some ((x9 - x10) + (nI 1))).bind fun x11 =>
  (mWr μ7 915 0 8 v3 x11).bind fun μ12 =>
  (mWr μ12 916 0 8 v3 v2).bind fun μ13 =>
  (mRd μ13 915 0 8 v3).bind fun x14 =>
  (some (v2 * x14)).bind fun x15 =>
  (some (v3 + (-1))).bind fun x16 =>
  rec x15 x16 μ13
def Pot_frame_l1 (v1 : Int32) : Nat → Int32 → Int32 → Mem → Option (Int32 × Mem)
  | 0 => fun _ _ _ => none
  | n + 1 => Pot_frame_l1b v1 (Pot_frame_l1 v1 n)
def Pot_frame_l2b (v1 : Int32) (v2 : Int32) (rec : Int32 → Mem → Option Mem) (v3 : Int32) (μ : Mem) : Option Mem :=
  if v3 < (nI 4) then
    ((mIx v1 17).bind fun r1 =>
    (mRd μ 710 r1 4 v3).bind fun x2 =>
    (mWr μ 918 0 9 ((nI 4) + v3) x2).bind fun μ3 =>
    (some (v3 + (nI 1))).bind fun x4 =>
    rec x4 μ3)
  else
  some μ
def Pot_frame_l2 (v1 : Int32) (v2 : Int32) : Nat → Int32 → Mem → Option Mem
  | 0 => fun _ _ => none
  | n + 1 => Pot_frame_l2b v1 v2 (Pot_frame_l2 v1 v2 n)
def Pot_frame (a1 : Int32) (μ : Mem) : Option (Int32 × Mem) :=
  (mRd μ 702 0 17 a1).bind fun x1 =>
  (some (x1 - (nI 1))).bind fun x2 =>
  (Pot_frame_l1 a1 FU (nI 1) x2 μ).bind fun (x3, μ4) =>
  (Pot_frame_l2 a1 x3 FU (nI 0) μ4).bind fun μ5 =>
  (mRd μ5 706 0 17 a1).bind fun x6 =>
  if (x6 &&& (mI μ5 807 0 0)) = 0 then
    ((mWr μ5 918 0 9 (nI 8) (nI 0)).bind fun μ7 =>
    some (x3, μ7))
  else
  (mWr μ5 918 0 9 (nI 8) (nI 1)).bind fun μ8 =>
  some (x3, μ8)
def Pot_partsIn (a1 : Int32) (a2 : Int32) (μ : Mem) : Option Int32 :=
  (mRd μ 916 0 8 a2).bind fun x1 =>
  (if 0 < x1 then
     ((mRd μ 915 0 8 a2).bind fun x2 =>
     if 0 < x2 then some (nI 1) else
     some (nI 0))
   else
   some (nI 0)).bind fun x3 =>
  if x3 = 0 then
    ((mRd μ 914 0 8 a2).bind fun x4 =>
    some x4)
  else
  (mRd μ 914 0 8 a2).bind fun x5 =>
  (mRd μ 916 0 8 a2).bind fun x6 =>
  (mDv a1 x6).bind fun x7 =>
  (mRd μ 915 0 8 a2).bind fun x8 =>
  (mRm x7 x8).bind fun x9 =>
  some (x5 + x9)
def Pot_spread_l1b (v1 : Int32) (rec : Int32 → Int32 → Int32 → Int32 → Int32 → Mem → Option (Int32 × Int32 × Int32 × Int32 × Mem)) (v2 : Int32) (v3 : Int32) (v4 : Int32) (v5 : Int32) (v6 : Int32) (μ : Mem) : Option (Int32 × Int32 × Int32 × Int32 × Mem) :=
  (mRd μ 702 0 17 (mI μ 912 0 0)).bind fun x1 =>
  if v6 < x1 then
    ((mIx (mI μ 912 0 0) 17).bind fun r2 =>
    (mRd μ 703 r2 8 v6).bind fun x3 =>
    (Pot_partsIn v1 v6 μ).bind fun x4 =>
    (mWr μ 917 0 8 v6 x4).bind fun μ5 =>
    (mRd μ5 800 0 12 x3).bind fun x6 =>
    (some (v2 + (x4 * x6))).bind fun x7 =>
    (mRd μ5 801 0 12 x3).bind fun x8 =>
    (some (v3 + (x4 * x8))).bind fun x9 =>
    (mRd μ5 802 0 12 x3).bind fun x10 =>
    (some (v4 + (x4 * x10))).bind fun x11 =>
    (some (v5 + x4)).bind fun x12 =>
    (some (v6 + (nI 1))).bind fun x13 =>
    rec x7 x9 x11 x12 x13 μ5)
  else
  some (v2, v3, v4, v5, μ)
def Pot_spread_l1 (v1 : Int32) : Nat → Int32 → Int32 → Int32 → Int32 → Int32 → Mem → Option (Int32 × Int32 × Int32 × Int32 × Mem)
  | 0 => fun _ _ _ _ _ _ => none
  | n + 1 => Pot_spread_l1b v1 (Pot_spread_l1 v1 n)
def Pot_spread (a1 : Int32) (μ : Mem) : Option Mem :=
  (Pot_spread_l1 a1 FU (nI 0) (nI 0) (nI 0) (nI 0) (nI 0) μ).bind fun (x1, x2, x3, x4, μ5) =>
  (mWr μ5 918 0 9 (nI 0) x1).bind fun μ6 =>
  (mWr μ6 918 0 9 (nI 1) x2).bind fun μ7 =>
  (mWr μ7 918 0 9 (nI 2) x3).bind fun μ8 =>
  (mWr μ8 918 0 9 (nI 3) x4).bind fun μ9 =>
  some μ9
def Laws_push (a1 : Int32) (μ : Mem) : Option Mem :=
  if (mI μ 503 0 0) < (nI 64) then
    ((mWr μ 502 0 64 (mI μ 503 0 0) a1).bind fun μ1 =>
    (some (mSI μ1 503 0 0 ((mI μ1 503 0 0) + (nI 1)))).bind fun μ2 =>
    some μ2)
  else
  some μ
def Laws_pop (μ : Mem) : Option (Int32 × Mem) :=
  if 0 < (mI μ 503 0 0) then
    ((some (mSI μ 503 0 0 ((mI μ 503 0 0) - (nI 1)))).bind fun μ1 =>
    (mRd μ1 502 0 64 (mI μ1 503 0 0)).bind fun x2 =>
    some (x2, μ1))
  else
  some ((nI 0), μ)
def Laws_joined (a1 : Int32) (a2 : Int64) (a3 : Int64) : Option Int64 :=
  if a1 = (nI 10100) then
    (some (a2 + a3))
  else if a1 = (nI 10101) then
    (some (a2 - a3))
  else if a1 = (nI 10102) then
    (some (a2 * a3))
  else if a1 = (nI 10103) then
    (if (lg_cmp a3 0) = 0 then some 0 else
    (mDl a2 a3).bind fun x1 =>
    some x1)
  else if a1 = (nI 10104) then
    (if (lg_cmp a2 a3) = 0 then some 1 else
    some 0)
  else if a1 = (nI 10105) then
    (if (lg_cmp a2 a3) < 0 then some 1 else
    some 0)
  else if a1 = (nI 10106) then
    (if 0 < (lg_cmp a2 a3) then some 1 else
    some 0)
  else if a1 = (nI 10107) then
    (some (a2 &&& a3))
  else 
  some (a2 ||| a3)
def Laws_bounded (a1 : Int64) : Option Int32 :=
  if 0 < (lg_cmp a1 1000000) then some (nI 1000000) else
  if (lg_cmp a1 (-1000000)) < 0 then some (-1000000) else
  some (a1.toInt32)
def Laws_valueOf_l1b (v1 : Int32) (v3 : Int32) (rec : Int32 → Int32 → Mem → Option (Int32 × Mem)) (v4 : Int32) (v5 : Int32) (μ : Mem) : Option (Int32 × Mem) :=
  if v5 < v3 then
    (if v4 < v3 then
      ((mIx v1 7).bind fun r1 =>
      (mRd μ 500 r1 120 v4).bind fun x2 =>
      (some (v4 + (nI 1))).bind fun x3 =>
      if x2 < (nI 10000) then
        ((Laws_push x2 μ).bind fun μ28 =>
        (some (v5 + (nI 1))).bind fun x29 =>
        rec x3 x29 μ28)
      else
      if x2 < (nI 10100) then
        ((if (x2 - (nI 10000)) < (nI 9) then
           ((mRd μ 918 0 9 (x2 - (nI 10000))).bind fun x24 =>
           some x24)
         else
         some (nI 0)).bind fun x25 =>
        (Laws_push x25 μ).bind fun μ26 =>
        (some (v5 + (nI 1))).bind fun x27 =>
        rec x3 x27 μ26)
      else
      if x2 = (nI 10110) then
        ((Laws_pop μ).bind fun (x18, μ19) =>
        (if x18 = 0 then
           (if x3 < v3 then
             ((mIx v1 7).bind fun r20 =>
             (mRd μ19 500 r20 120 x3).bind fun x21 =>
             some x21)
           else
           some (x3 + (nI 1)))
         else
         some (x3 + (nI 1))).bind fun x22 =>
        (some (v5 + (nI 1))).bind fun x23 =>
        rec x22 x23 μ19)
      else
      if x2 = (nI 10111) then
        ((Laws_pop μ).bind fun (x16, μ17) =>
        some (x16, μ17))
      else
      (if x2 = (nI 10109) then
         ((Laws_pop μ).bind fun (x11, μ12) =>
         (Laws_push ((nI 1) - x11) μ12).bind fun μ13 =>
         some μ13)
       else
       (Laws_pop μ).bind fun (x4, μ5) =>
       (Laws_pop μ5).bind fun (x6, μ7) =>
       (Laws_joined x2 (x6.toInt64) (x4.toInt64)).bind fun x8 =>
       (Laws_bounded x8).bind fun x9 =>
       (Laws_push x9 μ7).bind fun μ10 =>
       some μ10).bind fun μ14 =>
      (some (v5 + (nI 1))).bind fun x15 =>
      rec x3 x15 μ14)
    else
    some ((nI 0), μ))
  else
  some ((nI 0), μ)
def Laws_valueOf_l1 (v1 : Int32) (v3 : Int32) : Nat → Int32 → Int32 → Mem → Option (Int32 × Mem)
  | 0 => fun _ _ _ => none
  | n + 1 => Laws_valueOf_l1b v1 v3 (Laws_valueOf_l1 v1 v3 n)
def Laws_valueOf (a1 : Int32) (μ : Mem) : Option (Int32 × Mem) :=
  (mRd μ 501 0 7 a1).bind fun x1 =>
  (some (mSI μ 503 0 0 (nI 0))).bind fun μ2 =>
  Laws_valueOf_l1 a1 x1 FU (nI 0) (nI 0) μ2
def Pot_keepsHolds_l1b (v1 : Int32) (rec : Int32 → Mem → Option (Int32 × Mem)) (v2 : Int32) (μ : Mem) : Option (Int32 × Mem) :=
  if v2 < (mI μ 504 0 0) then
    ((mRd μ 905 0 16 v1).bind fun x1 =>
    (B_holdsBit x1 v2).bind fun x2 =>
    if x2 = 0 then
      ((some (v2 + (nI 1))).bind fun x3 =>
      rec x3 μ)
    else
    (Laws_valueOf v2 μ).bind fun (x4, μ5) =>
    (mIx v1 16).bind fun r6 =>
    (mRd μ5 906 r6 6 v2).bind fun x7 =>
    if x4 < x7 then (mRz (nI 0)).bind fun z => some (z, μ5) else
    (mIx v1 16).bind fun r8 =>
    (mRd μ5 907 r8 6 v2).bind fun x9 =>
    if x9 < x4 then (mRz (nI 0)).bind fun z => some (z, μ5) else
    (some (v2 + (nI 1))).bind fun x10 =>
    rec x10 μ5)
  else
  (mRz (nI 1)).bind fun z => some (z, μ)
def Pot_keepsHolds_l1 (v1 : Int32) : Nat → Int32 → Mem → Option (Int32 × Mem)
  | 0 => fun _ _ => none
  | n + 1 => Pot_keepsHolds_l1b v1 (Pot_keepsHolds_l1 v1 n)
def Pot_keepsHolds (a1 : Int32) (μ : Mem) : Option (Int32 × Mem) :=
  Pot_keepsHolds_l1 a1 FU (nI 0) μ
def Pot_keep (a1 : Int32) (a2 : Int32) (μ : Mem) : Option Mem :=
  (mRd μ 910 0 16 a1).bind fun x1 =>
  (if x1 = 0 then
     ((mIx a1 16).bind fun r2 =>
     (some (mCP μ 917 0 911 r2 8)).bind fun μ3 =>
     some μ3)
   else
   some μ).bind fun μ4 =>
  (mWr μ4 913 0 5000 x1 a2).bind fun μ5 =>
  (mWr μ5 910 0 16 a1 (x1 + (nI 1))).bind fun μ6 =>
  some μ6
def Pot_lay_l1b (v1 : Int32) (v2 : Int32) (rec : Int32 → Mem → Option Mem) (v3 : Int32) (μ : Mem) : Option Mem :=
  if v3 < v2 then
    (if (nI 5000) < v2 then some μ else
    (Pot_spread v3 μ).bind fun μ1 =>
    (Pot_keepsHolds v1 μ1).bind fun (x2, μ3) =>
    (if x2 = 0 then some μ3 else
     (Pot_keep v1 v3 μ3).bind fun μ4 =>
     some μ4).bind fun μ5 =>
    (some (v3 + (nI 1))).bind fun x6 =>
    rec x6 μ5)
  else
  some μ
def Pot_lay_l1 (v1 : Int32) (v2 : Int32) : Nat → Int32 → Mem → Option Mem
  | 0 => fun _ _ => none
  | n + 1 => Pot_lay_l1b v1 v2 (Pot_lay_l1 v1 v2 n)
def Pot_lay (a1 : Int32) (μ : Mem) : Option (Int32 × Mem) :=
  kj (fun (_ : Unit) =>
    (some (mSI μ 912 0 0 a1)).bind fun μ4 =>
    (mWr μ4 909 0 16 a1 (mI μ4 908 0 0)).bind fun μ5 =>
    (Pot_frame a1 μ5).bind fun (x6, μ7) =>
    (if (nI 5000) < x6 then some ((-1) : Int32) else
     some (nI 0)).bind fun x8 =>
    (mWr μ7 910 0 16 a1 x8).bind fun μ9 =>
    (Pot_lay_l1 a1 x6 FU (nI 0) μ9).bind fun μ10 =>
    (mRd μ10 910 0 16 a1).bind fun x11 =>
    some (x11, μ10)) fun k3 =>
  if (mI μ 912 0 0) = a1 then
    ((mRd μ 909 0 16 a1).bind fun x1 =>
    if x1 = (mI μ 908 0 0) then
      ((mRd μ 910 0 16 a1).bind fun x2 =>
      some (x2, μ))
    else
    k3 ())
  else
  k3 ()
def B_laid (a1 : Int32) (μ : Mem) : Option (Int32 × Mem) :=
  (Pages_has a1 μ).bind fun x1 =>
  if x1 = 0 then some ((-1), μ) else
  (Pot_lay a1 μ).bind fun (x2, μ3) =>
  some (x2, μ3)
def B_dishes (a1 : Int32) (μ : Mem) : Option (Int32 × Mem) :=
  (B_laid a1 μ).bind fun (x1, μ2) =>
  some (x1, μ2)
def Pot_show (a1 : Int32) (μ : Mem) : Option Mem :=
  if a1 < 0 then some μ else
  if a1 < (nI 5000) then
    ((mRd μ 913 0 5000 a1).bind fun x1 =>
    (Pot_spread x1 μ).bind fun μ2 =>
    some μ2)
  else
  some μ
def B_shows (a1 : Int32) (a2 : Int32) (μ : Mem) : Option (Int32 × Mem) :=
  if a2 < 0 then (mRz (nI 0)).bind fun z => some (z, μ) else
  (B_laid a1 μ).bind fun (x1, μ2) =>
  if a2 < x1 then
    ((Pot_show a2 μ2).bind fun μ3 =>
    (mRz (nI 1)).bind fun z => some (z, μ3))
  else
  (mRz (nI 0)).bind fun z => some (z, μ2)
def Pages_placeOf_l1b (v1 : Int32) (v2 : Int32) (μ : Mem) (rec : Int32 → Option Int32) (v3 : Int32) : Option Int32 :=
  (mRd μ 702 0 17 v1).bind fun x1 =>
  if v3 < x1 then
    ((mIx v1 17).bind fun r2 =>
    (mRd μ 703 r2 8 v3).bind fun x3 =>
    if x3 = v2 then some v3 else
    (some (v3 + (nI 1))).bind fun x4 =>
    rec x4)
  else
  some (-1)
def Pages_placeOf_l1 (v1 : Int32) (v2 : Int32) (μ : Mem) : Nat → Int32 → Option Int32
  | 0 => fun _ => none
  | n + 1 => Pages_placeOf_l1b v1 v2 μ (Pages_placeOf_l1 v1 v2 μ n)
def Pages_placeOf (a1 : Int32) (a2 : Int32) (μ : Mem) : Option Int32 :=
  Pages_placeOf_l1 a1 a2 μ FU (nI 0)
def Pot_partsOf (a1 : Int32) (μ : Mem) : Option Int32 :=
  (if (mI μ 912 0 0) = (-1) then some ((-1) : Int32) else
   (Pages_placeOf (mI μ 912 0 0) a1 μ).bind fun x1 =>
   some x1).bind fun x2 =>
  if x2 = (-1) then some (nI 0) else
  (mRd μ 917 0 8 x2).bind fun x3 =>
  some x3
def B_dish (a1 : Int32) (a2 : Int32) (a3 : Int32) (μ : Mem) : Option (Int32 × Mem) :=
  (Pantry_has a3 μ).bind fun x1 =>
  if x1 = 0 then some ((-1), μ) else
  (B_shows a1 a2 μ).bind fun (x2, μ3) =>
  if x2 = 0 then some ((-1), μ3) else
  (Pot_partsOf a3 μ3).bind fun x4 =>
  some (x4, μ3)
def Pot_partsAt (a1 : Int32) (a2 : Int32) (μ : Mem) : Option Int32 :=
  if a1 < 0 then some (nI 0) else
  if a1 < (nI 5000) then
    ((mRd μ 913 0 5000 a1).bind fun x1 =>
    (Pot_partsIn x1 a2 μ).bind fun x2 =>
    some x2)
  else
  some (nI 0)
def Pot_shownCount (μ : Mem) : Option Int32 :=
  if (mI μ 912 0 0) = (-1) then some (nI 0) else
  (mRd μ 910 0 16 (mI μ 912 0 0)).bind fun x1 =>
  some x1
def Taster_further (a1 : Int32) (a2 : Int32) (a3 : Int32) : Option Int32 :=
  if a3 = 0 then some (jMin a1 a2) else
  some (jMax a1 a2)
def Taster_edge_l1b (v1 : Int32) (v2 : Int32) (μ : Mem) (rec : Int32 → Int32 → Option Int32) (v3 : Int32) (v4 : Int32) : Option Int32 :=
  (Pot_shownCount μ).bind fun x1 =>
  if v4 < x1 then
    ((Pot_partsAt v4 v1 μ).bind fun x2 =>
    (Taster_further v3 x2 v2).bind fun x3 =>
    (some (v4 + (nI 1))).bind fun x4 =>
    rec x3 x4)
  else
  some v3
def Taster_edge_l1 (v1 : Int32) (v2 : Int32) (μ : Mem) : Nat → Int32 → Int32 → Option Int32
  | 0 => fun _ _ => none
  | n + 1 => Taster_edge_l1b v1 v2 μ (Taster_edge_l1 v1 v2 μ n)
def Taster_edge (a1 : Int32) (a2 : Int32) (μ : Mem) : Option Int32 :=
  (Pot_partsAt (nI 0) a1 μ).bind fun x1 =>
  (Taster_edge_l1 a1 a2 μ FU x1 (nI 1)).bind fun x2 =>
  some x2
def B_span (a1 : Int32) (a2 : Int32) (a3 : Int32) (μ : Mem) : Option (Int32 × Mem) :=
  (B_isWithin a3 (nI 0) (nI 1)).bind fun x1 =>
  if x1 = 0 then some ((-1), μ) else
  (Pages_has a1 μ).bind fun x2 =>
  if x2 = 0 then some ((-1), μ) else
  (Pages_placeOf a1 a2 μ).bind fun x3 =>
  if x3 = (-1) then some ((-1), μ) else
  (B_laid a1 μ).bind fun (x4, μ5) =>
  if 0 < x4 then
    ((Pages_placeOf a1 a2 μ5).bind fun x6 =>
    (Taster_edge x6 a3 μ5).bind fun x7 =>
    some (x7, μ5))
  else
  some ((-1), μ5)
def Taster_sameInAll_l1b (v1 : Int32) (μ : Mem) (rec : Int32 → Int32 → Option Int32) (v2 : Int32) (v3 : Int32) : Option Int32 :=
  (mRd μ 702 0 17 v1).bind fun x1 =>
  if v3 < x1 then
    ((Taster_edge v3 (nI 0) μ).bind fun x2 =>
    (Taster_edge v3 (nI 1) μ).bind fun x3 =>
    (if x2 = x3 then
       ((mIx v1 17).bind fun r4 =>
       (mRd μ 703 r4 8 v3).bind fun x5 =>
       (some (v2 ||| ((nI 1) <<< (x5 &&& 31)))).bind fun x6 =>
       some x6)
     else
     some v2).bind fun x7 =>
    (some (v3 + (nI 1))).bind fun x8 =>
    rec x7 x8)
  else
  some v2
def Taster_sameInAll_l1 (v1 : Int32) (μ : Mem) : Nat → Int32 → Int32 → Option Int32
  | 0 => fun _ _ => none
  | n + 1 => Taster_sameInAll_l1b v1 μ (Taster_sameInAll_l1 v1 μ n)
def Taster_sameInAll (a1 : Int32) (μ : Mem) : Option Int32 :=
  (Taster_sameInAll_l1 a1 μ FU (nI 0) (nI 0)).bind fun x1 =>
  some x1
def B_shared (a1 : Int32) (μ : Mem) : Option (Int32 × Mem) :=
  (B_laid a1 μ).bind fun (x1, μ2) =>
  if 0 < x1 then
    ((Taster_sameInAll a1 μ2).bind fun x3 =>
    some (x3, μ2))
  else
  some ((-1), μ2)
def B_worth (a1 : Int32) (a2 : Int32) (a3 : Int32) (μ : Mem) : Option (Int32 × Mem) :=
  (Laws_has a3 μ).bind fun x1 =>
  if x1 = 0 then some ((-10000000), μ) else
  (B_shows a1 a2 μ).bind fun (x2, μ3) =>
  if x2 = 0 then some ((-10000000), μ3) else
  (Laws_valueOf a3 μ3).bind fun (x4, μ5) =>
  some (x4, μ5)
def Taster_worthEdge_l1b (v1 : Int32) (v2 : Int32) (rec : Int32 → Int32 → Mem → Option (Int32 × Mem)) (v3 : Int32) (v4 : Int32) (μ : Mem) : Option (Int32 × Mem) :=
  (Pot_shownCount μ).bind fun x1 =>
  if v4 < x1 then
    ((Pot_show v4 μ).bind fun μ2 =>
    (Laws_valueOf v1 μ2).bind fun (x3, μ4) =>
    (Taster_further v3 x3 v2).bind fun x5 =>
    (some (v4 + (nI 1))).bind fun x6 =>
    rec x5 x6 μ4)
  else
  some (v3, μ)
def Taster_worthEdge_l1 (v1 : Int32) (v2 : Int32) : Nat → Int32 → Int32 → Mem → Option (Int32 × Mem)
  | 0 => fun _ _ _ => none
  | n + 1 => Taster_worthEdge_l1b v1 v2 (Taster_worthEdge_l1 v1 v2 n)
def Taster_worthEdge (a1 : Int32) (a2 : Int32) (μ : Mem) : Option (Int32 × Mem) :=
  (Pot_show (nI 0) μ).bind fun μ1 =>
  (Laws_valueOf a1 μ1).bind fun (x2, μ3) =>
  (Taster_worthEdge_l1 a1 a2 FU x2 (nI 1) μ3).bind fun (x4, μ5) =>
  some (x4, μ5)
def B_range (a1 : Int32) (a2 : Int32) (a3 : Int32) (μ : Mem) : Option (Int32 × Mem) :=
  (Laws_has a2 μ).bind fun x1 =>
  if x1 = 0 then some ((-10000000), μ) else
  (B_isWithin a3 (nI 0) (nI 1)).bind fun x2 =>
  if x2 = 0 then some ((-10000000), μ) else
  (B_laid a1 μ).bind fun (x3, μ4) =>
  if 0 < x3 then
    ((Taster_worthEdge a2 a3 μ4).bind fun (x5, μ6) =>
    some (x5, μ6))
  else
  some ((-10000000), μ4)
def Taster_mostAlike_l1b (v1 : Int32) (rec : Int32 → Mem → Option Mem) (v2 : Int32) (μ : Mem) : Option Mem :=
  if (nI 99) < v2 then some μ else
  (mWr μ 1104 0 100 v2 (nI 0)).bind fun μ1 =>
  (some (v2 + (nI 1))).bind fun x2 =>
  rec x2 μ1
def Taster_mostAlike_l1 (v1 : Int32) : Nat → Int32 → Mem → Option Mem
  | 0 => fun _ _ => none
  | n + 1 => Taster_mostAlike_l1b v1 (Taster_mostAlike_l1 v1 n)
def Taster_mostAlike_l2b (v1 : Int32) (rec : Int32 → Int32 → Mem → Option (Int32 × Mem)) (v2 : Int32) (v3 : Int32) (μ : Mem) : Option (Int32 × Mem) :=
  (Pot_shownCount μ).bind fun x1 =>
  if v3 < x1 then
    ((Pot_partsAt v3 v1 μ).bind fun x2 =>
    (B_isWithin x2 (nI 0) (nI 99)).bind fun x3 =>
    (if x3 = 0 then some (v2, μ) else
     (mRd μ 1104 0 100 x2).bind fun x4 =>
     (mWr μ 1104 0 100 x2 (x4 + (nI 1))).bind fun μ5 =>
     (mRd μ5 1104 0 100 x2).bind fun x6 =>
     (some (jMax v2 x6)).bind fun x7 =>
     some (x7, μ5)).bind fun (x8, μ9) =>
    (some (v3 + (nI 1))).bind fun x10 =>
    rec x8 x10 μ9)
  else
  some (v2, μ)
def Taster_mostAlike_l2 (v1 : Int32) : Nat → Int32 → Int32 → Mem → Option (Int32 × Mem)
  | 0 => fun _ _ _ => none
  | n + 1 => Taster_mostAlike_l2b v1 (Taster_mostAlike_l2 v1 n)
def Taster_mostAlike (a1 : Int32) (μ : Mem) : Option (Int32 × Mem) :=
  (Taster_mostAlike_l1 a1 FU (nI 0) μ).bind fun μ1 =>
  (Taster_mostAlike_l2 a1 FU (nI 0) (nI 0) μ1).bind fun (x2, μ3) =>
  some (x2, μ3)
def Taster_mostTelling_l1b (v1 : Int32) (rec : Int32 → Int32 → Int32 → Mem → Option (Int32 × Mem)) (v2 : Int32) (v3 : Int32) (v4 : Int32) (μ : Mem) : Option (Int32 × Mem) :=
  (mRd μ 702 0 17 v1).bind fun x1 =>
  if v4 < x1 then
    ((Taster_mostAlike v4 μ).bind fun (x2, μ3) =>
    (if x2 < v3 then
       ((mIx v1 17).bind fun r4 =>
       (mRd μ3 703 r4 8 v4).bind fun x5 =>
       some (x5, x2))
     else
     some (v2, v3)).bind fun (x6, x7) =>
    (some (v4 + (nI 1))).bind fun x8 =>
    rec x6 x7 x8 μ3)
  else
  some (v2, μ)
def Taster_mostTelling_l1 (v1 : Int32) : Nat → Int32 → Int32 → Int32 → Mem → Option (Int32 × Mem)
  | 0 => fun _ _ _ _ => none
  | n + 1 => Taster_mostTelling_l1b v1 (Taster_mostTelling_l1 v1 n)
def Taster_mostTelling (a1 : Int32) (μ : Mem) : Option (Int32 × Mem) :=
  (Taster_mostTelling_l1 a1 FU (-1) (nI 5001) (nI 0) μ).bind fun (x1, μ2) =>
  some (x1, μ2)
def B_weigh (a1 : Int32) (μ : Mem) : Option (Int32 × Mem) :=
  (B_laid a1 μ).bind fun (x1, μ2) =>
  if 0 < x1 then
    ((Taster_mostTelling a1 μ2).bind fun (x3, μ4) =>
    some (x3, μ4))
  else
  some ((-1), μ2)
def Laws_tellTrial (a1 : Int32) (a2 : Int32) (a3 : Int32) (μ : Mem) : Option Mem :=
  (if a3 = 0 then
     ((mRd μ 506 0 6 a1).bind fun x1 =>
     (mWr μ 506 0 6 a1 (jMax x1 a2)).bind fun μ2 =>
     some μ2)
   else
   (mRd μ 505 0 6 a1).bind fun x3 =>
   (mWr μ 505 0 6 a1 (jMin x3 a2)).bind fun μ4 =>
   some μ4).bind fun μ5 =>
  (some (mSI μ5 507 0 0 ((mI μ5 507 0 0) + (nI 1)))).bind fun μ6 =>
  some μ6
def B_trial (a1 : Int32) (a2 : Int32) (a3 : Int32) (μ : Mem) : Option (Int32 × Mem) :=
  (Laws_has a1 μ).bind fun x1 =>
  if x1 = 0 then some ((-1), μ) else
  (B_isWithin a2 (-9999) (nI 9999)).bind fun x2 =>
  if x2 = 0 then some ((-1), μ) else
  if (mI μ 507 0 0) < (nI 20) then
    ((Laws_tellTrial a1 a2 a3 μ).bind fun μ3 =>
    some ((mI μ3 507 0 0), μ3))
  else
  some ((-1), μ)
def Laws_verdict (a1 : Int32) (a2 : Int32) (μ : Mem) : Option Int32 :=
  (mRd μ 505 0 6 a1).bind fun x1 =>
  (if a2 < x1 then some (nI 0) else
   some (nI 1)).bind fun x2 =>
  (mRd μ 506 0 6 a1).bind fun x3 =>
  (if x3 < a2 then some (nI 0) else
   some (nI 1)).bind fun x4 =>
  if x2 = x4 then some (-1) else
  if x2 = 0 then some (nI 0) else
  some (nI 1)
def B_stands (a1 : Int32) (a2 : Int32) (a3 : Int32) (μ : Mem) : Option (Int32 × Mem) :=
  (Laws_has a3 μ).bind fun x1 =>
  if x1 = 0 then some ((-1), μ) else
  (B_shows a1 a2 μ).bind fun (x2, μ3) =>
  if x2 = 0 then some ((-1), μ3) else
  (Laws_valueOf a3 μ3).bind fun (x4, μ5) =>
  (Laws_verdict a3 x4 μ5).bind fun x6 =>
  some (x6, μ5)
def Taster_judged_l1b (v1 : Int32) (v2 : Int32) (rec : Int32 → Int32 → Mem → Option (Int32 × Mem)) (v3 : Int32) (v4 : Int32) (μ : Mem) : Option (Int32 × Mem) :=
  (Pot_shownCount μ).bind fun x1 =>
  if v4 < x1 then
    ((Pot_show v4 μ).bind fun μ2 =>
    (Laws_valueOf v1 μ2).bind fun (x3, μ4) =>
    (Laws_verdict v1 x3 μ4).bind fun x5 =>
    (if x5 = v2 then
       ((some (v3 + (nI 1))).bind fun x6 =>
       some x6)
     else
     some v3).bind fun x7 =>
    (some (v4 + (nI 1))).bind fun x8 =>
    rec x7 x8 μ4)
  else
  some (v3, μ)
def Taster_judged_l1 (v1 : Int32) (v2 : Int32) : Nat → Int32 → Int32 → Mem → Option (Int32 × Mem)
  | 0 => fun _ _ _ => none
  | n + 1 => Taster_judged_l1b v1 v2 (Taster_judged_l1 v1 v2 n)
def Taster_judged (a1 : Int32) (a2 : Int32) (μ : Mem) : Option (Int32 × Mem) :=
  (Taster_judged_l1 a1 a2 FU (nI 0) (nI 0) μ).bind fun (x1, μ2) =>
  some (x1, μ2)
def B_stand (a1 : Int32) (a2 : Int32) (a3 : Int32) (μ : Mem) : Option (Int32 × Mem) :=
  (Laws_has a2 μ).bind fun x1 =>
  if x1 = 0 then some ((-1), μ) else
  (B_isWithin a3 (nI 0) (nI 1)).bind fun x2 =>
  if x2 = 0 then some ((-1), μ) else
  (B_laid a1 μ).bind fun (x3, μ4) =>
  if x3 < 0 then some ((-1), μ4) else
  (Taster_judged a2 a3 μ4).bind fun (x5, μ6) =>
  some (x5, μ6)
def Copies_has (a1 : Int32) (μ : Mem) : Option Int32 :=
  if a1 < 0 then mRz (nI 0) else
  if a1 < (mI μ 206 0 0) then mRz (nI 1) else
  mRz (nI 0)
def Copies_put (a1 : Int32) (μ : Mem) : Option (Int32 × Mem) :=
  (mWr μ 200 0 12 (mI μ 206 0 0) a1).bind fun μ1 =>
  (mWr μ1 201 0 12 (mI μ1 206 0 0) (-1)).bind fun μ2 =>
  (some (mSI μ2 206 0 0 ((mI μ2 206 0 0) + (nI 1)))).bind fun μ3 =>
  some (((mI μ3 206 0 0) - (nI 1)), μ3)
def B_book (a1 : Int32) (μ : Mem) : Option (Int32 × Mem) :=
  kj (fun (_ : Unit) =>
    if (mI μ 206 0 0) < (nI 12) then
      ((Copies_put a1 μ).bind fun (x3, μ4) =>
      some (x3, μ4))
    else
    some ((-1), μ)) fun k2 =>
  if a1 = (-1) then k2 () else
  (Copies_has a1 μ).bind fun x1 =>
  if x1 = 0 then some ((-1), μ) else
  k2 ()
def B_isWord (a1 : Int32) : Option Int32 :=
  (B_isWithin a1 (nI 0) (nI 7)).bind fun x1 =>
  mRz x1
def B_slip (a1 : Int32) (a2 : Int32) (a3 : Int32) (μ : Mem) : Option (Int32 × Mem) :=
  (B_isWord a1).bind fun x1 =>
  if x1 = 0 then (mRz (nI 0)).bind fun z => some (z, μ) else
  (B_isWord a2).bind fun x2 =>
  if x2 = 0 then (mRz (nI 0)).bind fun z => some (z, μ) else
  if a1 = a2 then (mRz (nI 0)).bind fun z => some (z, μ) else
  (B_isWithin a3 (nI 0) (nI 99)).bind fun x3 =>
  if x3 = 0 then (mRz (nI 0)).bind fun z => some (z, μ) else
  (mIx a1 8).bind fun r4 =>
  (mWr μ 202 r4 8 a2 a3).bind fun μ5 =>
  (mRz (nI 1)).bind fun z => some (z, μ5)
def B_reads (a1 : Int32) (a2 : Int32) (μ : Mem) : Option (Int32 × Mem) :=
  (Copies_has a1 μ).bind fun x1 =>
  if x1 = 0 then (mRz (nI 0)).bind fun z => some (z, μ) else
  kj (fun (_ : Unit) =>
    (mWr μ 201 0 12 a1 a2).bind fun μ4 =>
    (mRz (nI 1)).bind fun z => some (z, μ4)) fun k3 =>
  if a2 = (-1) then k3 () else
  (B_isWord a2).bind fun x2 =>
  if x2 = 0 then (mRz (nI 0)).bind fun z => some (z, μ) else
  k3 ()
def Copies_canRead (a1 : Int32) (a2 : Int32) (μ : Mem) : Option Int32 :=
  (mRd μ 201 0 12 a1).bind fun x1 =>
  if x1 = (-1) then mRz (nI 1) else
  (mRd μ 201 0 12 a1).bind fun x2 =>
  if x2 = a2 then mRz (nI 1) else
  mRz (nI 0)
def Copies_leastBelow_l1b (v1 : Int32) (v2 : Int32) (μ : Mem) (rec : Int32 → Int32 → Option Int32) (v3 : Int32) (v4 : Int32) : Option Int32 :=
  if v4 < (nI 8) then
    ((Copies_canRead v1 v4 μ).bind fun x1 =>
    (if x1 = 0 then some v3 else
     (mIx v2 8).bind fun r2 =>
     (mRd μ 202 r2 8 v4).bind fun x3 =>
     (mIx (v1 + (nI 1)) 13).bind fun r4 =>
     (mRd μ 203 r4 8 v4).bind fun x5 =>
     (some (jMin v3 (x3 + x5))).bind fun x6 =>
     some x6).bind fun x7 =>
    (some (v4 + (nI 1))).bind fun x8 =>
    rec x7 x8)
  else
  some v3
def Copies_leastBelow_l1 (v1 : Int32) (v2 : Int32) (μ : Mem) : Nat → Int32 → Int32 → Option Int32
  | 0 => fun _ _ => none
  | n + 1 => Copies_leastBelow_l1b v1 v2 μ (Copies_leastBelow_l1 v1 v2 μ n)
def Copies_leastBelow (a1 : Int32) (a2 : Int32) (μ : Mem) : Option Int32 :=
  (Copies_leastBelow_l1 a1 a2 μ FU (nI 2147483647) (nI 0)).bind fun x1 =>
  some x1
def Copies_addCopy_l1b (v1 : Int32) (v2 : Int32) (v3 : Int32) (μ : Mem) (rec : Int64 → Int32 → Option Int64) (v4 : Int64) (v6 : Int32) : Option Int64 :=
  if v6 < (nI 8) then
    ((Copies_canRead v1 v6 μ).bind fun x1 =>
    (if x1 = 0 then some v4 else
     (mIx v2 8).bind fun r2 =>
     (mRd μ 202 r2 8 v6).bind fun x3 =>
     (mIx (v1 + (nI 1)) 13).bind fun r4 =>
     (mRd μ 203 r4 8 v6).bind fun x5 =>
     if (x3 + x5) = v3 then
       ((mIx (v1 + (nI 1)) 13).bind fun r6 =>
       (mRl μ 204 r6 8 v6).bind fun x7 =>
       (some (v4 + x7)).bind fun x8 =>
       some x8)
     else
     some v4).bind fun x9 =>
    (some (v6 + (nI 1))).bind fun x10 =>
    rec x9 x10)
  else
  some v4
def Copies_addCopy_l1 (v1 : Int32) (v2 : Int32) (v3 : Int32) (μ : Mem) : Nat → Int64 → Int32 → Option Int64
  | 0 => fun _ _ => none
  | n + 1 => Copies_addCopy_l1b v1 v2 v3 μ (Copies_addCopy_l1 v1 v2 v3 μ n)
def Copies_addCopy (a1 : Int32) (a2 : Int32) (μ : Mem) : Option Mem :=
  (Copies_leastBelow a1 a2 μ).bind fun x1 =>
  (Copies_addCopy_l1 a1 a2 x1 μ FU 0 (nI 0)).bind fun x2 =>
  (mRd μ 200 0 12 a1).bind fun x3 =>
  (mIx (x3 + (nI 1)) 13).bind fun r4 =>
  (mRd μ 203 r4 8 a2).bind fun x5 =>
  (mWr μ 203 r4 8 a2 (x5 + x1)).bind fun μ6 =>
  (mRd μ6 200 0 12 a1).bind fun x7 =>
  (mIx (x7 + (nI 1)) 13).bind fun r8 =>
  (mRl μ6 204 r8 8 a2).bind fun x9 =>
  (mWl μ6 204 r8 8 a2 (x9 * x2)).bind fun μ10 =>
  some μ10
def Copies_reckon_l2b (v1 : Int32) (rec : Int32 → Mem → Option Mem) (v2 : Int32) (μ : Mem) : Option Mem :=
  if v2 < (nI 8) then
    ((mIx v1 13).bind fun r1 =>
    (mWr μ 203 r1 8 v2 (nI 0)).bind fun μ2 =>
    (mIx v1 13).bind fun r3 =>
    (mWl μ2 204 r3 8 v2 1).bind fun μ4 =>
    (some (v2 + (nI 1))).bind fun x5 =>
    rec x5 μ4)
  else
  some μ
def Copies_reckon_l2 (v1 : Int32) : Nat → Int32 → Mem → Option Mem
  | 0 => fun _ _ => none
  | n + 1 => Copies_reckon_l2b v1 (Copies_reckon_l2 v1 n)
def Copies_reckon_l1b (rec : Int32 → Mem → Option Mem) (v1 : Int32) (μ : Mem) : Option Mem :=
  if (mI μ 206 0 0) < v1 then some μ else
  (Copies_reckon_l2 v1 FU (nI 0) μ).bind fun μ1 =>
  (some (v1 + (nI 1))).bind fun x2 =>
  rec x2 μ1
def Copies_reckon_l1 : Nat → Int32 → Mem → Option Mem
  | 0 => fun _ _ => none
  | n + 1 => Copies_reckon_l1b  (Copies_reckon_l1  n)
def Copies_reckon_l4b (v1 : Int32) (rec : Int32 → Mem → Option Mem) (v2 : Int32) (μ : Mem) : Option Mem :=
  if v2 < (nI 8) then
    ((Copies_addCopy v1 v2 μ).bind fun μ1 =>
    (some (v2 + (nI 1))).bind fun x2 =>
    rec x2 μ1)
  else
  some μ
def Copies_reckon_l4 (v1 : Int32) : Nat → Int32 → Mem → Option Mem
  | 0 => fun _ _ => none
  | n + 1 => Copies_reckon_l4b v1 (Copies_reckon_l4 v1 n)
def Copies_reckon_l3b (rec : Int32 → Mem → Option Mem) (v1 : Int32) (μ : Mem) : Option Mem :=
  if v1 < 0 then some μ else
  (Copies_reckon_l4 v1 FU (nI 0) μ).bind fun μ1 =>
  (some (v1 + (-1))).bind fun x2 =>
  rec x2 μ1
def Copies_reckon_l3 : Nat → Int32 → Mem → Option Mem
  | 0 => fun _ _ => none
  | n + 1 => Copies_reckon_l3b  (Copies_reckon_l3  n)
def Copies_reckon (μ : Mem) : Option Mem :=
  (Copies_reckon_l1 FU (nI 0) μ).bind fun μ1 =>
  (some ((mI μ1 206 0 0) - (nI 1))).bind fun x2 =>
  (Copies_reckon_l3 FU x2 μ1).bind fun μ3 =>
  some μ3
def B_cost (a1 : Int32) (μ : Mem) : Option (Int32 × Mem) :=
  (B_isWord a1).bind fun x1 =>
  if x1 = 0 then some ((-1), μ) else
  (Copies_reckon μ).bind fun μ2 =>
  (mIx (nI 0) 13).bind fun r3 =>
  (mRd μ2 203 r3 8 a1).bind fun x4 =>
  some (x4, μ2)
def B_ways (a1 : Int32) (μ : Mem) : Option (Int64 × Mem) :=
  (B_isWord a1).bind fun x1 =>
  if x1 = 0 then some ((-1), μ) else
  (Copies_reckon μ).bind fun μ2 =>
  (mIx (nI 0) 13).bind fun r3 =>
  (mRl μ2 204 r3 8 a1).bind fun x4 =>
  some (x4, μ2)
def Copies_cheapest_l1b (μ : Mem) (rec : Int32 → Int32 → Option Int32) (v1 : Int32) (v2 : Int32) : Option Int32 :=
  if v2 < (nI 8) then
    ((mIx (nI 0) 13).bind fun r1 =>
    (mRd μ 203 r1 8 v2).bind fun x2 =>
    (mIx (nI 0) 13).bind fun r3 =>
    (mRd μ 203 r3 8 v1).bind fun x4 =>
    (if x2 < x4 then some v2 else
     some v1).bind fun x5 =>
    (some (v2 + (nI 1))).bind fun x6 =>
    rec x5 x6)
  else
  some v1
def Copies_cheapest_l1 (μ : Mem) : Nat → Int32 → Int32 → Option Int32
  | 0 => fun _ _ => none
  | n + 1 => Copies_cheapest_l1b μ (Copies_cheapest_l1 μ n)
def Copies_cheapest (μ : Mem) : Option Int32 :=
  (Copies_cheapest_l1 μ FU (nI 0) (nI 1)).bind fun x1 =>
  some x1
def B_first (μ : Mem) : Option (Int32 × Mem) :=
  (Copies_reckon μ).bind fun μ1 =>
  (Copies_cheapest μ1).bind fun x2 =>
  some (x2, μ1)
def Copies_wordsBelow_l2b (v1 : Int32) (v2 : Int32) (v4 : Int32) (v5 : Int32) (μ : Mem) (rec : Int32 → Int32 → Option Int32) (v3 : Int32) (v6 : Int32) : Option Int32 :=
  if v6 < (nI 8) then
    ((B_holdsBit v2 v4).bind fun x1 =>
    if x1 = 0 then some v3 else
    (Copies_canRead v1 v6 μ).bind fun x2 =>
    (if x2 = 0 then some v3 else
     (mIx v4 8).bind fun r3 =>
     (mRd μ 202 r3 8 v6).bind fun x4 =>
     (mIx (v1 + (nI 1)) 13).bind fun r5 =>
     (mRd μ 203 r5 8 v6).bind fun x6 =>
     if (x4 + x6) = v5 then
       ((some (v3 ||| ((nI 1) <<< (v6 &&& 31)))).bind fun x7 =>
       some x7)
     else
     some v3).bind fun x8 =>
    (some (v6 + (nI 1))).bind fun x9 =>
    rec x8 x9)
  else
  some v3
def Copies_wordsBelow_l2 (v1 : Int32) (v2 : Int32) (v4 : Int32) (v5 : Int32) (μ : Mem) : Nat → Int32 → Int32 → Option Int32
  | 0 => fun _ _ => none
  | n + 1 => Copies_wordsBelow_l2b v1 v2 v4 v5 μ (Copies_wordsBelow_l2 v1 v2 v4 v5 μ n)
def Copies_wordsBelow_l1b (v1 : Int32) (v2 : Int32) (μ : Mem) (rec : Int32 → Int32 → Option Int32) (v3 : Int32) (v4 : Int32) : Option Int32 :=
  if v4 < (nI 8) then
    ((Copies_leastBelow v1 v4 μ).bind fun x1 =>
    (Copies_wordsBelow_l2 v1 v2 v4 x1 μ FU v3 (nI 0)).bind fun x2 =>
    (some (v4 + (nI 1))).bind fun x3 =>
    rec x2 x3)
  else
  some v3
def Copies_wordsBelow_l1 (v1 : Int32) (v2 : Int32) (μ : Mem) : Nat → Int32 → Int32 → Option Int32
  | 0 => fun _ _ => none
  | n + 1 => Copies_wordsBelow_l1b v1 v2 μ (Copies_wordsBelow_l1 v1 v2 μ n)
def Copies_wordsBelow (a1 : Int32) (a2 : Int32) (μ : Mem) : Option Int32 :=
  (Copies_wordsBelow_l1 a1 a2 μ FU (nI 0) (nI 0)).bind fun x1 =>
  some x1
def Copies_wordsOf_l1b (v1 : Int32) (v2 : Int32) (rec : Int32 → Mem → Option Mem) (v3 : Int32) (μ : Mem) : Option Mem :=
  if v3 < (nI 8) then
    ((mIx (nI 0) 13).bind fun r1 =>
    (mRd μ 203 r1 8 v3).bind fun x2 =>
    (if x2 = v2 then
       ((mRd μ 205 0 13 (nI 0)).bind fun x3 =>
       (mWr μ 205 0 13 (nI 0) (x3 ||| ((nI 1) <<< (v3 &&& 31)))).bind fun μ4 =>
       some μ4)
     else
     some μ).bind fun μ5 =>
    (some (v3 + (nI 1))).bind fun x6 =>
    rec x6 μ5)
  else
  some μ
def Copies_wordsOf_l1 (v1 : Int32) (v2 : Int32) : Nat → Int32 → Mem → Option Mem
  | 0 => fun _ _ => none
  | n + 1 => Copies_wordsOf_l1b v1 v2 (Copies_wordsOf_l1 v1 v2 n)
def Copies_wordsOf_l2b (v1 : Int32) (rec : Int32 → Mem → Option Mem) (v3 : Int32) (μ : Mem) : Option Mem :=
  if v1 < v3 then some μ else
  (mRd μ 200 0 12 v3).bind fun x1 =>
  (mRd μ 205 0 13 (x1 + (nI 1))).bind fun x2 =>
  (Copies_wordsBelow v3 x2 μ).bind fun x3 =>
  (mWr μ 205 0 13 (v3 + (nI 1)) x3).bind fun μ4 =>
  (some (v3 + (nI 1))).bind fun x5 =>
  rec x5 μ4
def Copies_wordsOf_l2 (v1 : Int32) : Nat → Int32 → Mem → Option Mem
  | 0 => fun _ _ => none
  | n + 1 => Copies_wordsOf_l2b v1 (Copies_wordsOf_l2 v1 n)
def Copies_wordsOf (a1 : Int32) (μ : Mem) : Option (Int32 × Mem) :=
  (mIx (nI 0) 13).bind fun r1 =>
  (Copies_cheapest μ).bind fun x2 =>
  (mRd μ 203 r1 8 x2).bind fun x3 =>
  (mWr μ 205 0 13 (nI 0) (nI 0)).bind fun μ4 =>
  (Copies_wordsOf_l1 a1 x3 FU (nI 0) μ4).bind fun μ5 =>
  (Copies_wordsOf_l2 a1 FU (nI 0) μ5).bind fun μ6 =>
  (mRd μ6 205 0 13 (a1 + (nI 1))).bind fun x7 =>
  some (x7, μ6)
def B_could (a1 : Int32) (μ : Mem) : Option (Int32 × Mem) :=
  (Copies_has a1 μ).bind fun x1 =>
  if x1 = 0 then some ((-1), μ) else
  (Copies_reckon μ).bind fun μ2 =>
  (Copies_wordsOf a1 μ2).bind fun (x3, μ4) =>
  some (x3, μ4)
def Account_put (a1 : Int32) (a2 : Int32) (μ : Mem) : Option (Int32 × Mem) :=
  (mWr μ 103 0 10 (mI μ 106 0 0) a1).bind fun μ1 =>
  (mWz μ1 104 0 10 (mI μ1 106 0 0) a2).bind fun μ2 =>
  (some (mSI μ2 106 0 0 ((mI μ2 106 0 0) + (nI 1)))).bind fun μ3 =>
  some (((mI μ3 106 0 0) - (nI 1)), μ3)
def B_day (a1 : Int32) (a2 : Int32) (μ : Mem) : Option (Int32 × Mem) :=
  (B_isWithin a1 (nI 1) (nI 12)).bind fun x1 =>
  if x1 = 0 then some ((-1), μ) else
  if (mI μ 106 0 0) < (nI 10) then
    ((Account_put a1 a2 μ).bind fun (x2, μ3) =>
    some (x2, μ3))
  else
  some ((-1), μ)
def Account_has (a1 : Int32) (μ : Mem) : Option Int32 :=
  if a1 < 0 then mRz (nI 0) else
  if a1 < (mI μ 106 0 0) then mRz (nI 1) else
  mRz (nI 0)
def B_bought (a1 : Int32) (a2 : Int32) (a3 : Int32) (μ : Mem) : Option (Int32 × Mem) :=
  (Account_has a1 μ).bind fun x1 =>
  if x1 = 0 then (mRz (nI 0)).bind fun z => some (z, μ) else
  (Pantry_has a2 μ).bind fun x2 =>
  if x2 = 0 then (mRz (nI 0)).bind fun z => some (z, μ) else
  (B_isWithin a3 (nI 0) (nI 999)).bind fun x3 =>
  if x3 = 0 then (mRz (nI 0)).bind fun z => some (z, μ) else
  (mIx a1 10).bind fun r4 =>
  (mWr μ 105 r4 12 a2 a3).bind fun μ5 =>
  (mRz (nI 1)).bind fun z => some (z, μ5)
def Pages_monthsOf_l1b (v1 : Int32) (μ : Mem) (rec : Int32 → Int32 → Option Int32) (v2 : Int32) (v3 : Int32) : Option Int32 :=
  (mRd μ 702 0 17 v1).bind fun x1 =>
  if v3 < x1 then
    ((mIx v1 17).bind fun r2 =>
    (mRd μ 703 r2 8 v3).bind fun x3 =>
    (mRd μ 803 0 12 x3).bind fun x4 =>
    (some (v2 &&& x4)).bind fun x5 =>
    (some (v3 + (nI 1))).bind fun x6 =>
    rec x5 x6)
  else
  some v2
def Pages_monthsOf_l1 (v1 : Int32) (μ : Mem) : Nat → Int32 → Int32 → Option Int32
  | 0 => fun _ _ => none
  | n + 1 => Pages_monthsOf_l1b v1 μ (Pages_monthsOf_l1 v1 μ n)
def Pages_monthsOf (a1 : Int32) (μ : Mem) : Option Int32 :=
  (Pages_monthsOf_l1 a1 μ FU (nI 4095) (nI 0)).bind fun x1 =>
  some x1
def Pot_isCounted (a1 : Int32) (μ : Mem) : Option Int32 :=
  (mRd μ 909 0 16 a1).bind fun x1 =>
  if x1 = (mI μ 908 0 0) then mRz (nI 1) else
  mRz (nI 0)
def Account_isServed (a1 : Int32) (a2 : Int32) (μ : Mem) : Option (Int32 × Mem) :=
  (mRd μ 104 0 10 a1).bind fun x1 =>
  kj (fun (_ : Unit) =>
    (Pages_monthsOf a2 μ).bind fun x4 =>
    (mRd μ 103 0 10 a1).bind fun x5 =>
    (B_holdsBit x4 (x5 - (nI 1))).bind fun x6 =>
    if x6 = 0 then (mRz (nI 0)).bind fun z => some (z, μ) else
    (Pot_isCounted a2 μ).bind fun x7 =>
    (if x7 = 0 then
       ((Pot_lay a2 μ).bind fun (x8, μ9) =>
       some (x8, μ9))
     else
     (mRd μ 910 0 16 a2).bind fun x10 =>
     some (x10, μ)).bind fun (x11, μ12) =>
    if x11 = (nI 1) then (mRz (nI 1)).bind fun z => some (z, μ12) else
    (mRz (nI 0)).bind fun z => some (z, μ12)) fun k3 =>
  if x1 = 0 then k3 () else
  (mRd μ 706 0 17 a2).bind fun x2 =>
  if (x2 &&& (mI μ 807 0 0)) = 0 then k3 () else
  (mRz (nI 0)).bind fun z => some (z, μ)
def B_may (a1 : Int32) (a2 : Int32) (μ : Mem) : Option (Int32 × Mem) :=
  (Account_has a1 μ).bind fun x1 =>
  if x1 = 0 then some ((-1), μ) else
  (Pages_has a2 μ).bind fun x2 =>
  if x2 = 0 then some ((-1), μ) else
  (Account_isServed a1 a2 μ).bind fun (x3, μ4) =>
  if x3 = 0 then some ((nI 0), μ4) else
  some ((nI 1), μ4)
def B_isAsked (a1 : Int32) (a2 : Int32) (a3 : Int32) (μ : Mem) : Option Int32 :=
  (Account_has a1 μ).bind fun x1 =>
  if x1 = 0 then mRz (nI 0) else
  (B_isWithin a3 (nI 0) (nI 99)).bind fun x2 =>
  if x2 = 0 then mRz (nI 0) else
  if 0 < a2 then
    (if a2 < ((nI 1) <<< ((mI μ 712 0 0) &&& 31)) then
      ((J_bitCount a2).bind fun x3 =>
      if (nI 5) < x3 then mRz (nI 0) else
      mRz (nI 1))
    else
    mRz (nI 0))
  else
  mRz (nI 0)
def Menus_setPlace_l1b (v1 : Int32) (v2 : Int32) (rec : Int32 → Mem → Option Mem) (v3 : Int32) (μ : Mem) : Option Mem :=
  if v3 < (nI 12) then
    ((mIx (mI μ 610 0 0) 5).bind fun r1 =>
    (mWr μ 605 r1 12 v3 (nI 0)).bind fun μ2 =>
    (some (v3 + (nI 1))).bind fun x3 =>
    rec x3 μ2)
  else
  some μ
def Menus_setPlace_l1 (v1 : Int32) (v2 : Int32) : Nat → Int32 → Mem → Option Mem
  | 0 => fun _ _ => none
  | n + 1 => Menus_setPlace_l1b v1 v2 (Menus_setPlace_l1 v1 v2 n)
def Menus_setPlace_l2b (v1 : Int32) (v2 : Int32) (rec : Int32 → Mem → Option Mem) (v3 : Int32) (μ : Mem) : Option Mem :=
  (mRd μ 702 0 17 v1).bind fun x1 =>
  if v3 < x1 then
    (if v2 = 0 then some μ else
    (mIx (mI μ 610 0 0) 5).bind fun r2 =>
    (mIx v1 17).bind fun r3 =>
    (mRd μ 703 r3 8 v3).bind fun x4 =>
    (mIx v1 16).bind fun r5 =>
    (mRd μ 911 r5 8 v3).bind fun x6 =>
    (mWr μ 605 r2 12 x4 x6).bind fun μ7 =>
    (some (v3 + (nI 1))).bind fun x8 =>
    rec x8 μ7)
  else
  some μ
def Menus_setPlace_l2 (v1 : Int32) (v2 : Int32) : Nat → Int32 → Mem → Option Mem
  | 0 => fun _ _ => none
  | n + 1 => Menus_setPlace_l2b v1 v2 (Menus_setPlace_l2 v1 v2 n)
def Menus_setPlace (a1 : Int32) (a2 : Int32) (μ : Mem) : Option Mem :=
  (mWr μ 603 0 5 (mI μ 610 0 0) a1).bind fun μ1 =>
  (if a2 = 0 then some (nI 0) else
   some (nI 9)).bind fun x2 =>
  (mWr μ1 604 0 5 (mI μ1 610 0 0) x2).bind fun μ3 =>
  (Menus_setPlace_l1 a1 a2 FU (nI 0) μ3).bind fun μ4 =>
  (Menus_setPlace_l2 a1 a2 FU (nI 0) μ4).bind fun μ5 =>
  (mRd μ5 706 0 17 a1).bind fun x6 =>
  (some (mSI μ5 611 0 0 ((mI μ5 611 0 0) ||| x6))).bind fun μ7 =>
  (mWr μ7 607 0 5 (mI μ7 610 0 0) (nI 0)).bind fun μ8 =>
  (some (mSI μ8 610 0 0 ((mI μ8 610 0 0) + (nI 1)))).bind fun μ9 =>
  some μ9
def Menus_clearFound (μ : Mem) : Option Mem :=
  (mWr μ 609 0 8 (nI 0) (nI 0)).bind fun μ1 =>
  (mWr μ1 609 0 8 (nI 1) (nI 0)).bind fun μ2 =>
  (mWr μ2 609 0 8 (nI 2) (nI 0)).bind fun μ3 =>
  (mWr μ3 609 0 8 (nI 3) (-1)).bind fun μ4 =>
  (mWr μ4 609 0 8 (nI 4) (-1)).bind fun μ5 =>
  (mWr μ5 609 0 8 (nI 5) (nI 0)).bind fun μ6 =>
  (mWr μ6 609 0 8 (nI 6) (-1)).bind fun μ7 =>
  (mWr μ7 609 0 8 (nI 7) (-1)).bind fun μ8 =>
  some μ8
def Menus_room_l1b (v1 : Int32) (μ : Mem) (rec : Int32 → Int32 → Option Int32) (v2 : Int32) (v3 : Int32) : Option Int32 :=
  if v3 < (nI 12) then
    ((mIx v1 5).bind fun r1 =>
    (mRd μ 605 r1 12 v3).bind fun x2 =>
    (if 0 < x2 then
       ((mRd μ 606 0 12 v3).bind fun x3 =>
       (mIx v1 5).bind fun r4 =>
       (mRd μ 605 r4 12 v3).bind fun x5 =>
       (mDv x3 x5).bind fun x6 =>
       (some (jMin v2 x6)).bind fun x7 =>
       some x7)
     else
     some v2).bind fun x8 =>
    (some (v3 + (nI 1))).bind fun x9 =>
    rec x8 x9)
  else
  some v2
def Menus_room_l1 (v1 : Int32) (μ : Mem) : Nat → Int32 → Int32 → Option Int32
  | 0 => fun _ _ => none
  | n + 1 => Menus_room_l1b v1 μ (Menus_room_l1 v1 μ n)
def Menus_room (a1 : Int32) (μ : Mem) : Option Int32 :=
  (mRd μ 604 0 5 a1).bind fun x1 =>
  (Menus_room_l1 a1 μ FU x1 (nI 0)).bind fun x2 =>
  some x2
def Menus_need_l1b (v1 : Int32) (μ : Mem) (rec : Int32 → Int32 → Option Int32) (v2 : Int32) (v3 : Int32) : Option Int32 :=
  if v3 < (nI 12) then
    ((mRd μ 606 0 12 v3).bind fun x1 =>
    (some (x1 - (mI μ 612 0 0))).bind fun x2 =>
    (B_holdsBit (mI μ 611 0 0) v3).bind fun x3 =>
    (if x3 = 0 then some v2 else
     if 0 < x2 then
       ((mIx v1 5).bind fun r4 =>
       (mRd μ 605 r4 12 v3).bind fun x5 =>
       (if 0 < x5 then
          ((mDv ((x2 + x5) - (nI 1)) x5).bind fun x6 =>
          some x6)
        else
        some (nI 10)).bind fun x7 =>
       (some (jMax v2 x7)).bind fun x8 =>
       some x8)
     else
     some v2).bind fun x9 =>
    (some (v3 + (nI 1))).bind fun x10 =>
    rec x9 x10)
  else
  some v2
def Menus_need_l1 (v1 : Int32) (μ : Mem) : Nat → Int32 → Int32 → Option Int32
  | 0 => fun _ _ => none
  | n + 1 => Menus_need_l1b v1 μ (Menus_need_l1 v1 μ n)
def Menus_need (a1 : Int32) (μ : Mem) : Option Int32 :=
  (Menus_need_l1 a1 μ FU (nI 0) (nI 0)).bind fun x1 =>
  some x1
def Menus_noteLean (a1 : Int32) (a2 : Int32) (μ : Mem) : Option Mem :=
  (mRd μ 609 0 8 (nI 5)).bind fun x1 =>
  (if x1 = 0 then
     ((mWr μ 609 0 8 (nI 5) (nI 0)).bind fun μ2 =>
     (mWr μ2 609 0 8 (nI 6) a1).bind fun μ3 =>
     (mWr μ3 609 0 8 (nI 7) a2).bind fun μ4 =>
     some μ4)
   else
   (mRd μ 609 0 8 (nI 7)).bind fun x5 =>
   if a2 < x5 then
     ((mWr μ 609 0 8 (nI 5) (nI 0)).bind fun μ6 =>
     (mWr μ6 609 0 8 (nI 6) a1).bind fun μ7 =>
     (mWr μ7 609 0 8 (nI 7) a2).bind fun μ8 =>
     some μ8)
   else
   some μ).bind fun μ9 =>
  (mRd μ9 609 0 8 (nI 7)).bind fun x10 =>
  if a2 = x10 then
    ((mRd μ9 609 0 8 (nI 5)).bind fun x11 =>
    (mWr μ9 609 0 8 (nI 5) (x11 + (nI 1))).bind fun μ12 =>
    some μ12)
  else
  some μ9
def Menus_noteWaste_l1b (v1 : Int32) (v2 : Int32) (v3 : Int32) (v4 : Int32) (μ : Mem) (rec : Int32 → Int32 → Int32 → Option (Int32 × Int32)) (v5 : Int32) (v6 : Int32) (v7 : Int32) : Option (Int32 × Int32) :=
  if v7 < (nI 12) then
    ((B_holdsBit (mI μ 611 0 0) v7).bind fun x1 =>
    (if x1 = 0 then some (v5, v6) else
     (mIx v1 5).bind fun r2 =>
     (mRd μ 605 r2 12 v7).bind fun x3 =>
     (some (v5 + x3)).bind fun x4 =>
     (mRd μ 606 0 12 v7).bind fun x5 =>
     (some (v6 + x5)).bind fun x6 =>
     some (x4, x6)).bind fun (x7, x8) =>
    (some (v7 + (nI 1))).bind fun x9 =>
    rec x7 x8 x9)
  else
  some (v5, v6)
def Menus_noteWaste_l1 (v1 : Int32) (v2 : Int32) (v3 : Int32) (v4 : Int32) (μ : Mem) : Nat → Int32 → Int32 → Int32 → Option (Int32 × Int32)
  | 0 => fun _ _ _ => none
  | n + 1 => Menus_noteWaste_l1b v1 v2 v3 v4 μ (Menus_noteWaste_l1 v1 v2 v3 v4 μ n)
def Menus_noteWaste (a1 : Int32) (a2 : Int32) (a3 : Int32) (μ : Mem) : Option Mem :=
  (mRd μ 609 0 8 (nI 0)).bind fun x1 =>
  (Menus_noteWaste_l1 a1 a2 a3 x1 μ FU (nI 0) (nI 0) (nI 0)).bind fun (x2, x3) =>
  (Menus_noteLean ((x1 + a3) - a2) (x3 - (a3 * x2)) μ).bind fun μ4 =>
  if (mI μ4 613 0 0) < x1 then some μ4 else
  if ((x1 + a3) - a2) < (mI μ4 613 0 0) then some μ4 else
  (some (mCP μ4 607 0 608 0 5)).bind fun μ5 =>
  (mWr μ5 608 0 5 a1 ((a2 + (mI μ5 613 0 0)) - x1)).bind fun μ6 =>
  (mRd μ6 608 0 5 a1).bind fun x7 =>
  (some (mSI μ6 614 0 0 (x3 - (x7 * x2)))).bind fun μ8 =>
  some μ8
def Menus_noteMenus_l1b (v1 : Int32) (v2 : Int32) (v3 : Int32) (μ : Mem) (rec : Int32 → Int32 → Int32 → Option (Int32 × Int32)) (v4 : Int32) (v5 : Int32) (v6 : Int32) : Option (Int32 × Int32) :=
  if v6 < v1 then
    ((mRd μ 607 0 5 v6).bind fun x1 =>
    (some (v5 + x1)).bind fun x2 =>
    (mRd μ 607 0 5 v6).bind fun x3 =>
    (if 0 < x3 then
       ((mRd μ 603 0 5 v6).bind fun x4 =>
       (some (v4 ||| ((nI 1) <<< (x4 &&& 31)))).bind fun x5 =>
       some x5)
     else
     some v4).bind fun x6 =>
    (some (v6 + (nI 1))).bind fun x7 =>
    rec x6 x2 x7)
  else
  some (v4, v5)
def Menus_noteMenus_l1 (v1 : Int32) (v2 : Int32) (v3 : Int32) (μ : Mem) : Nat → Int32 → Int32 → Int32 → Option (Int32 × Int32)
  | 0 => fun _ _ _ => none
  | n + 1 => Menus_noteMenus_l1b v1 v2 v3 μ (Menus_noteMenus_l1 v1 v2 v3 μ n)
def Menus_noteMenus (a1 : Int32) (a2 : Int32) (a3 : Int32) (μ : Mem) : Option Mem :=
  if a3 < a2 then some μ else
  (Menus_noteMenus_l1 a1 a2 a3 μ FU (nI 0) (nI 0) (nI 0)).bind fun (x1, x2) =>
  (mRd μ 603 0 5 a1).bind fun x3 =>
  (some ((nI 1) <<< (x3 &&& 31))).bind fun x4 =>
  (if 0 < a2 then some (x1 ||| x4) else
   some x1).bind fun x5 =>
  (mRd μ 609 0 8 (nI 0)).bind fun x6 =>
  (if x6 = 0 then some x5 else
   (mRd μ 609 0 8 (nI 1)).bind fun x7 =>
   some (x7 &&& x5)).bind fun x8 =>
  (mWr μ 609 0 8 (nI 1) x8).bind fun μ9 =>
  (mRd μ9 609 0 8 (nI 2)).bind fun x10 =>
  (if 0 < a3 then some (x1 ||| x4) else
   some x1).bind fun x11 =>
  (mWr μ9 609 0 8 (nI 2) (x10 ||| x11)).bind fun μ12 =>
  (if x6 = 0 then some (x2 + a2) else
   (mRd μ12 609 0 8 (nI 3)).bind fun x13 =>
   some (jMin x13 (x2 + a2))).bind fun x14 =>
  (mWr μ12 609 0 8 (nI 3) x14).bind fun μ15 =>
  (mRd μ15 609 0 8 (nI 4)).bind fun x16 =>
  (mWr μ15 609 0 8 (nI 4) (jMax x16 (x2 + a3))).bind fun μ17 =>
  (Menus_noteWaste a1 a2 a3 μ17).bind fun μ18 =>
  (mWr μ18 609 0 8 (nI 0) (((x6 + a3) - a2) + (nI 1))).bind fun μ19 =>
  some μ19
def Menus_use_l1b (v1 : Int32) (v2 : Int32) (rec : Int32 → Mem → Option Mem) (v3 : Int32) (μ : Mem) : Option Mem :=
  if v3 < (nI 12) then
    ((mRd μ 606 0 12 v3).bind fun x1 =>
    (mIx v1 5).bind fun r2 =>
    (mRd μ 605 r2 12 v3).bind fun x3 =>
    (mWr μ 606 0 12 v3 (x1 - (v2 * x3))).bind fun μ4 =>
    (some (v3 + (nI 1))).bind fun x5 =>
    rec x5 μ4)
  else
  some μ
def Menus_use_l1 (v1 : Int32) (v2 : Int32) : Nat → Int32 → Mem → Option Mem
  | 0 => fun _ _ => none
  | n + 1 => Menus_use_l1b v1 v2 (Menus_use_l1 v1 v2 n)
def Menus_use (a1 : Int32) (a2 : Int32) (μ : Mem) : Option Mem :=
  (Menus_use_l1 a1 a2 FU (nI 0) μ).bind fun μ1 =>
  some μ1
def Menus_choose_l1b (r_Menus_choose : Int32 → Mem → Option Mem) (v1 : Int32) (v2 : Int32) (rec : Int32 → Mem → Option Mem) (v3 : Int32) (μ : Mem) : Option Mem :=
  if v2 < v3 then some μ else
  (mWr μ 607 0 5 v1 v3).bind fun μ1 =>
  (r_Menus_choose (v1 + (nI 1)) μ1).bind fun μ2 =>
  (Menus_use v1 (nI 1) μ2).bind fun μ3 =>
  (some (v3 + (nI 1))).bind fun x4 =>
  rec x4 μ3
def Menus_choose_l1 (r_Menus_choose : Int32 → Mem → Option Mem) (v1 : Int32) (v2 : Int32) : Nat → Int32 → Mem → Option Mem
  | 0 => fun _ _ => none
  | n + 1 => Menus_choose_l1b r_Menus_choose v1 v2 (Menus_choose_l1 r_Menus_choose v1 v2 n)
def Menus_choose_B (r_Menus_choose : Int32 → Mem → Option Mem) (a1 : Int32) (μ : Mem) : Option Mem :=
  if a1 < (mI μ 610 0 0) then
    (if a1 < (nI 5) then
      ((Menus_room a1 μ).bind fun x1 =>
      if a1 = ((mI μ 610 0 0) - (nI 1)) then
        ((Menus_need a1 μ).bind fun x4 =>
        (Menus_noteMenus a1 x4 x1 μ).bind fun μ5 =>
        some μ5)
      else
      (Menus_choose_l1 r_Menus_choose a1 x1 FU (nI 0) μ).bind fun μ2 =>
      (Menus_use a1 ((-x1) - (nI 1)) μ2).bind fun μ3 =>
      some μ3)
    else
    some μ)
  else
  some μ
def G_Menus_choose : Nat → (Int32 → Mem → Option Mem)
  | 0 => fun _ _ => none
  | n + 1 => Menus_choose_B (G_Menus_choose n)
def Menus_choose (n : Nat) : Int32 → Mem → Option Mem := (G_Menus_choose n)
theorem Menus_choose_s (n : Nat) : Menus_choose (n + 1) = Menus_choose_B (Menus_choose n) := rfl
def Menus_layOut_l1b (v1 : Int32) (v2 : Int32) (rec : Int32 → Mem → Option Mem) (v5 : Int32) (μ : Mem) : Option Mem :=
  if v5 < (mI μ 712 0 0) then
    ((B_holdsBit v2 v5).bind fun x1 =>
    (if x1 = 0 then some μ else
     if (mI μ 610 0 0) < (nI 5) then
       ((Account_isServed v1 v5 μ).bind fun (x2, μ3) =>
       (Menus_setPlace v5 x2 μ3).bind fun μ4 =>
       some μ4)
     else
     some μ).bind fun μ5 =>
    (some (v5 + (nI 1))).bind fun x6 =>
    rec x6 μ5)
  else
  some μ
def Menus_layOut_l1 (v1 : Int32) (v2 : Int32) : Nat → Int32 → Mem → Option Mem
  | 0 => fun _ _ => none
  | n + 1 => Menus_layOut_l1b v1 v2 (Menus_layOut_l1 v1 v2 n)
def Menus_layOut_l2b (v1 : Int32) (rec : Int32 → Mem → Option Mem) (v5 : Int32) (μ : Mem) : Option Mem :=
  if v5 < (nI 12) then
    ((mIx v1 10).bind fun r1 =>
    (mRd μ 105 r1 12 v5).bind fun x2 =>
    (mWr μ 606 0 12 v5 x2).bind fun μ3 =>
    (some (v5 + (nI 1))).bind fun x4 =>
    rec x4 μ3)
  else
  some μ
def Menus_layOut_l2 (v1 : Int32) : Nat → Int32 → Mem → Option Mem
  | 0 => fun _ _ => none
  | n + 1 => Menus_layOut_l2b v1 (Menus_layOut_l2 v1 n)
def Menus_layOut (a1 : Int32) (a2 : Int32) (a3 : Int32) (a4 : Int32) (μ : Mem) : Option Mem :=
  (some (mSI μ 610 0 0 (nI 0))).bind fun μ1 =>
  (some (mSI μ1 611 0 0 (nI 0))).bind fun μ2 =>
  (some (mSI μ2 612 0 0 a3)).bind fun μ3 =>
  (some (mSI μ3 613 0 0 a4)).bind fun μ4 =>
  (Menus_layOut_l1 a1 a2 FU (nI 0) μ4).bind fun μ5 =>
  (Menus_layOut_l2 a1 FU (nI 0) μ5).bind fun μ6 =>
  (Menus_clearFound μ6).bind fun μ7 =>
  (Menus_choose RF (nI 0) μ7).bind fun μ8 =>
  some μ8
def B_menu (a1 : Int32) (a2 : Int32) (a3 : Int32) (a4 : Int32) (μ : Mem) : Option (Int32 × Mem) :=
  (B_isWithin a4 (nI 0) (nI 4)).bind fun x1 =>
  if x1 = 0 then some ((-1), μ) else
  (B_isAsked a1 a2 a3 μ).bind fun x2 =>
  if x2 = 0 then some ((-1), μ) else
  (Menus_layOut a1 a2 a3 (-1) μ).bind fun μ3 =>
  (mRd μ3 609 0 8 a4).bind fun x4 =>
  some (x4, μ3)
def Menus_messesOf_l1b (v1 : Int32) (μ : Mem) (rec : Int32 → Option Int32) (v2 : Int32) : Option Int32 :=
  if v2 < (mI μ 610 0 0) then
    ((mRd μ 603 0 5 v2).bind fun x1 =>
    if x1 = v1 then
      ((mRd μ 608 0 5 v2).bind fun x3 =>
      some x3)
    else
    (some (v2 + (nI 1))).bind fun x2 =>
    rec x2)
  else
  some (-1)
def Menus_messesOf_l1 (v1 : Int32) (μ : Mem) : Nat → Int32 → Option Int32
  | 0 => fun _ => none
  | n + 1 => Menus_messesOf_l1b v1 μ (Menus_messesOf_l1 v1 μ n)
def Menus_messesOf (a1 : Int32) (μ : Mem) : Option Int32 :=
  Menus_messesOf_l1 a1 μ FU (nI 0)
def B_messes (a1 : Int32) (a2 : Int32) (a3 : Int32) (a4 : Int32) (a5 : Int32) (μ : Mem) : Option (Int32 × Mem) :=
  if a4 < 0 then some ((-1), μ) else
  (B_isAsked a1 a2 a3 μ).bind fun x1 =>
  if x1 = 0 then some ((-1), μ) else
  (Menus_layOut a1 a2 a3 a4 μ).bind fun μ2 =>
  (mRd μ2 609 0 8 (nI 0)).bind fun x3 =>
  if a4 < x3 then
    ((Menus_messesOf a5 μ2).bind fun x4 =>
    some (x4, μ2))
  else
  some ((-1), μ2)
def B_months (a1 : Int32) (μ : Mem) : Option Int32 :=
  (Pages_has a1 μ).bind fun x1 =>
  if x1 = 0 then some (-1) else
  (Pages_monthsOf a1 μ).bind fun x2 =>
  some x2
def B_far (a1 : Int32) (a2 : Int32) (μ : Mem) : Option Int32 :=
  (Pages_has a1 μ).bind fun x1 =>
  if x1 = 0 then some (-1) else
  (Pages_has a2 μ).bind fun x2 =>
  if x2 = 0 then some (-1) else
  (mIx a1 16).bind fun r3 =>
  (mRd μ 301 r3 16 a2).bind fun x4 =>
  some x4
def B_came (a1 : Int32) (μ : Mem) : Option Int32 :=
  (Pages_has a1 μ).bind fun x1 =>
  if x1 = 0 then some (-1) else
  (mRd μ 303 0 16 a1).bind fun x2 =>
  some x2
def Kin_closest_l1b (μ : Mem) (rec : Int32 → Int32 → Option Int32) (v1 : Int32) (v2 : Int32) : Option Int32 :=
  if v2 < (mI μ 712 0 0) then
    ((mRd μ 306 0 16 v2).bind fun x1 =>
    (if x1 = 0 then
       (if v1 = (-1) then some v2 else
       (mRd μ 305 0 16 v2).bind fun x2 =>
       (mRd μ 305 0 16 v1).bind fun x3 =>
       if x2 < x3 then some v2 else
       some v1)
     else
     some v1).bind fun x4 =>
    (some (v2 + (nI 1))).bind fun x5 =>
    rec x4 x5)
  else
  some v1
def Kin_closest_l1 (μ : Mem) : Nat → Int32 → Int32 → Option Int32
  | 0 => fun _ _ => none
  | n + 1 => Kin_closest_l1b μ (Kin_closest_l1 μ n)
def Kin_closest (μ : Mem) : Option Int32 :=
  (Kin_closest_l1 μ FU (-1) (nI 0)).bind fun x1 =>
  some x1
def Kin_take_l1b (v1 : Int32) (rec : Int32 → Mem → Option Mem) (v2 : Int32) (μ : Mem) : Option Mem :=
  if v2 < (mI μ 712 0 0) then
    ((mRd μ 305 0 16 v2).bind fun x1 =>
    (mIx v1 16).bind fun r2 =>
    (mRd μ 301 r2 16 v2).bind fun x3 =>
    (mWr μ 305 0 16 v2 (jMin x1 x3)).bind fun μ4 =>
    (some (v2 + (nI 1))).bind fun x5 =>
    rec x5 μ4)
  else
  some μ
def Kin_take_l1 (v1 : Int32) : Nat → Int32 → Mem → Option Mem
  | 0 => fun _ _ => none
  | n + 1 => Kin_take_l1b v1 (Kin_take_l1 v1 n)
def Kin_take (a1 : Int32) (μ : Mem) : Option Mem :=
  (mWz μ 306 0 16 a1 (nI 1)).bind fun μ1 =>
  (Kin_take_l1 a1 FU (nI 0) μ1).bind fun μ2 =>
  some μ2
def Kin_leastJoin_l1b (rec : Int32 → Mem → Option Mem) (v1 : Int32) (μ : Mem) : Option Mem :=
  if v1 < (mI μ 712 0 0) then
    ((if v1 = 0 then some (nI 1) else
     some (nI 0)).bind fun x1 =>
    (mWz μ 306 0 16 v1 x1).bind fun μ2 =>
    (mIx (nI 0) 16).bind fun r3 =>
    (mRd μ2 301 r3 16 v1).bind fun x4 =>
    (mWr μ2 305 0 16 v1 x4).bind fun μ5 =>
    (some (v1 + (nI 1))).bind fun x6 =>
    rec x6 μ5)
  else
  some μ
def Kin_leastJoin_l1 : Nat → Int32 → Mem → Option Mem
  | 0 => fun _ _ => none
  | n + 1 => Kin_leastJoin_l1b  (Kin_leastJoin_l1  n)
def Kin_leastJoin_l2b (rec : Int32 → Int32 → Mem → Option (Int32 × Mem)) (v1 : Int32) (v2 : Int32) (μ : Mem) : Option (Int32 × Mem) :=
  if v2 < (mI μ 712 0 0) then
    ((Kin_closest μ).bind fun x1 =>
    (if x1 = (-1) then some (v1, μ) else
     (mRd μ 305 0 16 x1).bind fun x2 =>
     (some (v1 + x2)).bind fun x3 =>
     (Kin_take x1 μ).bind fun μ4 =>
     some (x3, μ4)).bind fun (x5, μ6) =>
    (some (v2 + (nI 1))).bind fun x7 =>
    rec x5 x7 μ6)
  else
  some (v1, μ)
def Kin_leastJoin_l2 : Nat → Int32 → Int32 → Mem → Option (Int32 × Mem)
  | 0 => fun _ _ _ => none
  | n + 1 => Kin_leastJoin_l2b  (Kin_leastJoin_l2  n)
def Kin_leastJoin (μ : Mem) : Option (Int32 × Mem) :=
  (Kin_leastJoin_l1 FU (nI 0) μ).bind fun μ1 =>
  (Kin_leastJoin_l2 FU (nI 0) (nI 1) μ1).bind fun (x2, μ3) =>
  some (x2, μ3)
def B_tree (μ : Mem) : Option (Int32 × Mem) :=
  (Kin_leastJoin μ).bind fun (x1, μ2) =>
  some (x1, μ2)
def B_isWriter (a1 : Int32) : Option Int32 :=
  (B_isWithin a1 (nI 0) (nI 5)).bind fun x1 =>
  mRz x1
def B_wrote (a1 : Int32) (a2 : Int32) (μ : Mem) : Option (Int32 × Mem) :=
  (Pages_has a1 μ).bind fun x1 =>
  if x1 = 0 then (mRz (nI 0)).bind fun z => some (z, μ) else
  (B_isWriter a2).bind fun x2 =>
  if x2 = 0 then (mRz (nI 0)).bind fun z => some (z, μ) else
  (mWr μ 711 0 17 a1 a2).bind fun μ3 =>
  (mRz (nI 1)).bind fun z => some (z, μ3)
def Pages_timesLeft_l1b (v1 : Int32) (v2 : Int32) (v3 : Int32) (μ : Mem) (rec : Int32 → Int32 → Option Int32) (v4 : Int32) (v5 : Int32) : Option Int32 :=
  if v5 < (mI μ 712 0 0) then
    ((mRd μ 711 0 17 v5).bind fun x1 =>
    (if x1 = v1 then
       ((mRd μ 706 0 17 v5).bind fun x2 =>
       (B_holdsBit x2 v2).bind fun x3 =>
       if x3 = 0 then some (nI 0) else
       some (nI 1))
     else
     some (nI 0)).bind fun x4 =>
    (if x4 = 0 then some v4 else
     (mRd μ 707 0 17 v5).bind fun x5 =>
     (B_holdsBit x5 v2).bind fun x6 =>
     if x6 = v3 then
       ((some (v4 + (nI 1))).bind fun x7 =>
       some x7)
     else
     some v4).bind fun x8 =>
    (some (v5 + (nI 1))).bind fun x9 =>
    rec x8 x9)
  else
  some v4
def Pages_timesLeft_l1 (v1 : Int32) (v2 : Int32) (v3 : Int32) (μ : Mem) : Nat → Int32 → Int32 → Option Int32
  | 0 => fun _ _ => none
  | n + 1 => Pages_timesLeft_l1b v1 v2 v3 μ (Pages_timesLeft_l1 v1 v2 v3 μ n)
def Pages_timesLeft (a1 : Int32) (a2 : Int32) (a3 : Int32) (μ : Mem) : Option Int32 :=
  (Pages_timesLeft_l1 a1 a2 a3 μ FU (nI 0) (nI 0)).bind fun x1 =>
  some x1
def B_leaves (a1 : Int32) (a2 : Int32) (a3 : Int32) (μ : Mem) : Option Int32 :=
  (B_isWriter a1).bind fun x1 =>
  if x1 = 0 then some (-1) else
  (Pantry_has a2 μ).bind fun x2 =>
  if x2 = 0 then some (-1) else
  (B_isWithin a3 (nI 0) (nI 1)).bind fun x3 =>
  if x3 = 0 then some (-1) else
  if a3 = 0 then
    ((Pages_timesLeft a1 a2 (nI 1) μ).bind fun x5 =>
    some x5)
  else
  (Pages_timesLeft a1 a2 (nI 0) μ).bind fun x4 =>
  some x4
def Pages_unlikePairs_l2b (v1 : Int32) (v3 : Int32) (μ : Mem) (rec : Int32 → Int32 → Option Int32) (v2 : Int32) (v4 : Int32) : Option Int32 :=
  if v4 < (mI μ 712 0 0) then
    ((mRd μ 711 0 17 v3).bind fun x1 =>
    (if x1 = v1 then
       ((mRd μ 711 0 17 v4).bind fun x2 =>
       if x2 = v1 then some (nI 1) else
       some (nI 0))
     else
     some (nI 0)).bind fun x3 =>
    (if x3 = 0 then some v2 else
     (mRd μ 706 0 17 v3).bind fun x4 =>
     (mRd μ 706 0 17 v4).bind fun x5 =>
     if x4 = x5 then
       ((mRd μ 707 0 17 v3).bind fun x6 =>
       (mRd μ 707 0 17 v4).bind fun x7 =>
       if x6 = x7 then some v2 else
       (some (v2 + (nI 1))).bind fun x8 =>
       some x8)
     else
     some v2).bind fun x9 =>
    (some (v4 + (nI 1))).bind fun x10 =>
    rec x9 x10)
  else
  some v2
def Pages_unlikePairs_l2 (v1 : Int32) (v3 : Int32) (μ : Mem) : Nat → Int32 → Int32 → Option Int32
  | 0 => fun _ _ => none
  | n + 1 => Pages_unlikePairs_l2b v1 v3 μ (Pages_unlikePairs_l2 v1 v3 μ n)
def Pages_unlikePairs_l1b (v1 : Int32) (μ : Mem) (rec : Int32 → Int32 → Option Int32) (v2 : Int32) (v3 : Int32) : Option Int32 :=
  if v3 < (mI μ 712 0 0) then
    ((some (v3 + (nI 1))).bind fun x1 =>
    (Pages_unlikePairs_l2 v1 v3 μ FU v2 x1).bind fun x2 =>
    (some (v3 + (nI 1))).bind fun x3 =>
    rec x2 x3)
  else
  some v2
def Pages_unlikePairs_l1 (v1 : Int32) (μ : Mem) : Nat → Int32 → Int32 → Option Int32
  | 0 => fun _ _ => none
  | n + 1 => Pages_unlikePairs_l1b v1 μ (Pages_unlikePairs_l1 v1 μ n)
def Pages_unlikePairs (a1 : Int32) (μ : Mem) : Option Int32 :=
  (Pages_unlikePairs_l1 a1 μ FU (nI 0) (nI 0)).bind fun x1 =>
  some x1
def B_twice (a1 : Int32) (μ : Mem) : Option Int32 :=
  (B_isWriter a1).bind fun x1 =>
  if x1 = 0 then some (-1) else
  (Pages_unlikePairs a1 μ).bind fun x2 =>
  some x2
def Taster_heft_l1b (v1 : Int32) (μ : Mem) (rec : Int32 → Int32 → Option Int32) (v2 : Int32) (v3 : Int32) : Option Int32 :=
  (mRd μ 702 0 17 (mI μ 912 0 0)).bind fun x1 =>
  if v3 < x1 then
    ((mRd μ 917 0 8 v3).bind fun x2 =>
    (mIx (mI μ 912 0 0) 17).bind fun r3 =>
    (mRd μ 703 r3 8 v3).bind fun x4 =>
    (Pantry_bigIn x4 v1 μ).bind fun x5 =>
    (some (v2 + (x2 * x5))).bind fun x6 =>
    (some (v3 + (nI 1))).bind fun x7 =>
    rec x6 x7)
  else
  some v2
def Taster_heft_l1 (v1 : Int32) (μ : Mem) : Nat → Int32 → Int32 → Option Int32
  | 0 => fun _ _ => none
  | n + 1 => Taster_heft_l1b v1 μ (Taster_heft_l1 v1 μ n)
def Taster_heft (a1 : Int32) (μ : Mem) : Option Int32 :=
  (Taster_heft_l1 a1 μ FU (nI 0) (nI 0)).bind fun x1 =>
  some x1
def B_weight (a1 : Int32) (a2 : Int32) (a3 : Int32) (μ : Mem) : Option (Int32 × Mem) :=
  (B_isYear a3).bind fun x1 =>
  if x1 = 0 then some ((-1), μ) else
  (B_shows a1 a2 μ).bind fun (x2, μ3) =>
  if x2 = 0 then some ((-1), μ3) else
  (Taster_heft a3 μ3).bind fun x4 =>
  some (x4, μ3)
def Taster_heftEdge_l1b (v1 : Int32) (v2 : Int32) (rec : Int32 → Int32 → Mem → Option (Int32 × Mem)) (v3 : Int32) (v4 : Int32) (μ : Mem) : Option (Int32 × Mem) :=
  (Pot_shownCount μ).bind fun x1 =>
  if v4 < x1 then
    ((Pot_show v4 μ).bind fun μ2 =>
    (Taster_heft v1 μ2).bind fun x3 =>
    (Taster_further v3 x3 v2).bind fun x4 =>
    (some (v4 + (nI 1))).bind fun x5 =>
    rec x4 x5 μ2)
  else
  some (v3, μ)
def Taster_heftEdge_l1 (v1 : Int32) (v2 : Int32) : Nat → Int32 → Int32 → Mem → Option (Int32 × Mem)
  | 0 => fun _ _ _ => none
  | n + 1 => Taster_heftEdge_l1b v1 v2 (Taster_heftEdge_l1 v1 v2 n)
def Taster_heftEdge (a1 : Int32) (a2 : Int32) (μ : Mem) : Option (Int32 × Mem) :=
  (Pot_show (nI 0) μ).bind fun μ1 =>
  (Taster_heft a1 μ1).bind fun x2 =>
  (Taster_heftEdge_l1 a1 a2 FU x2 (nI 1) μ1).bind fun (x3, μ4) =>
  some (x3, μ4)
def B_serves (a1 : Int32) (a2 : Int32) (a3 : Int32) (a4 : Int32) (μ : Mem) : Option (Int32 × Mem) :=
  (B_isYear a2).bind fun x1 =>
  if x1 = 0 then some ((-1), μ) else
  (B_isWithin a3 (nI 1) (nI 9999)).bind fun x2 =>
  if x2 = 0 then some ((-1), μ) else
  (B_isWithin a4 (nI 0) (nI 1)).bind fun x3 =>
  if x3 = 0 then some ((-1), μ) else
  (B_laid a1 μ).bind fun (x4, μ5) =>
  if 0 < x4 then
    ((Taster_heftEdge a2 a4 μ5).bind fun (x6, μ7) =>
    (mDv x6 a3).bind fun x8 =>
    some (x8, μ7))
  else
  some ((-1), μ5)
def Taster_minutes_l1b (v4 : Int32) (rec : Int32 → Int32 → Option Int32) (v5 : Int32) (v6 : Int32) : Option Int32 :=
  if (nI 200) < v6 then some (-1) else
  (mDv v5 (nI 25)).bind fun x1 =>
  (some (v5 + (v4 - x1))).bind fun x2 =>
  if x2 < (nI 100) then
    ((some (v6 + (nI 1))).bind fun x3 =>
    rec x2 x3)
  else
  some v6
def Taster_minutes_l1 (v4 : Int32) : Nat → Int32 → Int32 → Option Int32
  | 0 => fun _ _ => none
  | n + 1 => Taster_minutes_l1b v4 (Taster_minutes_l1 v4 n)
def Taster_minutes (a1 : Int32) (a2 : Int32) (μ : Mem) : Option Int32 :=
  (mRd μ 918 0 9 (nI 0)).bind fun x1 =>
  (some (((nI 10) * a1) + x1)).bind fun x2 =>
  (if 0 < x2 then
     ((mDv ((nI 100) * a2) x2).bind fun x3 =>
     some x3)
   else
   some (nI 0)).bind fun x4 =>
  Taster_minutes_l1 x4 FU (nI 10) (nI 1)
def B_boil (a1 : Int32) (a2 : Int32) (a3 : Int32) (a4 : Int32) (μ : Mem) : Option (Int32 × Mem) :=
  (B_isWithin a3 (nI 1) (nI 99)).bind fun x1 =>
  if x1 = 0 then some ((-1), μ) else
  (B_isWithin a4 (nI 1) (nI 99)).bind fun x2 =>
  if x2 = 0 then some ((-1), μ) else
  (B_shows a1 a2 μ).bind fun (x3, μ4) =>
  if x3 = 0 then some ((-1), μ4) else
  (Taster_minutes a3 a4 μ4).bind fun x5 =>
  some (x5, μ4)
def Kin_toldOtherwise_l1b (v1 : Int32) (v2 : Int32) (μ : Mem) (rec : Int32 → Int32 → Option Int32) (v3 : Int32) (v4 : Int32) : Option Int32 :=
  (mRd μ 702 0 17 v1).bind fun x1 =>
  if v4 < x1 then
    ((mIx v1 17).bind fun r2 =>
    (mRd μ 703 r2 8 v4).bind fun x3 =>
    (Pages_placeOf v2 x3 μ).bind fun x4 =>
    (if x4 = (-1) then some v3 else
     (mIx v1 17).bind fun r5 =>
     (mRd μ 704 r5 8 v4).bind fun x6 =>
     (mIx v2 17).bind fun r7 =>
     (mRd μ 704 r7 8 x4).bind fun x8 =>
     if x6 = x8 then
       ((mIx v1 17).bind fun r10 =>
       (mRd μ 705 r10 8 v4).bind fun x11 =>
       (mIx v2 17).bind fun r12 =>
       (mRd μ 705 r12 8 x4).bind fun x13 =>
       if x11 = x13 then some v3 else
       (some (v3 ||| ((nI 1) <<< (x3 &&& 31)))).bind fun x14 =>
       some x14)
     else
     (some (v3 ||| ((nI 1) <<< (x3 &&& 31)))).bind fun x9 =>
     some x9).bind fun x15 =>
    (some (v4 + (nI 1))).bind fun x16 =>
    rec x15 x16)
  else
  some v3
def Kin_toldOtherwise_l1 (v1 : Int32) (v2 : Int32) (μ : Mem) : Nat → Int32 → Int32 → Option Int32
  | 0 => fun _ _ => none
  | n + 1 => Kin_toldOtherwise_l1b v1 v2 μ (Kin_toldOtherwise_l1 v1 v2 μ n)
def Kin_toldOtherwise (a1 : Int32) (a2 : Int32) (μ : Mem) : Option Int32 :=
  (Kin_toldOtherwise_l1 a1 a2 μ FU (nI 0) (nI 0)).bind fun x1 =>
  some x1
def Kin_change (a1 : Int32) (a2 : Int32) (a3 : Int32) (μ : Mem) : Option Int32 :=
  if a3 = (nI 0) then
    ((mRd μ 706 0 17 a1).bind fun x1 =>
    (mRd μ 706 0 17 a2).bind fun x2 =>
    some (x1 &&& (x2 ^^^ (-1))))
  else if a3 = (nI 1) then
    ((mRd μ 706 0 17 a2).bind fun x3 =>
    (mRd μ 706 0 17 a1).bind fun x4 =>
    some (x3 &&& (x4 ^^^ (-1))))
  else if a3 = (nI 2) then
    ((Kin_toldOtherwise a1 a2 μ).bind fun x5 =>
    some x5)
  else 
  (mIx a1 16).bind fun r6 =>
  (mRd μ 302 r6 16 a2).bind fun x7 =>
  some x7
def B_changed (a1 : Int32) (a2 : Int32) (μ : Mem) : Option Int32 :=
  (Pages_has a1 μ).bind fun x1 =>
  if x1 = 0 then some (-1) else
  (B_isWithin a2 (nI 0) (nI 3)).bind fun x2 =>
  if x2 = 0 then some (-1) else
  (mRd μ 303 0 16 a1).bind fun x3 =>
  (Pages_has x3 μ).bind fun x4 =>
  if x4 = 0 then some (-1) else
  (mRd μ 303 0 16 a1).bind fun x5 =>
  (Kin_change a1 x5 a2 μ).bind fun x6 =>
  some x6
def Kin_stepsUp_l1b (μ : Mem) (rec : Int32 → Int32 → Int32 → Option Int32) (v2 : Int32) (v3 : Int32) (v4 : Int32) : Option Int32 :=
  if v4 < (nI 16) then
    (if v3 = (-1) then some v2 else
    (some (v2 + (nI 1))).bind fun x1 =>
    (mRd μ 303 0 16 v3).bind fun x2 =>
    (some (v4 + (nI 1))).bind fun x3 =>
    rec x1 x2 x3)
  else
  some v2
def Kin_stepsUp_l1 (μ : Mem) : Nat → Int32 → Int32 → Int32 → Option Int32
  | 0 => fun _ _ _ => none
  | n + 1 => Kin_stepsUp_l1b μ (Kin_stepsUp_l1 μ n)
def Kin_stepsUp (a1 : Int32) (μ : Mem) : Option Int32 :=
  (mRd μ 303 0 16 a1).bind fun x1 =>
  (Kin_stepsUp_l1 μ FU (nI 0) x1 (nI 0)).bind fun x2 =>
  some x2
def B_line (a1 : Int32) (μ : Mem) : Option Int32 :=
  (Pages_has a1 μ).bind fun x1 =>
  if x1 = 0 then some (-1) else
  (Kin_stepsUp a1 μ).bind fun x2 =>
  some x2
def Kin_meeting_l1b (μ : Mem) (rec : Int32 → Int32 → Int32 → Option Int32) (v3 : Int32) (v4 : Int32) (v5 : Int32) : Option Int32 :=
  if v5 < (nI 32) then
    (if v3 = v4 then some v3 else
    (if v4 < v3 then
       ((mRd μ 303 0 16 v3).bind fun x2 =>
       some (x2, v4))
     else
     (mRd μ 303 0 16 v4).bind fun x1 =>
     some (v3, x1)).bind fun (x3, x4) =>
    (some (v5 + (nI 1))).bind fun x5 =>
    rec x3 x4 x5)
  else
  some v3
def Kin_meeting_l1 (μ : Mem) : Nat → Int32 → Int32 → Int32 → Option Int32
  | 0 => fun _ _ _ => none
  | n + 1 => Kin_meeting_l1b μ (Kin_meeting_l1 μ n)
def Kin_meeting (a1 : Int32) (a2 : Int32) (μ : Mem) : Option Int32 :=
  (Kin_meeting_l1 μ FU a1 a2 (nI 0)).bind fun x1 =>
  some x1
def B_stem (a1 : Int32) (a2 : Int32) (μ : Mem) : Option Int32 :=
  (Pages_has a1 μ).bind fun x1 =>
  if x1 = 0 then some (-1) else
  (Pages_has a2 μ).bind fun x2 =>
  if x2 = 0 then some (-1) else
  (Kin_meeting a1 a2 μ).bind fun x3 =>
  some x3
def Pages_meanTold_l1b (v1 : Int32) (v2 : Int32) (μ : Mem) (rec : Int32 → Int32 → Int32 → Option (Int32 × Int32)) (v3 : Int32) (v4 : Int32) (v5 : Int32) : Option (Int32 × Int32) :=
  if v5 < (mI μ 712 0 0) then
    ((Pages_placeOf v5 v2 μ).bind fun x1 =>
    (if x1 = (-1) then some (v3, v4) else
     (mRd μ 711 0 17 v5).bind fun x2 =>
     (mRd μ 711 0 17 v1).bind fun x3 =>
     if x2 = x3 then
       ((mIx v5 17).bind fun r4 =>
       (mRd μ 704 r4 8 x1).bind fun x5 =>
       if 0 < x5 then
         ((some (v3 + (nI 1))).bind fun x6 =>
         (mIx v5 17).bind fun r7 =>
         (mRd μ 704 r7 8 x1).bind fun x8 =>
         (mIx v5 17).bind fun r9 =>
         (mRd μ 705 r9 8 x1).bind fun x10 =>
         (mDv (x8 + x10) (nI 2)).bind fun x11 =>
         (some (v4 + x11)).bind fun x12 =>
         some (x6, x12))
       else
       some (v3, v4))
     else
     some (v3, v4)).bind fun (x13, x14) =>
    (some (v5 + (nI 1))).bind fun x15 =>
    rec x13 x14 x15)
  else
  some (v3, v4)
def Pages_meanTold_l1 (v1 : Int32) (v2 : Int32) (μ : Mem) : Nat → Int32 → Int32 → Int32 → Option (Int32 × Int32)
  | 0 => fun _ _ _ => none
  | n + 1 => Pages_meanTold_l1b v1 v2 μ (Pages_meanTold_l1 v1 v2 μ n)
def Pages_meanTold (a1 : Int32) (a2 : Int32) (μ : Mem) : Option Int32 :=
  (mRd μ 707 0 17 a1).bind fun x1 =>
  (B_holdsBit x1 a2).bind fun x2 =>
  if x2 = 0 then some (-1) else
  (Pages_meanTold_l1 a1 a2 μ FU (nI 0) (nI 0) (nI 0)).bind fun (x3, x4) =>
  if 0 < x3 then
    ((mDv x4 x3).bind fun x5 =>
    some x5)
  else
  some (-1)
def B_guess (a1 : Int32) (a2 : Int32) (μ : Mem) : Option Int32 :=
  (Pages_has a1 μ).bind fun x1 =>
  if x1 = 0 then some (-1) else
  (Pantry_has a2 μ).bind fun x2 =>
  if x2 = 0 then some (-1) else
  (Pages_meanTold a1 a2 μ).bind fun x3 =>
  some x3
def Taster_offGuesses_l1b (v1 : Int32) (μ : Mem) (rec : Int32 → Int32 → Option Int32) (v2 : Int32) (v3 : Int32) : Option Int32 :=
  (mRd μ 702 0 17 v1).bind fun x1 =>
  if v3 < x1 then
    ((mRd μ 1105 0 8 v3).bind fun x2 =>
    (if x2 = (-1) then some v2 else
     (mRd μ 917 0 8 v3).bind fun x3 =>
     (mRd μ 1105 0 8 v3).bind fun x4 =>
     (some (v2 + (jAbs (x3 - x4)))).bind fun x5 =>
     some x5).bind fun x6 =>
    (some (v3 + (nI 1))).bind fun x7 =>
    rec x6 x7)
  else
  some v2
def Taster_offGuesses_l1 (v1 : Int32) (μ : Mem) : Nat → Int32 → Int32 → Option Int32
  | 0 => fun _ _ => none
  | n + 1 => Taster_offGuesses_l1b v1 μ (Taster_offGuesses_l1 v1 μ n)
def Taster_offGuesses (a1 : Int32) (μ : Mem) : Option Int32 :=
  (Taster_offGuesses_l1 a1 μ FU (nI 0) (nI 0)).bind fun x1 =>
  some x1
def Taster_leastOff_l1b (v1 : Int32) (rec : Int32 → Int32 → Mem → Option (Int32 × Mem)) (v2 : Int32) (v3 : Int32) (μ : Mem) : Option (Int32 × Mem) :=
  (mRd μ 702 0 17 v1).bind fun x1 =>
  if v3 < x1 then
    ((mIx v1 17).bind fun r2 =>
    (mRd μ 703 r2 8 v3).bind fun x3 =>
    (Pages_meanTold v1 x3 μ).bind fun x4 =>
    (mWr μ 1105 0 8 v3 x4).bind fun μ5 =>
    (if v2 = 0 then
       ((mRd μ5 1105 0 8 v3).bind fun x6 =>
       if x6 = (-1) then some (nI 0) else
       some (nI 1))
     else
     some (nI 1)).bind fun x7 =>
    (some (v3 + (nI 1))).bind fun x8 =>
    rec x7 x8 μ5)
  else
  some (v2, μ)
def Taster_leastOff_l1 (v1 : Int32) : Nat → Int32 → Int32 → Mem → Option (Int32 × Mem)
  | 0 => fun _ _ _ => none
  | n + 1 => Taster_leastOff_l1b v1 (Taster_leastOff_l1 v1 n)
def Taster_leastOff_l2b (v1 : Int32) (v2 : Int32) (rec : Int32 → Int32 → Int32 → Mem → Option (Int32 × Mem)) (v3 : Int32) (v4 : Int32) (v5 : Int32) (μ : Mem) : Option (Int32 × Mem) :=
  (Pot_shownCount μ).bind fun x1 =>
  if v5 < x1 then
    (if v2 = 0 then some (v3, μ) else
    (Pot_show v5 μ).bind fun μ2 =>
    (Taster_offGuesses v1 μ2).bind fun x3 =>
    (if x3 < v4 then some (v5, x3) else
     some (v3, v4)).bind fun (x4, x5) =>
    (some (v5 + (nI 1))).bind fun x6 =>
    rec x4 x5 x6 μ2)
  else
  some (v3, μ)
def Taster_leastOff_l2 (v1 : Int32) (v2 : Int32) : Nat → Int32 → Int32 → Int32 → Mem → Option (Int32 × Mem)
  | 0 => fun _ _ _ _ => none
  | n + 1 => Taster_leastOff_l2b v1 v2 (Taster_leastOff_l2 v1 v2 n)
def Taster_leastOff (a1 : Int32) (μ : Mem) : Option (Int32 × Mem) :=
  (Taster_leastOff_l1 a1 FU (nI 0) (nI 0) μ).bind fun (x1, μ2) =>
  (Taster_leastOff_l2 a1 x1 FU (-1) (nI 2147483647) (nI 0) μ2).bind fun (x3, μ4) =>
  some (x3, μ4)
def B_nearest (a1 : Int32) (μ : Mem) : Option (Int32 × Mem) :=
  (B_laid a1 μ).bind fun (x1, μ2) =>
  if 0 < x1 then
    ((Taster_leastOff a1 μ2).bind fun (x3, μ4) =>
    some (x3, μ4))
  else
  some ((-1), μ2)
def Account_tooFew_l1b (v1 : Int32) (v2 : Int32) (μ : Mem) (rec : Int32 → Int32 → Option Int32) (v3 : Int32) (v4 : Int32) : Option Int32 :=
  if v4 < (mI μ 808 0 0) then
    ((Pot_partsOf v4 μ).bind fun x1 =>
    (mIx v1 10).bind fun r2 =>
    (mRd μ 105 r2 12 v4).bind fun x3 =>
    (if x3 < (x1 * v2) then
       ((some (v3 ||| ((nI 1) <<< (v4 &&& 31)))).bind fun x4 =>
       some x4)
     else
     some v3).bind fun x5 =>
    (some (v4 + (nI 1))).bind fun x6 =>
    rec x5 x6)
  else
  some v3
def Account_tooFew_l1 (v1 : Int32) (v2 : Int32) (μ : Mem) : Nat → Int32 → Int32 → Option Int32
  | 0 => fun _ _ => none
  | n + 1 => Account_tooFew_l1b v1 v2 μ (Account_tooFew_l1 v1 v2 μ n)
def Account_tooFew (a1 : Int32) (a2 : Int32) (μ : Mem) : Option Int32 :=
  (Account_tooFew_l1 a1 a2 μ FU (nI 0) (nI 0)).bind fun x1 =>
  some x1
def B_lacking (a1 : Int32) (a2 : Int32) (a3 : Int32) (a4 : Int32) (μ : Mem) : Option (Int32 × Mem) :=
  (Account_has a1 μ).bind fun x1 =>
  if x1 = 0 then some ((-1), μ) else
  (B_isWithin a4 (nI 1) (nI 99)).bind fun x2 =>
  if x2 = 0 then some ((-1), μ) else
  (B_shows a2 a3 μ).bind fun (x3, μ4) =>
  if x3 = 0 then some ((-1), μ4) else
  (Account_tooFew a1 a4 μ4).bind fun x5 =>
  some (x5, μ4)
def Account_messesFrom_l1b (v1 : Int32) (μ : Mem) (rec : Int32 → Int32 → Option Int32) (v2 : Int32) (v3 : Int32) : Option Int32 :=
  if v3 < (mI μ 808 0 0) then
    ((Pot_partsOf v3 μ).bind fun x1 =>
    (if 0 < x1 then
       ((mIx v1 10).bind fun r2 =>
       (mRd μ 105 r2 12 v3).bind fun x3 =>
       (mDv x3 x1).bind fun x4 =>
       (some (jMin v2 x4)).bind fun x5 =>
       some x5)
     else
     some v2).bind fun x6 =>
    (some (v3 + (nI 1))).bind fun x7 =>
    rec x6 x7)
  else
  some v2
def Account_messesFrom_l1 (v1 : Int32) (μ : Mem) : Nat → Int32 → Int32 → Option Int32
  | 0 => fun _ _ => none
  | n + 1 => Account_messesFrom_l1b v1 μ (Account_messesFrom_l1 v1 μ n)
def Account_messesFrom (a1 : Int32) (μ : Mem) : Option Int32 :=
  (Account_messesFrom_l1 a1 μ FU (nI 99) (nI 0)).bind fun x1 =>
  some x1
def B_enough (a1 : Int32) (a2 : Int32) (a3 : Int32) (μ : Mem) : Option (Int32 × Mem) :=
  (Account_has a1 μ).bind fun x1 =>
  if x1 = 0 then some ((-1), μ) else
  (B_shows a2 a3 μ).bind fun (x2, μ3) =>
  if x2 = 0 then some ((-1), μ3) else
  (Account_messesFrom a1 μ3).bind fun x4 =>
  some (x4, μ3)
def B_wasted (a1 : Int32) (a2 : Int32) (a3 : Int32) (a4 : Int32) (μ : Mem) : Option (Int32 × Mem) :=
  if a4 < 0 then some ((-1), μ) else
  (B_isAsked a1 a2 a3 μ).bind fun x1 =>
  if x1 = 0 then some ((-1), μ) else
  (Menus_layOut a1 a2 a3 a4 μ).bind fun μ2 =>
  (mRd μ2 609 0 8 (nI 0)).bind fun x3 =>
  if a4 < x3 then some ((mI μ2 614 0 0), μ2) else
  some ((-1), μ2)
def B_lean (a1 : Int32) (a2 : Int32) (a3 : Int32) (a4 : Int32) (μ : Mem) : Option (Int32 × Mem) :=
  (B_isWithin a4 (nI 0) (nI 2)).bind fun x1 =>
  if x1 = 0 then some ((-1), μ) else
  (B_isAsked a1 a2 a3 μ).bind fun x2 =>
  if x2 = 0 then some ((-1), μ) else
  (Menus_layOut a1 a2 a3 (-1) μ).bind fun μ3 =>
  (mRd μ3 609 0 8 (nI 0)).bind fun x4 =>
  if 0 < x4 then
    ((mRd μ3 609 0 8 ((nI 5) + a4)).bind fun x5 =>
    some (x5, μ3))
  else
  some ((-1), μ3)
def J_compare (a1 : Int32) (a2 : Int32) : Option Int32 :=
  if a1 < a2 then some (-1) else
  if a1 = a2 then some (nI 0) else
  some (nI 1)
def Taster_lead_l2b (v1 : Int32) (v2 : Int32) (v3 : Int32) (v5 : Int32) (μ : Mem) (rec : Int32 → Int32 → Option Int32) (v4 : Int32) (v6 : Int32) : Option Int32 :=
  if v6 < v5 then
    ((mRd μ 1106 0 300 v5).bind fun x1 =>
    (mRd μ 1106 0 300 v6).bind fun x2 =>
    (J_compare x1 x2).bind fun x3 =>
    (mRd μ 1107 0 300 v5).bind fun x4 =>
    (mRd μ 1107 0 300 v6).bind fun x5 =>
    (J_compare x4 x5).bind fun x6 =>
    (some (v4 + (x3 * x6))).bind fun x7 =>
    (some (v6 + (nI 1))).bind fun x8 =>
    rec x7 x8)
  else
  some v4
def Taster_lead_l2 (v1 : Int32) (v2 : Int32) (v3 : Int32) (v5 : Int32) (μ : Mem) : Nat → Int32 → Int32 → Option Int32
  | 0 => fun _ _ => none
  | n + 1 => Taster_lead_l2b v1 v2 v3 v5 μ (Taster_lead_l2 v1 v2 v3 v5 μ n)
def Taster_lead_l1b (v1 : Int32) (v2 : Int32) (v3 : Int32) (rec : Int32 → Int32 → Mem → Option (Int32 × Mem)) (v4 : Int32) (v5 : Int32) (μ : Mem) : Option (Int32 × Mem) :=
  if v5 < v3 then
    ((Pot_show v5 μ).bind fun μ1 =>
    (Laws_valueOf v1 μ1).bind fun (x2, μ3) =>
    (mWr μ3 1106 0 300 v5 x2).bind fun μ4 =>
    (Laws_valueOf v2 μ4).bind fun (x5, μ6) =>
    (mWr μ6 1107 0 300 v5 x5).bind fun μ7 =>
    (Taster_lead_l2 v1 v2 v3 v5 μ7 FU v4 (nI 0)).bind fun x8 =>
    (some (v5 + (nI 1))).bind fun x9 =>
    rec x8 x9 μ7)
  else
  some (v4, μ)
def Taster_lead_l1 (v1 : Int32) (v2 : Int32) (v3 : Int32) : Nat → Int32 → Int32 → Mem → Option (Int32 × Mem)
  | 0 => fun _ _ _ => none
  | n + 1 => Taster_lead_l1b v1 v2 v3 (Taster_lead_l1 v1 v2 v3 n)
def Taster_lead (a1 : Int32) (a2 : Int32) (μ : Mem) : Option (Int32 × Mem) :=
  (Pot_shownCount μ).bind fun x1 =>
  (some (jMin x1 (nI 300))).bind fun x2 =>
  (Taster_lead_l1 a1 a2 x2 FU (nI 0) (nI 0) μ).bind fun (x3, μ4) =>
  some (x3, μ4)
def B_softer (a1 : Int32) (a2 : Int32) (a3 : Int32) (μ : Mem) : Option (Int32 × Mem) :=
  (Laws_has a2 μ).bind fun x1 =>
  if x1 = 0 then some ((-10000000), μ) else
  (Laws_has a3 μ).bind fun x2 =>
  if x2 = 0 then some ((-10000000), μ) else
  (B_laid a1 μ).bind fun (x3, μ4) =>
  if x3 < 0 then some ((-10000000), μ4) else
  if (nI 300) < x3 then some ((-10000000), μ4) else
  (Taster_lead a2 a3 μ4).bind fun (x5, μ6) =>
  some (x5, μ6)
def Pot_isKept_l1b (v1 : Int32) (μ : Mem) (rec : Int32 → Int32 → Int32 → Option Int32) (v2 : Int32) (v3 : Int32) (v4 : Int32) : Option Int32 :=
  if v4 < (nI 16) then
    (if v2 < v3 then
      ((mDv (v2 + v3) (nI 2)).bind fun x1 =>
      (mRd μ 913 0 5000 x1).bind fun x2 =>
      (if x2 < v1 then
         ((some (x1 + (nI 1))).bind fun x3 =>
         some (x3, v3))
       else
       some (v2, x1)).bind fun (x4, x5) =>
      (some (v4 + (nI 1))).bind fun x6 =>
      rec x4 x5 x6)
    else
    some v2)
  else
  some v2
def Pot_isKept_l1 (v1 : Int32) (μ : Mem) : Nat → Int32 → Int32 → Int32 → Option Int32
  | 0 => fun _ _ _ => none
  | n + 1 => Pot_isKept_l1b v1 μ (Pot_isKept_l1 v1 μ n)
def Pot_isKept (a1 : Int32) (μ : Mem) : Option Int32 :=
  (mRd μ 910 0 16 (mI μ 912 0 0)).bind fun x1 =>
  (Pot_isKept_l1 a1 μ FU (nI 0) x1 (nI 0)).bind fun x2 =>
  (mRd μ 910 0 16 (mI μ 912 0 0)).bind fun x3 =>
  if x2 < x3 then
    ((mRd μ 913 0 5000 x2).bind fun x4 =>
    if x4 = a1 then mRz (nI 1) else
    mRz (nI 0))
  else
  mRz (nI 0)
def Pot_turns (a1 : Int32) (a2 : Int32) (a3 : Int32) (μ : Mem) : Option Int32 :=
  (Pot_partsAt a1 a2 μ).bind fun x1 =>
  (Pot_partsAt a1 a3 μ).bind fun x2 =>
  (some (x2 - x1)).bind fun x3 =>
  (mRd μ 914 0 8 a2).bind fun x4 =>
  (mRd μ 914 0 8 a2).bind fun x5 =>
  (mRd μ 915 0 8 a2).bind fun x6 =>
  (B_isWithin x2 x4 ((x5 + x6) - (nI 1))).bind fun x7 =>
  (if x7 = 0 then some (nI 0) else
   (mRd μ 914 0 8 a3).bind fun x8 =>
   (mRd μ 914 0 8 a3).bind fun x9 =>
   (mRd μ 915 0 8 a3).bind fun x10 =>
   (B_isWithin x1 x8 ((x9 + x10) - (nI 1))).bind fun x11 =>
   if x11 = 0 then some (nI 0) else
   some (nI 1)).bind fun x12 =>
  if x12 = 0 then mRz (nI 0) else
  (mRd μ 913 0 5000 a1).bind fun x13 =>
  (mRd μ 916 0 8 a2).bind fun x14 =>
  (mRd μ 916 0 8 a3).bind fun x15 =>
  (Pot_isKept ((x13 + (x3 * x14)) - (x3 * x15)) μ).bind fun x16 =>
  if x16 = 0 then mRz (nI 0) else
  mRz (nI 1)
def Taster_turnedAbout_l1b (v1 : Int32) (v2 : Int32) (μ : Mem) (rec : Int32 → Int32 → Option Int32) (v3 : Int32) (v4 : Int32) : Option Int32 :=
  (Pot_shownCount μ).bind fun x1 =>
  if v4 < x1 then
    ((Pot_turns v4 v1 v2 μ).bind fun x2 =>
    (if x2 = 0 then some v3 else
     (some (v3 + (nI 1))).bind fun x3 =>
     some x3).bind fun x4 =>
    (some (v4 + (nI 1))).bind fun x5 =>
    rec x4 x5)
  else
  some v3
def Taster_turnedAbout_l1 (v1 : Int32) (v2 : Int32) (μ : Mem) : Nat → Int32 → Int32 → Option Int32
  | 0 => fun _ _ => none
  | n + 1 => Taster_turnedAbout_l1b v1 v2 μ (Taster_turnedAbout_l1 v1 v2 μ n)
def Taster_turnedAbout (a1 : Int32) (a2 : Int32) (μ : Mem) : Option Int32 :=
  (Taster_turnedAbout_l1 a1 a2 μ FU (nI 0) (nI 0)).bind fun x1 =>
  some x1
def B_swapped (a1 : Int32) (a2 : Int32) (a3 : Int32) (μ : Mem) : Option (Int32 × Mem) :=
  if a2 = a3 then some ((-1), μ) else
  (Pages_has a1 μ).bind fun x1 =>
  if x1 = 0 then some ((-1), μ) else
  (Pages_placeOf a1 a2 μ).bind fun x2 =>
  (Pages_placeOf a1 a3 μ).bind fun x3 =>
  if x2 = (-1) then some ((-1), μ) else
  if x3 = (-1) then some ((-1), μ) else
  (B_laid a1 μ).bind fun (x4, μ5) =>
  if x4 < 0 then some ((-1), μ5) else
  (Taster_turnedAbout x2 x3 μ5).bind fun x6 =>
  some (x6, μ5)
def B_count (a1 : Int32) (μ : Mem) : Option Int32 :=
  if a1 = (nI 0) then
    (some (mI μ 712 0 0))
  else if a1 = (nI 1) then
    (some (mI μ 504 0 0))
  else if a1 = (nI 2) then
    (some (mI μ 808 0 0))
  else if a1 = (nI 3) then
    (some (mI μ 904 0 0))
  else if a1 = (nI 4) then
    (some (mI μ 507 0 0))
  else if a1 = (nI 5) then
    (some (mI μ 206 0 0))
  else if a1 = (nI 6) then
    (some (mI μ 106 0 0))
  else if a1 = (nI 7) then
    (some (mI μ 1001 0 0))
  else if a1 = (nI 8) then
    (some (mI μ 903 0 0))
  else 
  some (-1)
def M_in (a1 : Int32) (a2 : Int32) (a3 : Int32) : Option Int32 :=
  if a1 < a2 then mRz (nI 0) else
  if a3 < a1 then mRz (nI 0) else
  mRz (nI 1)
def M_has (a1 : Int32) (a2 : Int32) : Option Int32 :=
  if ((a1 >>> (a2 &&& 31)) &&& (nI 1)) = (nI 1) then mRz (nI 1) else
  mRz (nI 0)
def M_thrown (μ : Mem) : Option Int32 :=
  some (mI μ 1300 0 0)
def M_byteOf (a1 : Int32) (a2 : Int32) (a3 : Int32) (a4 : Int32) (a5 : Int32) (a6 : Int32) : Option Int32 :=
  (if a6 < (nI 4) then some a1 else
   if a6 < (nI 8) then some a2 else
   if a6 < (nI 12) then some a3 else
   if a6 < (nI 16) then some a4 else
   some a5).bind fun x1 =>
  (mRm a6 (nI 4)).bind fun x2 =>
  some ((x1 >>> (((nI 24) - ((nI 8) * x2)) &&& 31)) &&& (nI 255))
def M_feed_l1b (v1 : Int32) (v2 : Int32) (v3 : Int32) (v4 : Int32) (v5 : Int32) (μ : Mem) (rec : Int32 → Int32 → Option Int32) (v6 : Int32) (v7 : Int32) : Option Int32 :=
  if v7 < (nI 20) then
    ((M_byteOf v1 v2 v3 v4 v5 v7).bind fun x1 =>
    (if x1 = 0 then some (nI 0) else
     some (nI 1)).bind fun x2 =>
    (some (v6 + x2)).bind fun x3 =>
    (some (v7 + (nI 1))).bind fun x4 =>
    rec x3 x4)
  else
  some v6
def M_feed_l1 (v1 : Int32) (v2 : Int32) (v3 : Int32) (v4 : Int32) (v5 : Int32) (μ : Mem) : Nat → Int32 → Int32 → Option Int32
  | 0 => fun _ _ => none
  | n + 1 => M_feed_l1b v1 v2 v3 v4 v5 μ (M_feed_l1 v1 v2 v3 v4 v5 μ n)
def M_feed_l2b (v1 : Int32) (v2 : Int32) (v3 : Int32) (v4 : Int32) (v5 : Int32) (rec : Int32 → Mem → Option Mem) (v7 : Int32) (μ : Mem) : Option Mem :=
  if v7 < (nI 20) then
    ((M_byteOf v1 v2 v3 v4 v5 v7).bind fun x1 =>
    (if x1 = 0 then some μ else
     (mWr μ 1301 0 120 (mI μ 1302 0 0) x1).bind fun μ2 =>
     (some (mSI μ2 1302 0 0 ((mI μ2 1302 0 0) + (nI 1)))).bind fun μ3 =>
     some μ3).bind fun μ4 =>
    (some (v7 + (nI 1))).bind fun x5 =>
    rec x5 μ4)
  else
  some μ
def M_feed_l2 (v1 : Int32) (v2 : Int32) (v3 : Int32) (v4 : Int32) (v5 : Int32) : Nat → Int32 → Mem → Option Mem
  | 0 => fun _ _ => none
  | n + 1 => M_feed_l2b v1 v2 v3 v4 v5 (M_feed_l2 v1 v2 v3 v4 v5 n)
def M_feed (a1 : Int32) (a2 : Int32) (a3 : Int32) (a4 : Int32) (a5 : Int32) (μ : Mem) : Option (Int32 × Mem) :=
  (M_feed_l1 a1 a2 a3 a4 a5 μ FU (nI 0) (nI 0)).bind fun x1 =>
  if (nI 120) < ((mI μ 1302 0 0) + x1) then some ((-1), μ) else
  (M_feed_l2 a1 a2 a3 a4 a5 FU (nI 0) μ).bind fun μ2 =>
  some ((mI μ2 1302 0 0), μ2)
def M_end (a1 : Int32) (μ : Mem) : Option (Int32 × Mem) :=
  if a1 < 0 then (mRz (nI 0)).bind fun z => some (z, μ) else
  if (mI μ 1302 0 0) < a1 then (mRz (nI 0)).bind fun z => some (z, μ) else
  (some (mSI μ 1302 0 0 a1)).bind fun μ1 =>
  (mRz (nI 1)).bind fun z => some (z, μ1)
def M_here (μ : Mem) : Option Int32 :=
  if (mI μ 1303 0 0) < (mI μ 1302 0 0) then
    ((mRd μ 1301 0 120 (mI μ 1303 0 0)).bind fun x1 =>
    some x1)
  else
  some (-1)
def M_look_l1b (rec : Mem → Option Mem) (μ : Mem) : Option Mem :=
  (M_here μ).bind fun x1 =>
  if x1 = (nI 32) then
    ((some (mSI μ 1303 0 0 ((mI μ 1303 0 0) + (nI 1)))).bind fun μ2 =>
    rec μ2)
  else
  some μ
def M_look_l1 : Nat → Mem → Option Mem
  | 0 => fun _ => none
  | n + 1 => M_look_l1b  (M_look_l1  n)
def M_look (μ : Mem) : Option (Int32 × Mem) :=
  (M_look_l1 FU μ).bind fun μ1 =>
  (M_here μ1).bind fun x2 =>
  some (x2, μ1)
def M_bad (μ : Mem) : Option Mem :=
  if (mI μ 1304 0 0) = (-1) then
    ((some (mSI μ 1304 0 0 (mI μ 1303 0 0))).bind fun μ2 =>
    some μ2)
  else
  (some (mSI μ 1304 0 0 (mI μ 1304 0 0))).bind fun μ1 =>
  some μ1
def M_isDigit (a1 : Int32) : Option Int32 :=
  if a1 < (nI 48) then mRz (nI 0) else
  if (nI 57) < a1 then mRz (nI 0) else
  mRz (nI 1)
def M_isThing (a1 : Int32) (μ : Mem) : Option Int32 :=
  (M_in a1 (nI 0) ((mI μ 1314 0 0) - (nI 1))).bind fun x1 =>
  mRz x1
def M_thing_l1b (v6 : Int32) (rec : Int32 → Int32 → Option Int32) (v7 : Int32) (v8 : Int32) : Option Int32 :=
  if v8 = v6 then some v7 else
  (mRm v8 (nI 12)).bind fun x1 =>
  (some (v7 ||| ((nI 1) <<< (x1 &&& 31)))).bind fun x2 =>
  (mRm v8 (nI 12)).bind fun x3 =>
  (some (x3 + (nI 1))).bind fun x4 =>
  rec x2 x4
def M_thing_l1 (v6 : Int32) : Nat → Int32 → Int32 → Option Int32
  | 0 => fun _ _ => none
  | n + 1 => M_thing_l1b v6 (M_thing_l1 v6 n)
def M_thing (a1 : Int32) (a2 : Int32) (a3 : Int32) (a4 : Int32) (a5 : Int32) (a6 : Int32) (μ : Mem) : Option (Int32 × Mem) :=
  (M_in a1 (nI 0) (nI 99)).bind fun x1 =>
  if x1 = 0 then some ((-1), μ) else
  (M_in a2 (nI 0) (nI 99)).bind fun x2 =>
  if x2 = 0 then some ((-1), μ) else
  (M_in a3 (nI 0) (nI 99)).bind fun x3 =>
  if x3 = 0 then some ((-1), μ) else
  (M_in a5 (nI 1) (nI 12)).bind fun x4 =>
  if x4 = 0 then some ((-1), μ) else
  (M_in a6 (nI 1) (nI 12)).bind fun x5 =>
  if x5 = 0 then some ((-1), μ) else
  if (mI μ 1314 0 0) = (nI 12) then some ((-1), μ) else
  (mWr μ 1306 0 12 (mI μ 1314 0 0) a1).bind fun μ6 =>
  (mWr μ6 1307 0 12 (mI μ6 1314 0 0) a2).bind fun μ7 =>
  (mWr μ7 1308 0 12 (mI μ7 1314 0 0) a3).bind fun μ8 =>
  (mWz μ8 1309 0 12 (mI μ8 1314 0 0) a4).bind fun μ9 =>
  (some ((nI 1) <<< ((a5 - (nI 1)) &&& 31))).bind fun x10 =>
  (M_thing_l1 a6 FU x10 a5).bind fun x11 =>
  (mWr μ9 1310 0 12 (mI μ9 1314 0 0) x11).bind fun μ12 =>
  (some (mSI μ12 1314 0 0 ((mI μ12 1314 0 0) + (nI 1)))).bind fun μ13 =>
  some (((mI μ13 1314 0 0) - (nI 1)), μ13)
def M_isYear (a1 : Int32) : Option Int32 :=
  (M_in a1 (nI 1200) (nI 1999)).bind fun x1 =>
  mRz x1
def M_sized (a1 : Int32) (a2 : Int32) (a3 : Int32) (μ : Mem) : Option (Int32 × Mem) :=
  (M_isThing a1 μ).bind fun x1 =>
  if x1 = 0 then some ((-1), μ) else
  (M_isYear a2).bind fun x2 =>
  if x2 = 0 then some ((-1), μ) else
  (M_in a3 (nI 1) (nI 999)).bind fun x3 =>
  if x3 = 0 then some ((-1), μ) else
  (mRd μ 1311 0 12 a1).bind fun x4 =>
  if x4 = (nI 6) then some ((-1), μ) else
  (mRd μ 1311 0 12 a1).bind fun x5 =>
  kj (fun (_ : Unit) =>
    (mRd μ 1311 0 12 a1).bind fun x9 =>
    (mWr μ 1312 0 72 (((nI 6) * a1) + x9) a2).bind fun μ10 =>
    (mRd μ10 1311 0 12 a1).bind fun x11 =>
    (mWr μ10 1313 0 72 (((nI 6) * a1) + x11) a3).bind fun μ12 =>
    (mRd μ12 1311 0 12 a1).bind fun x13 =>
    (mWr μ12 1311 0 12 a1 (x13 + (nI 1))).bind fun μ14 =>
    (mRd μ14 1311 0 12 a1).bind fun x15 =>
    some (x15, μ14)) fun k8 =>
  if 0 < x5 then
    ((mRd μ 1311 0 12 a1).bind fun x6 =>
    (mRd μ 1312 0 72 ((((nI 6) * a1) + x6) - (nI 1))).bind fun x7 =>
    if x7 < a2 then k8 () else
    some ((-1), μ))
  else
  k8 ()
def M_sizeIn_l1b (v1 : Int32) (v2 : Int32) (μ : Mem) (rec : Int32 → Option Int32) (v3 : Int32) : Option Int32 :=
  (mRd μ 1311 0 12 v1).bind fun x1 =>
  if v3 < x1 then
    ((mRd μ 1312 0 72 (((nI 6) * v1) + v3)).bind fun x2 =>
    if v2 < x2 then some v3 else
    (some (v3 + (nI 1))).bind fun x3 =>
    rec x3)
  else
  some v3
def M_sizeIn_l1 (v1 : Int32) (v2 : Int32) (μ : Mem) : Nat → Int32 → Option Int32
  | 0 => fun _ => none
  | n + 1 => M_sizeIn_l1b v1 v2 μ (M_sizeIn_l1 v1 v2 μ n)
def M_sizeIn (a1 : Int32) (a2 : Int32) (μ : Mem) : Option Int32 :=
  (mRd μ 1311 0 12 a1).bind fun x1 =>
  if x1 = 0 then some (nI 10) else
  (M_sizeIn_l1 a1 a2 μ FU (nI 0)).bind fun x2 =>
  kj (fun (_ : Unit) =>
    (mRd μ 1313 0 72 (((nI 6) * a1) + (jMax (nI 0) (x2 - (nI 1))))).bind fun x13 =>
    some x13) fun k12 =>
  if x2 = 0 then k12 () else
  (mRd μ 1311 0 12 a1).bind fun x3 =>
  if x2 = x3 then k12 () else
  (some ((((nI 6) * a1) + x2) - (nI 1))).bind fun x4 =>
  (mRd μ 1313 0 72 x4).bind fun x5 =>
  (mRd μ 1313 0 72 (x4 + (nI 1))).bind fun x6 =>
  (mRd μ 1313 0 72 x4).bind fun x7 =>
  (mRd μ 1312 0 72 x4).bind fun x8 =>
  (mRd μ 1312 0 72 (x4 + (nI 1))).bind fun x9 =>
  (mRd μ 1312 0 72 x4).bind fun x10 =>
  (mDv ((x6 - x7) * (a2 - x8)) (x9 - x10)).bind fun x11 =>
  some (x5 + x11)
def M_size (a1 : Int32) (a2 : Int32) (μ : Mem) : Option Int32 :=
  (M_isThing a1 μ).bind fun x1 =>
  if x1 = 0 then some (-1) else
  (M_isYear a2).bind fun x2 =>
  if x2 = 0 then some (-1) else
  (M_sizeIn a1 a2 μ).bind fun x3 =>
  some x3
def M_number (a1 : Int32) (μ : Mem) : Option (Int32 × Mem) :=
  (M_look μ).bind fun (x1, μ2) =>
  (M_isDigit x1).bind fun x3 =>
  if x3 = 0 then
    ((M_bad μ2).bind fun μ19 =>
    some ((nI 1), μ19))
  else
  (M_here μ2).bind fun x4 =>
  (some (x4 - (nI 48))).bind fun x5 =>
  (some (mSI μ2 1303 0 0 ((mI μ2 1303 0 0) + (nI 1)))).bind fun μ6 =>
  (M_here μ6).bind fun x7 =>
  (M_isDigit x7).bind fun x8 =>
  (if x8 = 0 then some (x5, μ6) else
   (M_here μ6).bind fun x9 =>
   (some ((((nI 10) * x5) + x9) - (nI 48))).bind fun x10 =>
   (some (mSI μ6 1303 0 0 ((mI μ6 1303 0 0) + (nI 1)))).bind fun μ11 =>
   some (x10, μ11)).bind fun (x12, μ13) =>
  (M_here μ13).bind fun x14 =>
  (M_isDigit x14).bind fun x15 =>
  if x15 = 0 then
    (if x12 < a1 then
      ((some (mSI μ13 1303 0 0 ((mI μ13 1303 0 0) - (nI 1)))).bind fun μ16 =>
      (M_bad μ16).bind fun μ17 =>
      some (x12, μ17))
    else
    some (x12, μ13))
  else
  (M_bad μ13).bind fun μ18 =>
  some (x12, μ18)
def M_onPage_l1b (v1 : Int32) (v2 : Int32) (μ : Mem) (rec : Int32 → Option Int32) (v3 : Int32) : Option Int32 :=
  (mRd μ 1315 0 17 v1).bind fun x1 =>
  if v3 < x1 then
    ((mRd μ 1316 0 136 (((nI 8) * v1) + v3)).bind fun x2 =>
    if x2 = v2 then some v3 else
    (some (v3 + (nI 1))).bind fun x3 =>
    rec x3)
  else
  some (-1)
def M_onPage_l1 (v1 : Int32) (v2 : Int32) (μ : Mem) : Nat → Int32 → Option Int32
  | 0 => fun _ => none
  | n + 1 => M_onPage_l1b v1 v2 μ (M_onPage_l1 v1 v2 μ n)
def M_onPage (a1 : Int32) (a2 : Int32) (μ : Mem) : Option Int32 :=
  M_onPage_l1 a1 a2 μ FU (nI 0)
def M_item (a1 : Int32) (μ : Mem) : Option Mem :=
  (M_look μ).bind fun (x1, μ2) =>
  (some (x1 - (nI 97))).bind fun x3 =>
  (M_isThing x3 μ2).bind fun x4 =>
  if x4 = 0 then
    ((M_bad μ2).bind fun μ5 =>
    some μ5)
  else
  (M_onPage a1 x3 μ2).bind fun x6 =>
  if x6 = (-1) then
    ((mRd μ2 1315 0 17 a1).bind fun x8 =>
    if x8 = (nI 8) then
      ((M_bad μ2).bind fun μ33 =>
      some μ33)
    else
    (some (mSI μ2 1303 0 0 ((mI μ2 1303 0 0) + (nI 1)))).bind fun μ9 =>
    (mRd μ9 1315 0 17 a1).bind fun x10 =>
    (some (((nI 8) * a1) + x10)).bind fun x11 =>
    (mWr μ9 1316 0 136 x11 x3).bind fun μ12 =>
    (mWr μ12 1317 0 136 x11 (nI 0)).bind fun μ13 =>
    (mWr μ13 1318 0 136 x11 (nI 0)).bind fun μ14 =>
    (M_look μ14).bind fun (x15, μ16) =>
    (M_isDigit x15).bind fun x17 =>
    (if x17 = 0 then some μ16 else
     (M_number (nI 1) μ16).bind fun (x18, μ19) =>
     (mWr μ19 1317 0 136 x11 x18).bind fun μ20 =>
     (mRd μ20 1317 0 136 x11).bind fun x21 =>
     (mWr μ20 1318 0 136 x11 x21).bind fun μ22 =>
     if (mI μ22 1304 0 0) = (-1) then
       ((M_look μ22).bind fun (x23, μ24) =>
       if x23 = (nI 45) then
         ((some (mSI μ24 1303 0 0 ((mI μ24 1303 0 0) + (nI 1)))).bind fun μ25 =>
         (mRd μ25 1317 0 136 x11).bind fun x26 =>
         (M_number x26 μ25).bind fun (x27, μ28) =>
         (mWr μ28 1318 0 136 x11 x27).bind fun μ29 =>
         some μ29)
       else
       some μ24)
     else
     some μ22).bind fun μ30 =>
    (mRd μ30 1315 0 17 a1).bind fun x31 =>
    (mWr μ30 1315 0 17 a1 (x31 + (nI 1))).bind fun μ32 =>
    some μ32)
  else
  (M_bad μ2).bind fun μ7 =>
  some μ7
def M_isAct (a1 : Int32) : Option Int32 :=
  if a1 = (nI 66) then mRz (nI 1) else
  if a1 = (nI 82) then mRz (nI 1) else
  if a1 = (nI 84) then mRz (nI 1) else
  if a1 = (nI 83) then mRz (nI 1) else
  mRz (nI 0)
def M_acts_l2b (v1 : Int32) (v2 : Int32) (v3 : Int32) (v4 : Int32) (rec : Int32 → Mem → Option Mem) (v5 : Int32) (μ : Mem) : Option Mem :=
  if v5 < v4 then
    ((mRd μ 1319 0 17 v1).bind fun x1 =>
    (mWr μ 1320 0 1224 (((nI 72) * v1) + x1) v3).bind fun μ2 =>
    (mRd μ2 1319 0 17 v1).bind fun x3 =>
    (mWr μ2 1319 0 17 v1 (x3 + (nI 1))).bind fun μ4 =>
    (some (v5 + (nI 1))).bind fun x5 =>
    rec x5 μ4)
  else
  some μ
def M_acts_l2 (v1 : Int32) (v2 : Int32) (v3 : Int32) (v4 : Int32) : Nat → Int32 → Mem → Option Mem
  | 0 => fun _ _ => none
  | n + 1 => M_acts_l2b v1 v2 v3 v4 (M_acts_l2 v1 v2 v3 v4 n)
def M_acts_l3b (v1 : Int32) (v2 : Int32) (v3 : Int32) (v4 : Int32) (rec : Int32 → Mem → Option Mem) (v5 : Int32) (μ : Mem) : Option Mem :=
  if v5 < v4 then
    ((mRd μ 1319 0 17 v1).bind fun x1 =>
    (mWr μ 1320 0 1224 (((nI 72) * v1) + x1) v3).bind fun μ2 =>
    (mRd μ2 1319 0 17 v1).bind fun x3 =>
    (mWr μ2 1319 0 17 v1 (x3 + (nI 1))).bind fun μ4 =>
    (some (v5 + (nI 1))).bind fun x5 =>
    rec x5 μ4)
  else
  some μ
def M_acts_l3 (v1 : Int32) (v2 : Int32) (v3 : Int32) (v4 : Int32) : Nat → Int32 → Mem → Option Mem
  | 0 => fun _ _ => none
  | n + 1 => M_acts_l3b v1 v2 v3 v4 (M_acts_l3 v1 v2 v3 v4 n)
def M_acts_l1b (v1 : Int32) (rec : Int32 → Mem → Option Mem) (v2 : Int32) (μ : Mem) : Option Mem :=
  if (mI μ 1304 0 0) = (-1) then
    ((M_look μ).bind fun (x2, μ3) =>
    (M_isAct x2).bind fun x4 =>
    if x4 = 0 then
      (if v2 = 0 then
        ((M_bad μ3).bind fun μ5 =>
        some μ5)
      else
      some μ3)
    else
    if v2 = (nI 8) then
      ((M_bad μ3).bind fun μ18 =>
      some μ18)
    else
    (some (v2 + (nI 1))).bind fun x6 =>
    (M_here μ3).bind fun x7 =>
    (some (mSI μ3 1303 0 0 ((mI μ3 1303 0 0) + (nI 1)))).bind fun μ8 =>
    (M_look μ8).bind fun (x9, μ10) =>
    (M_isDigit x9).bind fun x11 =>
    if x11 = 0 then
      ((M_acts_l2 v1 x6 x7 (nI 1) FU (nI 0) μ10).bind fun μ12 =>
      rec x6 μ12)
    else
    (M_here μ10).bind fun x13 =>
    (some (x13 - (nI 48))).bind fun x14 =>
    if x14 = 0 then
      ((M_bad μ10).bind fun μ17 =>
      some μ17)
    else
    (some (mSI μ10 1303 0 0 ((mI μ10 1303 0 0) + (nI 1)))).bind fun μ15 =>
    (M_acts_l3 v1 x6 x7 x14 FU (nI 0) μ15).bind fun μ16 =>
    rec x6 μ16)
  else
  if v2 = 0 then
    ((M_bad μ).bind fun μ1 =>
    some μ1)
  else
  some μ
def M_acts_l1 (v1 : Int32) : Nat → Int32 → Mem → Option Mem
  | 0 => fun _ _ => none
  | n + 1 => M_acts_l1b v1 (M_acts_l1 v1 n)
def M_acts (a1 : Int32) (μ : Mem) : Option Mem :=
  M_acts_l1 a1 FU (nI 0) μ
def M_readPage_l1b (v1 : Int32) (rec : Mem → Option Mem) (μ : Mem) : Option Mem :=
  if (mI μ 1304 0 0) = (-1) then
    ((M_look μ).bind fun (x1, μ2) =>
    if x1 = (nI 44) then
      ((some (mSI μ2 1303 0 0 ((mI μ2 1303 0 0) + (nI 1)))).bind fun μ3 =>
      (M_item v1 μ3).bind fun μ4 =>
      rec μ4)
    else
    some μ2)
  else
  some μ
def M_readPage_l1 (v1 : Int32) : Nat → Mem → Option Mem
  | 0 => fun _ => none
  | n + 1 => M_readPage_l1b v1 (M_readPage_l1 v1 n)
def M_readPage (a1 : Int32) (μ : Mem) : Option (Int32 × Mem) :=
  (some (mSI μ 1303 0 0 (nI 0))).bind fun μ1 =>
  (some (mSI μ1 1304 0 0 (-1))).bind fun μ2 =>
  (mWr μ2 1315 0 17 a1 (nI 0)).bind fun μ3 =>
  (mWr μ3 1319 0 17 a1 (nI 0)).bind fun μ4 =>
  (M_item a1 μ4).bind fun μ5 =>
  (M_readPage_l1 a1 FU μ5).bind fun μ6 =>
  (if (mI μ6 1304 0 0) = (-1) then
     ((M_look μ6).bind fun (x7, μ8) =>
     if x7 = (nI 59) then
       ((some (mSI μ8 1303 0 0 ((mI μ8 1303 0 0) + (nI 1)))).bind fun μ9 =>
       (M_acts a1 μ9).bind fun μ10 =>
       some μ10)
     else
     some μ8)
   else
   some μ6).bind fun μ11 =>
  if (mI μ11 1304 0 0) = (-1) then
    ((M_look μ11).bind fun (x12, μ13) =>
    if x12 = (-1) then some ((mI μ13 1304 0 0), μ13) else
    (M_bad μ13).bind fun μ14 =>
    some ((mI μ14 1304 0 0), μ14))
  else
  some ((mI μ11 1304 0 0), μ11)
def M_put (a1 : Int32) (a2 : Int32) (μ : Mem) : Option Mem :=
  (mRd μ 1325 0 7 (mI μ 1331 0 0)).bind fun x1 =>
  if x1 < (nI 260) then
    ((mRd μ 1325 0 7 (mI μ 1331 0 0)).bind fun x2 =>
    (mWr μ 1323 0 1820 (((nI 260) * (mI μ 1331 0 0)) + x2) a1).bind fun μ3 =>
    (mRd μ3 1325 0 7 (mI μ3 1331 0 0)).bind fun x4 =>
    (mWr μ3 1324 0 1820 (((nI 260) * (mI μ3 1331 0 0)) + x4) a2).bind fun μ5 =>
    (mRd μ5 1325 0 7 (mI μ5 1331 0 0)).bind fun x6 =>
    (mWr μ5 1325 0 7 (mI μ5 1331 0 0) (x6 + (nI 1))).bind fun μ7 =>
    some μ7)
  else
  some μ
def M_letterOf (a1 : Int32) : Option Int32 :=
  if a1 = (nI 119) then some (nI 0) else
  if a1 = (nI 115) then some (nI 1) else
  if a1 = (nI 102) then some (nI 2) else
  if a1 = (nI 110) then some (nI 3) else
  if a1 = (nI 98) then some (nI 4) else
  if a1 = (nI 114) then some (nI 5) else
  if a1 = (nI 116) then some (nI 6) else
  if a1 = (nI 117) then some (nI 7) else
  if a1 = (nI 107) then some (nI 8) else
  some (-1)
def M_opens (μ : Mem) : Option Mem :=
  (if (mI μ 1305 0 0) = (nI 6) then
     ((M_bad μ).bind fun μ1 =>
     some μ1)
   else
   some μ).bind fun μ2 =>
  (some (mSI μ2 1305 0 0 ((mI μ2 1305 0 0) + (nI 1)))).bind fun μ3 =>
  (some (mSI μ3 1303 0 0 ((mI μ3 1303 0 0) + (nI 1)))).bind fun μ4 =>
  some μ4
def M_closes (a1 : Int32) (μ : Mem) : Option Mem :=
  (if (mI μ 1304 0 0) = (-1) then
     ((M_look μ).bind fun (x1, μ2) =>
     if x1 = a1 then some μ2 else
     (M_bad μ2).bind fun μ3 =>
     some μ3)
   else
   some μ).bind fun μ4 =>
  (some (mSI μ4 1303 0 0 ((mI μ4 1303 0 0) + (nI 1)))).bind fun μ5 =>
  (some (mSI μ5 1305 0 0 ((mI μ5 1305 0 0) - (nI 1)))).bind fun μ6 =>
  some μ6
def M_atom_l1b (r_M_sum : Mem → Option Mem) (rec : Int32 → Int32 → Mem → Option (Int32 × Mem)) (v2 : Int32) (v3 : Int32) (μ : Mem) : Option (Int32 × Mem) :=
  if v3 < (nI 4) then
    ((M_here μ).bind fun x1 =>
    (M_isDigit x1).bind fun x2 =>
    if x2 = 0 then some (v2, μ) else
    (M_here μ).bind fun x3 =>
    (some ((((nI 10) * v2) + x3) - (nI 48))).bind fun x4 =>
    (some (mSI μ 1303 0 0 ((mI μ 1303 0 0) + (nI 1)))).bind fun μ5 =>
    (some (v3 + (nI 1))).bind fun x6 =>
    rec x4 x6 μ5)
  else
  some (v2, μ)
def M_atom_l1 (r_M_sum : Mem → Option Mem) : Nat → Int32 → Int32 → Mem → Option (Int32 × Mem)
  | 0 => fun _ _ _ => none
  | n + 1 => M_atom_l1b r_M_sum (M_atom_l1 r_M_sum n)
def M_atom_B (r_M_sum : Mem → Option Mem) (μ : Mem) : Option Mem :=
  (M_look μ).bind fun (x1, μ2) =>
  (M_isDigit x1).bind fun x3 =>
  if x3 = 0 then
    ((M_letterOf x1).bind fun x4 =>
    if x4 = (-1) then
      (if x1 = (nI 91) then
        ((M_opens μ2).bind fun μ6 =>
        if (mI μ6 1304 0 0) = (-1) then
          ((r_M_sum μ6).bind fun μ7 =>
          (M_closes (nI 93) μ7).bind fun μ8 =>
          some μ8)
        else
        some μ6)
      else
      (M_bad μ2).bind fun μ5 =>
      some μ5)
    else
    (some (mSI μ2 1303 0 0 ((mI μ2 1303 0 0) + (nI 1)))).bind fun μ9 =>
    (M_letterOf x1).bind fun x10 =>
    (M_put (nI 1) x10 μ9).bind fun μ11 =>
    some μ11)
  else
  (M_atom_l1 r_M_sum FU (nI 0) (nI 0) μ2).bind fun (x12, μ13) =>
  (M_here μ13).bind fun x14 =>
  (M_isDigit x14).bind fun x15 =>
  (if x15 = 0 then some μ13 else
   (M_bad μ13).bind fun μ16 =>
   some μ16).bind fun μ17 =>
  (M_put (nI 0) x12 μ17).bind fun μ18 =>
  some μ18
def M_term_l1b (r_M_atom : Mem → Option Mem) (rec : Int32 → Mem → Option Mem) (v1 : Int32) (μ : Mem) : Option Mem :=
  kj (fun (_ : Unit) =>
    (some (mSI μ 1303 0 0 ((mI μ 1303 0 0) + (nI 1)))).bind fun μ2 =>
    (r_M_atom μ2).bind fun μ3 =>
    (if v1 = (nI 42) then some (nI 4) else
     some (nI 5)).bind fun x4 =>
    (M_put x4 (nI 0) μ3).bind fun μ5 =>
    (if (mI μ5 1304 0 0) = (-1) then
       ((M_look μ5).bind fun (x6, μ7) =>
       some (x6, μ7))
     else
     some (((-1) : Int32), μ5)).bind fun (x8, μ9) =>
    rec x8 μ9) fun k1 =>
  if v1 = (nI 42) then k1 () else
  if v1 = (nI 47) then k1 () else
  some μ
def M_term_l1 (r_M_atom : Mem → Option Mem) : Nat → Int32 → Mem → Option Mem
  | 0 => fun _ _ => none
  | n + 1 => M_term_l1b r_M_atom (M_term_l1 r_M_atom n)
def M_term_l2b (r_M_atom : Mem → Option Mem) (rec : Int32 → Mem → Option Mem) (v1 : Int32) (μ : Mem) : Option Mem :=
  kj (fun (_ : Unit) =>
    (some (mSI μ 1303 0 0 ((mI μ 1303 0 0) + (nI 1)))).bind fun μ2 =>
    (r_M_atom μ2).bind fun μ3 =>
    (if v1 = (nI 42) then some (nI 4) else
     some (nI 5)).bind fun x4 =>
    (M_put x4 (nI 0) μ3).bind fun μ5 =>
    (if (mI μ5 1304 0 0) = (-1) then
       ((M_look μ5).bind fun (x6, μ7) =>
       some (x6, μ7))
     else
     some (((-1) : Int32), μ5)).bind fun (x8, μ9) =>
    rec x8 μ9) fun k1 =>
  if v1 = (nI 42) then k1 () else
  if v1 = (nI 47) then k1 () else
  some μ
def M_term_l2 (r_M_atom : Mem → Option Mem) : Nat → Int32 → Mem → Option Mem
  | 0 => fun _ _ => none
  | n + 1 => M_term_l2b r_M_atom (M_term_l2 r_M_atom n)
def M_term_B (r_M_atom : Mem → Option Mem) (μ : Mem) : Option Mem :=
  (r_M_atom μ).bind fun μ1 =>
  if (mI μ1 1304 0 0) = (-1) then
    ((M_look μ1).bind fun (x3, μ4) =>
    (M_term_l2 r_M_atom FU x3 μ4).bind fun μ5 =>
    some μ5)
  else
  (M_term_l1 r_M_atom FU (-1) μ1).bind fun μ2 =>
  some μ2
def M_sum_l1b (r_M_term : Mem → Option Mem) (rec : Int32 → Mem → Option Mem) (v1 : Int32) (μ : Mem) : Option Mem :=
  kj (fun (_ : Unit) =>
    (some (mSI μ 1303 0 0 ((mI μ 1303 0 0) + (nI 1)))).bind fun μ2 =>
    (r_M_term μ2).bind fun μ3 =>
    (if v1 = (nI 43) then some (nI 2) else
     some (nI 3)).bind fun x4 =>
    (M_put x4 (nI 0) μ3).bind fun μ5 =>
    (if (mI μ5 1304 0 0) = (-1) then
       ((M_look μ5).bind fun (x6, μ7) =>
       some (x6, μ7))
     else
     some (((-1) : Int32), μ5)).bind fun (x8, μ9) =>
    rec x8 μ9) fun k1 =>
  if v1 = (nI 43) then k1 () else
  if v1 = (nI 45) then k1 () else
  some μ
def M_sum_l1 (r_M_term : Mem → Option Mem) : Nat → Int32 → Mem → Option Mem
  | 0 => fun _ _ => none
  | n + 1 => M_sum_l1b r_M_term (M_sum_l1 r_M_term n)
def M_sum_l2b (r_M_term : Mem → Option Mem) (rec : Int32 → Mem → Option Mem) (v1 : Int32) (μ : Mem) : Option Mem :=
  kj (fun (_ : Unit) =>
    (some (mSI μ 1303 0 0 ((mI μ 1303 0 0) + (nI 1)))).bind fun μ2 =>
    (r_M_term μ2).bind fun μ3 =>
    (if v1 = (nI 43) then some (nI 2) else
     some (nI 3)).bind fun x4 =>
    (M_put x4 (nI 0) μ3).bind fun μ5 =>
    (if (mI μ5 1304 0 0) = (-1) then
       ((M_look μ5).bind fun (x6, μ7) =>
       some (x6, μ7))
     else
     some (((-1) : Int32), μ5)).bind fun (x8, μ9) =>
    rec x8 μ9) fun k1 =>
  if v1 = (nI 43) then k1 () else
  if v1 = (nI 45) then k1 () else
  some μ
def M_sum_l2 (r_M_term : Mem → Option Mem) : Nat → Int32 → Mem → Option Mem
  | 0 => fun _ _ => none
  | n + 1 => M_sum_l2b r_M_term (M_sum_l2 r_M_term n)
def M_sum_B (r_M_term : Mem → Option Mem) (μ : Mem) : Option Mem :=
  (r_M_term μ).bind fun μ1 =>
  if (mI μ1 1304 0 0) = (-1) then
    ((M_look μ1).bind fun (x3, μ4) =>
    (M_sum_l2 r_M_term FU x3 μ4).bind fun μ5 =>
    some μ5)
  else
  (M_sum_l1 r_M_term FU (-1) μ1).bind fun μ2 =>
  some μ2
def G_M_atom : Nat → (Mem → Option Mem) × (Mem → Option Mem) × (Mem → Option Mem)
  | 0 => (fun _ => none, fun _ => none, fun _ => none)
  | n + 1 => (M_atom_B (G_M_atom n).2.2, M_term_B (G_M_atom n).1, M_sum_B (G_M_atom n).2.1)
def M_atom (n : Nat) : Mem → Option Mem := (G_M_atom n).1
def M_term (n : Nat) : Mem → Option Mem := (G_M_atom n).2.1
def M_sum (n : Nat) : Mem → Option Mem := (G_M_atom n).2.2
theorem M_atom_s (n : Nat) : M_atom (n + 1) = M_atom_B (M_sum n) := rfl
theorem M_term_s (n : Nat) : M_term (n + 1) = M_term_B (M_atom n) := rfl
theorem M_sum_s (n : Nat) : M_sum (n + 1) = M_sum_B (M_term n) := rfl
def M_isSign (a1 : Int32) : Option Int32 :=
  if a1 = (nI 61) then mRz (nI 1) else
  if a1 = (nI 60) then mRz (nI 1) else
  if a1 = (nI 62) then mRz (nI 1) else
  mRz (nI 0)
def M_compare (μ : Mem) : Option Mem :=
  (if (mI μ 1304 0 0) = (-1) then
     ((M_look μ).bind fun (x1, μ2) =>
     some (x1, μ2))
   else
   some (((-1) : Int32), μ)).bind fun (x3, μ4) =>
  (M_isSign x3).bind fun x5 =>
  if x5 = 0 then
    ((M_bad μ4).bind fun μ11 =>
    some μ11)
  else
  (some (mSI μ4 1303 0 0 ((mI μ4 1303 0 0) + (nI 1)))).bind fun μ6 =>
  (M_sum RF μ6).bind fun μ7 =>
  if x3 = (nI 61) then
    ((M_put (nI 6) (nI 0) μ7).bind fun μ10 =>
    some μ10)
  else
  if x3 = (nI 60) then
    ((M_put (nI 7) (nI 0) μ7).bind fun μ9 =>
    some μ9)
  else
  (M_put (nI 8) (nI 0) μ7).bind fun μ8 =>
  some μ8
def M_unit_B (r_M_unit : Mem → Option Mem) (r_M_condition : Mem → Option Mem) (μ : Mem) : Option Mem :=
  (M_look μ).bind fun (x1, μ2) =>
  if x1 = (nI 33) then
    ((M_opens μ2).bind fun μ8 =>
    if (mI μ8 1304 0 0) = (-1) then
      ((r_M_unit μ8).bind fun μ9 =>
      (M_put (nI 9) (nI 0) μ9).bind fun μ10 =>
      (some (mSI μ10 1305 0 0 ((mI μ10 1305 0 0) - (nI 1)))).bind fun μ11 =>
      some μ11)
    else
    some μ8)
  else
  if x1 = (nI 40) then
    ((M_opens μ2).bind fun μ5 =>
    if (mI μ5 1304 0 0) = (-1) then
      ((r_M_condition μ5).bind fun μ6 =>
      (M_closes (nI 41) μ6).bind fun μ7 =>
      some μ7)
    else
    some μ5)
  else
  (M_sum RF μ2).bind fun μ3 =>
  if (mI μ3 1304 0 0) = (-1) then
    ((M_compare μ3).bind fun μ4 =>
    some μ4)
  else
  some μ3
def M_truth_l1b (r_M_unit : Mem → Option Mem) (rec : Mem → Option Mem) (μ : Mem) : Option Mem :=
  if (mI μ 1304 0 0) = (-1) then
    ((M_look μ).bind fun (x1, μ2) =>
    if x1 = (nI 38) then
      ((some (mSI μ2 1303 0 0 ((mI μ2 1303 0 0) + (nI 1)))).bind fun μ3 =>
      (r_M_unit μ3).bind fun μ4 =>
      (M_put (nI 10) (nI 0) μ4).bind fun μ5 =>
      rec μ5)
    else
    some μ2)
  else
  some μ
def M_truth_l1 (r_M_unit : Mem → Option Mem) : Nat → Mem → Option Mem
  | 0 => fun _ => none
  | n + 1 => M_truth_l1b r_M_unit (M_truth_l1 r_M_unit n)
def M_truth_B (r_M_unit : Mem → Option Mem) (μ : Mem) : Option Mem :=
  (r_M_unit μ).bind fun μ1 =>
  (M_truth_l1 r_M_unit FU μ1).bind fun μ2 =>
  some μ2
def M_condition_l1b (r_M_truth : Mem → Option Mem) (rec : Mem → Option Mem) (μ : Mem) : Option Mem :=
  if (mI μ 1304 0 0) = (-1) then
    ((M_look μ).bind fun (x1, μ2) =>
    if x1 = (nI 124) then
      ((some (mSI μ2 1303 0 0 ((mI μ2 1303 0 0) + (nI 1)))).bind fun μ3 =>
      (r_M_truth μ3).bind fun μ4 =>
      (M_put (nI 11) (nI 0) μ4).bind fun μ5 =>
      rec μ5)
    else
    some μ2)
  else
  some μ
def M_condition_l1 (r_M_truth : Mem → Option Mem) : Nat → Mem → Option Mem
  | 0 => fun _ => none
  | n + 1 => M_condition_l1b r_M_truth (M_condition_l1 r_M_truth n)
def M_condition_B (r_M_truth : Mem → Option Mem) (μ : Mem) : Option Mem :=
  (r_M_truth μ).bind fun μ1 =>
  (M_condition_l1 r_M_truth FU μ1).bind fun μ2 =>
  some μ2
def G_M_unit : Nat → (Mem → Option Mem) × (Mem → Option Mem) × (Mem → Option Mem)
  | 0 => (fun _ => none, fun _ => none, fun _ => none)
  | n + 1 => (M_unit_B (G_M_unit n).1 (G_M_unit n).2.2, M_truth_B (G_M_unit n).1, M_condition_B (G_M_unit n).2.1)
def M_unit (n : Nat) : Mem → Option Mem := (G_M_unit n).1
def M_truth (n : Nat) : Mem → Option Mem := (G_M_unit n).2.1
def M_condition (n : Nat) : Mem → Option Mem := (G_M_unit n).2.2
theorem M_unit_s (n : Nat) : M_unit (n + 1) = M_unit_B (M_unit n) (M_condition n) := rfl
theorem M_truth_s (n : Nat) : M_truth (n + 1) = M_truth_B (M_unit n) := rfl
theorem M_condition_s (n : Nat) : M_condition (n + 1) = M_condition_B (M_truth n) := rfl
def M_goOn_l1b (rec : Mem → Option Mem) (μ : Mem) : Option Mem :=
  if (mI μ 1304 0 0) = (-1) then
    ((M_look μ).bind fun (x1, μ2) =>
    if x1 = (nI 38) then
      ((some (mSI μ2 1303 0 0 ((mI μ2 1303 0 0) + (nI 1)))).bind fun μ3 =>
      (M_unit RF μ3).bind fun μ4 =>
      (M_put (nI 10) (nI 0) μ4).bind fun μ5 =>
      rec μ5)
    else
    some μ2)
  else
  some μ
def M_goOn_l1 : Nat → Mem → Option Mem
  | 0 => fun _ => none
  | n + 1 => M_goOn_l1b  (M_goOn_l1  n)
def M_goOn_l2b (rec : Mem → Option Mem) (μ : Mem) : Option Mem :=
  if (mI μ 1304 0 0) = (-1) then
    ((M_look μ).bind fun (x1, μ2) =>
    if x1 = (nI 124) then
      ((some (mSI μ2 1303 0 0 ((mI μ2 1303 0 0) + (nI 1)))).bind fun μ3 =>
      (M_truth RF μ3).bind fun μ4 =>
      (M_put (nI 11) (nI 0) μ4).bind fun μ5 =>
      rec μ5)
    else
    some μ2)
  else
  some μ
def M_goOn_l2 : Nat → Mem → Option Mem
  | 0 => fun _ => none
  | n + 1 => M_goOn_l2b  (M_goOn_l2  n)
def M_goOn (μ : Mem) : Option Mem :=
  (M_compare μ).bind fun μ1 =>
  (M_goOn_l1 FU μ1).bind fun μ2 =>
  (M_goOn_l2 FU μ2).bind fun μ3 =>
  some μ3
def M_clause (μ : Mem) : Option Mem :=
  (mRd μ 1326 0 7 (mI μ 1331 0 0)).bind fun x1 =>
  (some (((nI 60) * (mI μ 1331 0 0)) + x1)).bind fun x2 =>
  (if (mI μ 1304 0 0) = (-1) then
     ((M_look μ).bind fun (x3, μ4) =>
     if x3 = (nI 121) then some μ4 else
     (M_bad μ4).bind fun μ5 =>
     some μ5)
   else
   some μ).bind fun μ6 =>
  (some (mSI μ6 1303 0 0 ((mI μ6 1303 0 0) + (nI 1)))).bind fun μ7 =>
  (if (mI μ7 1304 0 0) = (-1) then
     ((M_look μ7).bind fun (x8, μ9) =>
     if x8 = (nI 58) then some μ9 else
     (M_bad μ9).bind fun μ10 =>
     some μ10)
   else
   some μ7).bind fun μ11 =>
  (some (mSI μ11 1303 0 0 ((mI μ11 1303 0 0) + (nI 1)))).bind fun μ12 =>
  if (mI μ12 1304 0 0) = (-1) then
    ((mRd μ12 1325 0 7 (mI μ12 1331 0 0)).bind fun x13 =>
    (mWr μ12 1327 0 420 x2 x13).bind fun μ14 =>
    (M_look μ14).bind fun (x15, μ16) =>
    (if x15 = (nI 33) then some ((nI 1), μ16) else
     (M_look μ16).bind fun (x17, μ18) =>
     if x17 = (nI 40) then some ((nI 1), μ18) else
     some ((nI 0), μ18)).bind fun (x19, μ20) =>
    (if x19 = 0 then
       ((M_sum RF μ20).bind fun μ21 =>
       (if (mI μ21 1304 0 0) = (-1) then
          ((M_look μ21).bind fun (x22, μ23) =>
          (M_isSign x22).bind fun x24 =>
          if x24 = 0 then some ((nI 0), μ23) else
          some ((nI 1), μ23))
        else
        some ((nI 0), μ21)).bind fun (x25, μ26) =>
       if x25 = 0 then some (x25, μ26) else
       (M_goOn μ26).bind fun μ27 =>
       some (x25, μ27))
     else
     (M_condition RF μ20).bind fun μ28 =>
     some (x19, μ28)).bind fun (x29, μ30) =>
    (mRd μ30 1327 0 420 x2).bind fun x31 =>
    (mWr μ30 1328 0 420 x2 x31).bind fun μ32 =>
    kj (fun (μ40 : Mem) =>
      (mRd μ40 1325 0 7 (mI μ40 1331 0 0)).bind fun x42 =>
      (mWr μ40 1329 0 420 x2 x42).bind fun μ43 =>
      (mRd μ43 1326 0 7 (mI μ43 1331 0 0)).bind fun x44 =>
      (mWr μ43 1326 0 7 (mI μ43 1331 0 0) (x44 + (nI 1))).bind fun μ45 =>
      some μ45) fun k41 =>
    if x29 = 0 then k41 μ32 else
    if (mI μ32 1304 0 0) = (-1) then
      ((M_look μ32).bind fun (x33, μ34) =>
      if x33 = (nI 63) then
        ((some (mSI μ34 1303 0 0 ((mI μ34 1303 0 0) + (nI 1)))).bind fun μ35 =>
        (mRd μ35 1325 0 7 (mI μ35 1331 0 0)).bind fun x36 =>
        (mWr μ35 1328 0 420 x2 x36).bind fun μ37 =>
        (M_sum RF μ37).bind fun μ38 =>
        k41 μ38)
      else
      (M_bad μ34).bind fun μ39 =>
      some μ39)
    else
    k41 μ32)
  else
  some μ12
def M_readLaw_l1b (rec : Mem → Option Mem) (μ : Mem) : Option Mem :=
  if (mI μ 1304 0 0) = (-1) then
    ((M_look μ).bind fun (x1, μ2) =>
    if x1 = (nI 59) then
      ((some (mSI μ2 1303 0 0 ((mI μ2 1303 0 0) + (nI 1)))).bind fun μ3 =>
      (M_clause μ3).bind fun μ4 =>
      rec μ4)
    else
    some μ2)
  else
  some μ
def M_readLaw_l1 : Nat → Mem → Option Mem
  | 0 => fun _ => none
  | n + 1 => M_readLaw_l1b  (M_readLaw_l1  n)
def M_readLaw (a1 : Int32) (μ : Mem) : Option (Int32 × Mem) :=
  (some (mSI μ 1331 0 0 a1)).bind fun μ1 =>
  (some (mSI μ1 1303 0 0 (nI 0))).bind fun μ2 =>
  (some (mSI μ2 1304 0 0 (-1))).bind fun μ3 =>
  (some (mSI μ3 1305 0 0 (nI 0))).bind fun μ4 =>
  (mWr μ4 1325 0 7 a1 (nI 0)).bind fun μ5 =>
  (mWr μ5 1326 0 7 a1 (nI 0)).bind fun μ6 =>
  (M_clause μ6).bind fun μ7 =>
  (M_readLaw_l1 FU μ7).bind fun μ8 =>
  if (mI μ8 1304 0 0) = (-1) then
    ((M_look μ8).bind fun (x9, μ10) =>
    if x9 = (-1) then some ((mI μ10 1304 0 0), μ10) else
    (M_bad μ10).bind fun μ11 =>
    some ((mI μ11 1304 0 0), μ11))
  else
  some ((mI μ8 1304 0 0), μ8)
def M_fault (a1 : Int32) (μ : Mem) : Option (Int32 × Mem) :=
  if a1 = 0 then
    ((M_readPage (nI 16) μ).bind fun (x3, μ4) =>
    some (x3, μ4))
  else
  if a1 = (nI 1) then
    ((M_readLaw (nI 6) μ).bind fun (x1, μ2) =>
    some (x1, μ2))
  else
  some ((-2), μ)
def M_text (a1 : Int32) (μ : Mem) : Option (Int32 × Mem) :=
  if a1 = 0 then
    (if (mI μ 1322 0 0) = (nI 16) then some ((-1), μ) else
    (M_readPage (mI μ 1322 0 0) μ).bind fun (x5, μ6) =>
    if x5 = (-1) then
      ((mWr μ6 1321 0 17 (mI μ6 1322 0 0) (nI 0)).bind fun μ7 =>
      (some (mSI μ7 1302 0 0 (nI 0))).bind fun μ8 =>
      (some (mSI μ8 1322 0 0 ((mI μ8 1322 0 0) + (nI 1)))).bind fun μ9 =>
      some (((mI μ9 1322 0 0) - (nI 1)), μ9))
    else
    some ((-1), μ6))
  else
  if a1 = (nI 1) then
    (if (mI μ 1330 0 0) = (nI 6) then some ((-1), μ) else
    (M_readLaw (mI μ 1330 0 0) μ).bind fun (x1, μ2) =>
    if x1 = (-1) then
      ((some (mSI μ2 1302 0 0 (nI 0))).bind fun μ3 =>
      (some (mSI μ3 1330 0 0 ((mI μ3 1330 0 0) + (nI 1)))).bind fun μ4 =>
      some (((mI μ4 1330 0 0) - (nI 1)), μ4))
    else
    some ((-1), μ2))
  else
  some ((-1), μ)
def M_bounded (a1 : Int64) : Option Int32 :=
  some (((jMaxL (-1000000) (jMinL 1000000 a1)) : Int64).toInt32)
def M_worked (a1 : Int32) (a2 : Int64) (a3 : Int64) : Option Int32 :=
  kj (fun (_ : Unit) =>
    if (lg_cmp a2 0) = 0 then
      (if (lg_cmp a3 0) = 0 then some (nI 0) else
      some (nI 1))
    else
    some (nI 1)) fun k6 =>
  if a1 = (nI 2) then
    ((M_bounded (a2 + a3)).bind fun x1 =>
    some x1)
  else if a1 = (nI 3) then
    ((M_bounded (a2 - a3)).bind fun x2 =>
    some x2)
  else if a1 = (nI 4) then
    ((M_bounded (a2 * a3)).bind fun x3 =>
    some x3)
  else if a1 = (nI 5) then
    (if (lg_cmp a3 0) = 0 then some (nI 0) else
    (mDl a2 a3).bind fun x4 =>
    (M_bounded x4).bind fun x5 =>
    some x5)
  else if a1 = (nI 6) then
    (if (lg_cmp a2 a3) = 0 then some (nI 1) else
    some (nI 0))
  else if a1 = (nI 7) then
    (if (lg_cmp a2 a3) < 0 then some (nI 1) else
    some (nI 0))
  else if a1 = (nI 8) then
    (if 0 < (lg_cmp a2 a3) then some (nI 1) else
    some (nI 0))
  else if a1 = (nI 9) then
    (k6 ())
  else if a1 = (nI 10) then
    (if (lg_cmp a2 0) = 0 then some (nI 0) else
    if (lg_cmp a3 0) = 0 then some (nI 0) else
    some (nI 1))
  else 
  k6 ()
def M_workOut_l1b (v1 : Int32) (v3 : Int32) (rec : Int32 → Int32 → Mem → Option Mem) (v4 : Int32) (v5 : Int32) (μ : Mem) : Option Mem :=
  if v5 < (((nI 260) * v1) + v3) then
    ((mRd μ 1323 0 1820 v5).bind fun x1 =>
    (if x1 = 0 then
       ((mRd μ 1323 0 1820 v5).bind fun x2 =>
       (if x2 = 0 then
          ((mRd μ 1324 0 1820 v5).bind fun x5 =>
          some x5)
        else
        (mRd μ 1324 0 1820 v5).bind fun x3 =>
        (mRd μ 1332 0 9 x3).bind fun x4 =>
        some x4).bind fun x6 =>
       (mWr μ 1333 0 60 v4 x6).bind fun μ7 =>
       (some (v4 + (nI 1))).bind fun x8 =>
       some (x8, μ7))
     else
     (mRd μ 1323 0 1820 v5).bind fun x9 =>
     if x9 = (nI 1) then
       ((mRd μ 1323 0 1820 v5).bind fun x19 =>
       (if x19 = 0 then
          ((mRd μ 1324 0 1820 v5).bind fun x22 =>
          some x22)
        else
        (mRd μ 1324 0 1820 v5).bind fun x20 =>
        (mRd μ 1332 0 9 x20).bind fun x21 =>
        some x21).bind fun x23 =>
       (mWr μ 1333 0 60 v4 x23).bind fun μ24 =>
       (some (v4 + (nI 1))).bind fun x25 =>
       some (x25, μ24))
     else
     (mRd μ 1323 0 1820 v5).bind fun x10 =>
     if x10 = (nI 9) then
       ((mRd μ 1333 0 60 (v4 - (nI 1))).bind fun x17 =>
       (mWr μ 1333 0 60 (v4 - (nI 1)) ((nI 1) - x17)).bind fun μ18 =>
       some (v4, μ18))
     else
     (some (v4 + (-1))).bind fun x11 =>
     (mRd μ 1323 0 1820 v5).bind fun x12 =>
     (mRd μ 1333 0 60 (x11 - (nI 1))).bind fun x13 =>
     (mRd μ 1333 0 60 x11).bind fun x14 =>
     (M_worked x12 (x13.toInt64) (x14.toInt64)).bind fun x15 =>
     (mWr μ 1333 0 60 (x11 - (nI 1)) x15).bind fun μ16 =>
     some (x11, μ16)).bind fun (x26, μ27) =>
    (some (v5 + (nI 1))).bind fun x28 =>
    rec x26 x28 μ27)
  else
  some μ
def M_workOut_l1 (v1 : Int32) (v3 : Int32) : Nat → Int32 → Int32 → Mem → Option Mem
  | 0 => fun _ _ _ => none
  | n + 1 => M_workOut_l1b v1 v3 (M_workOut_l1 v1 v3 n)
def M_workOut (a1 : Int32) (a2 : Int32) (a3 : Int32) (μ : Mem) : Option (Int32 × Mem) :=
  (some (((nI 260) * a1) + a2)).bind fun x1 =>
  (M_workOut_l1 a1 a3 FU (nI 0) x1 μ).bind fun μ2 =>
  (mRd μ2 1333 0 60 (nI 0)).bind fun x3 =>
  some (x3, μ2)
def M_worthNow_l1b (v1 : Int32) (rec : Int32 → Mem → Option (Int32 × Mem)) (v2 : Int32) (μ : Mem) : Option (Int32 × Mem) :=
  (mRd μ 1326 0 7 v1).bind fun x1 =>
  if v2 < (((nI 60) * v1) + x1) then
    ((mRd μ 1327 0 420 v2).bind fun x2 =>
    (mRd μ 1328 0 420 v2).bind fun x3 =>
    kj (fun (μ9 : Mem) =>
      (mRd μ9 1328 0 420 v2).bind fun x11 =>
      (mRd μ9 1329 0 420 v2).bind fun x12 =>
      (M_workOut v1 x11 x12 μ9).bind fun (x13, μ14) =>
      some (x13, μ14)) fun k10 =>
    if x2 = x3 then k10 μ else
    (mRd μ 1327 0 420 v2).bind fun x4 =>
    (mRd μ 1328 0 420 v2).bind fun x5 =>
    (M_workOut v1 x4 x5 μ).bind fun (x6, μ7) =>
    if x6 = 0 then
      ((some (v2 + (nI 1))).bind fun x8 =>
      rec x8 μ7)
    else
    k10 μ7)
  else
  some ((nI 0), μ)
def M_worthNow_l1 (v1 : Int32) : Nat → Int32 → Mem → Option (Int32 × Mem)
  | 0 => fun _ _ => none
  | n + 1 => M_worthNow_l1b v1 (M_worthNow_l1 v1 n)
def M_worthNow (a1 : Int32) (μ : Mem) : Option (Int32 × Mem) :=
  (some ((nI 60) * a1)).bind fun x1 =>
  M_worthNow_l1 a1 FU x1 μ
def M_isPage (a1 : Int32) (μ : Mem) : Option Int32 :=
  (M_in a1 (nI 0) ((mI μ 1322 0 0) - (nI 1))).bind fun x1 =>
  mRz x1
def M_isLaw (a1 : Int32) (μ : Mem) : Option Int32 :=
  (M_in a1 (nI 0) ((mI μ 1330 0 0) - (nI 1))).bind fun x1 =>
  mRz x1
def M_bits (a1 : Int32) : Option Int32 :=
  (J_bitCount a1).bind fun x1 =>
  some x1
def M_thingsOf_l1b (v1 : Int32) (μ : Mem) (rec : Int32 → Int32 → Option Int32) (v2 : Int32) (v3 : Int32) : Option Int32 :=
  (mRd μ 1315 0 17 v1).bind fun x1 =>
  if v3 < x1 then
    ((mRd μ 1316 0 136 (((nI 8) * v1) + v3)).bind fun x2 =>
    (some (v2 ||| ((nI 1) <<< (x2 &&& 31)))).bind fun x3 =>
    (some (v3 + (nI 1))).bind fun x4 =>
    rec x3 x4)
  else
  some v2
def M_thingsOf_l1 (v1 : Int32) (μ : Mem) : Nat → Int32 → Int32 → Option Int32
  | 0 => fun _ _ => none
  | n + 1 => M_thingsOf_l1b v1 μ (M_thingsOf_l1 v1 μ n)
def M_thingsOf (a1 : Int32) (μ : Mem) : Option Int32 :=
  (M_thingsOf_l1 a1 μ FU (nI 0) (nI 0)).bind fun x1 =>
  some x1
def M_leftOut_l1b (v1 : Int32) (μ : Mem) (rec : Int32 → Int32 → Option Int32) (v2 : Int32) (v3 : Int32) : Option Int32 :=
  (mRd μ 1315 0 17 v1).bind fun x1 =>
  if v3 < x1 then
    ((mRd μ 1317 0 136 (((nI 8) * v1) + v3)).bind fun x2 =>
    (if x2 = 0 then
       ((mRd μ 1316 0 136 (((nI 8) * v1) + v3)).bind fun x3 =>
       some ((nI 1) <<< (x3 &&& 31)))
     else
     some (nI 0)).bind fun x4 =>
    (some (v2 ||| x4)).bind fun x5 =>
    (some (v3 + (nI 1))).bind fun x6 =>
    rec x5 x6)
  else
  some v2
def M_leftOut_l1 (v1 : Int32) (μ : Mem) : Nat → Int32 → Int32 → Option Int32
  | 0 => fun _ _ => none
  | n + 1 => M_leftOut_l1b v1 μ (M_leftOut_l1 v1 μ n)
def M_leftOut (a1 : Int32) (μ : Mem) : Option Int32 :=
  (M_leftOut_l1 a1 μ FU (nI 0) (nI 0)).bind fun x1 =>
  some x1
def M_page (a1 : Int32) (a2 : Int32) (μ : Mem) : Option (Int32 × Mem) :=
  (M_isPage a1 μ).bind fun x1 =>
  (if x1 = 0 then some (nI 1) else
   (M_in a2 (nI 0) (nI 3)).bind fun x2 =>
   if x2 = 0 then some (nI 1) else
   some (nI 0)).bind fun x3 =>
  (some (mSI μ 1300 0 0 x3)).bind fun μ4 =>
  if (mI μ4 1300 0 0) = (nI 1) then some ((nI 0), μ4) else
  if a2 = 0 then
    ((M_thingsOf a1 μ4).bind fun x8 =>
    some (x8, μ4))
  else
  if a2 = (nI 1) then
    ((mRd μ4 1319 0 17 a1).bind fun x7 =>
    some (x7, μ4))
  else
  if a2 = (nI 2) then
    ((M_leftOut a1 μ4).bind fun x6 =>
    some (x6, μ4))
  else
  (mRd μ4 1321 0 17 a1).bind fun x5 =>
  some (x5, μ4)
def M_most (a1 : Int32) (μ : Mem) : Option (Int32 × Mem) :=
  (M_in a1 (nI 1) (nI 20)).bind fun x1 =>
  if x1 = 0 then (mRz (nI 0)).bind fun z => some (z, μ) else
  (some (mSI μ 1339 0 0 a1)).bind fun μ2 =>
  (mRz (nI 1)).bind fun z => some (z, μ2)
def M_hold (a1 : Int32) (a2 : Int32) (a3 : Int32) (a4 : Int32) (μ : Mem) : Option (Int32 × Mem) :=
  (M_isPage a1 μ).bind fun x1 =>
  if x1 = 0 then some ((-1), μ) else
  (M_isLaw a2 μ).bind fun x2 =>
  if x2 = 0 then some ((-1), μ) else
  (M_in a3 (-1000000) (nI 1000000)).bind fun x3 =>
  if x3 = 0 then some ((-1), μ) else
  (M_in a4 a3 (nI 1000000)).bind fun x4 =>
  if x4 = 0 then some ((-1), μ) else
  if (mI μ 1338 0 0) = (nI 20) then some ((-1), μ) else
  (mWr μ 1334 0 20 (mI μ 1338 0 0) a1).bind fun μ5 =>
  (mWr μ5 1335 0 20 (mI μ5 1338 0 0) a2).bind fun μ6 =>
  (mWr μ6 1336 0 20 (mI μ6 1338 0 0) a3).bind fun μ7 =>
  (mWr μ7 1337 0 20 (mI μ7 1338 0 0) a4).bind fun μ8 =>
  (some (mSI μ8 1338 0 0 ((mI μ8 1338 0 0) + (nI 1)))).bind fun μ9 =>
  some ((mI μ9 1338 0 0), μ9)
def M_lowOf (a1 : Int32) (μ : Mem) : Option Int32 :=
  (mRd μ 1317 0 136 a1).bind fun x1 =>
  some (jMax (nI 1) x1)
def M_rangeOf (a1 : Int32) (μ : Mem) : Option Int32 :=
  (mRd μ 1317 0 136 a1).bind fun x1 =>
  (if x1 = 0 then some (mI μ 1339 0 0) else
   (mRd μ 1318 0 136 a1).bind fun x2 =>
   some x2).bind fun x3 =>
  (M_lowOf a1 μ).bind fun x4 =>
  some ((x3 - x4) + (nI 1))
def M_lay_l1b (v1 : Int32) (rec : Int32 → Int32 → Mem → Option Mem) (v3 : Int32) (v4 : Int32) (μ : Mem) : Option Mem :=
  if v4 < 0 then some μ else
  (M_rangeOf (((nI 8) * v1) + v4) μ).bind fun x1 =>
  (M_lowOf (((nI 8) * v1) + v4) μ).bind fun x2 =>
  (mRm v3 x1).bind fun x3 =>
  (mWr μ 1340 0 8 v4 (x2 + x3)).bind fun μ4 =>
  (mDv v3 x1).bind fun x5 =>
  (some (v4 + (-1))).bind fun x6 =>
  rec x5 x6 μ4
def M_lay_l1 (v1 : Int32) : Nat → Int32 → Int32 → Mem → Option Mem
  | 0 => fun _ _ _ => none
  | n + 1 => M_lay_l1b v1 (M_lay_l1 v1 n)
def M_lay (a1 : Int32) (a2 : Int32) (μ : Mem) : Option Mem :=
  (mRd μ 1315 0 17 a1).bind fun x1 =>
  (some (x1 - (nI 1))).bind fun x2 =>
  (M_lay_l1 a1 FU a2 x2 μ).bind fun μ3 =>
  some μ3
def M_spell_l1b (v1 : Int32) (rec : Int32 → Mem → Option Mem) (v2 : Int32) (μ : Mem) : Option Mem :=
  if v2 < (nI 9) then
    ((mWr μ 1332 0 9 v2 (nI 0)).bind fun μ1 =>
    (some (v2 + (nI 1))).bind fun x2 =>
    rec x2 μ1)
  else
  some μ
def M_spell_l1 (v1 : Int32) : Nat → Int32 → Mem → Option Mem
  | 0 => fun _ _ => none
  | n + 1 => M_spell_l1b v1 (M_spell_l1 v1 n)
def M_spell_l2b (v1 : Int32) (rec : Int32 → Mem → Option Mem) (v2 : Int32) (μ : Mem) : Option Mem :=
  (mRd μ 1315 0 17 v1).bind fun x1 =>
  if v2 < x1 then
    ((mRd μ 1316 0 136 (((nI 8) * v1) + v2)).bind fun x2 =>
    (mRd μ 1332 0 9 (nI 0)).bind fun x3 =>
    (mRd μ 1306 0 12 x2).bind fun x4 =>
    (mRd μ 1340 0 8 v2).bind fun x5 =>
    (mWr μ 1332 0 9 (nI 0) (x3 + (x4 * x5))).bind fun μ6 =>
    (mRd μ6 1332 0 9 (nI 1)).bind fun x7 =>
    (mRd μ6 1307 0 12 x2).bind fun x8 =>
    (mRd μ6 1340 0 8 v2).bind fun x9 =>
    (mWr μ6 1332 0 9 (nI 1) (x7 + (x8 * x9))).bind fun μ10 =>
    (mRd μ10 1332 0 9 (nI 2)).bind fun x11 =>
    (mRd μ10 1308 0 12 x2).bind fun x12 =>
    (mRd μ10 1340 0 8 v2).bind fun x13 =>
    (mWr μ10 1332 0 9 (nI 2) (x11 + (x12 * x13))).bind fun μ14 =>
    (mRd μ14 1332 0 9 (nI 3)).bind fun x15 =>
    (mRd μ14 1340 0 8 v2).bind fun x16 =>
    (mWr μ14 1332 0 9 (nI 3) (x15 + x16)).bind fun μ17 =>
    (mRd μ17 1309 0 12 x2).bind fun x18 =>
    (if x18 = 0 then
       ((mRd μ17 1332 0 9 (nI 8)).bind fun x19 =>
       some x19)
     else
     some (nI 1)).bind fun x20 =>
    (mWr μ17 1332 0 9 (nI 8) x20).bind fun μ21 =>
    (some (v2 + (nI 1))).bind fun x22 =>
    rec x22 μ21)
  else
  some μ
def M_spell_l2 (v1 : Int32) : Nat → Int32 → Mem → Option Mem
  | 0 => fun _ _ => none
  | n + 1 => M_spell_l2b v1 (M_spell_l2 v1 n)
def M_spell_l3b (v1 : Int32) (rec : Int32 → Mem → Option Mem) (v2 : Int32) (μ : Mem) : Option Mem :=
  (mRd μ 1319 0 17 v1).bind fun x1 =>
  if v2 < x1 then
    ((mRd μ 1320 0 1224 (((nI 72) * v1) + v2)).bind fun x2 =>
    (if x2 = (nI 66) then some (nI 4) else
     if x2 = (nI 82) then some (nI 5) else
     if x2 = (nI 84) then some (nI 6) else
     some (nI 7)).bind fun x3 =>
    (mRd μ 1332 0 9 x3).bind fun x4 =>
    (mWr μ 1332 0 9 x3 (x4 + (nI 1))).bind fun μ5 =>
    (some (v2 + (nI 1))).bind fun x6 =>
    rec x6 μ5)
  else
  some μ
def M_spell_l3 (v1 : Int32) : Nat → Int32 → Mem → Option Mem
  | 0 => fun _ _ => none
  | n + 1 => M_spell_l3b v1 (M_spell_l3 v1 n)
def M_spell (a1 : Int32) (μ : Mem) : Option Mem :=
  (M_spell_l1 a1 FU (nI 0) μ).bind fun μ1 =>
  (M_spell_l2 a1 FU (nI 0) μ1).bind fun μ2 =>
  (M_spell_l3 a1 FU (nI 0) μ2).bind fun μ3 =>
  some μ3
def M_isKept_l1b (v1 : Int32) (rec : Int32 → Mem → Option (Int32 × Mem)) (v2 : Int32) (μ : Mem) : Option (Int32 × Mem) :=
  if v2 < (mI μ 1338 0 0) then
    ((mRd μ 1334 0 20 v2).bind fun x1 =>
    if x1 = v1 then
      ((mRd μ 1335 0 20 v2).bind fun x3 =>
      (M_worthNow x3 μ).bind fun (x4, μ5) =>
      (mRd μ5 1336 0 20 v2).bind fun x6 =>
      (mRd μ5 1337 0 20 v2).bind fun x7 =>
      (M_in x4 x6 x7).bind fun x8 =>
      if x8 = 0 then (mRz (nI 0)).bind fun z => some (z, μ5) else
      (some (v2 + (nI 1))).bind fun x9 =>
      rec x9 μ5)
    else
    (some (v2 + (nI 1))).bind fun x2 =>
    rec x2 μ)
  else
  (mRz (nI 1)).bind fun z => some (z, μ)
def M_isKept_l1 (v1 : Int32) : Nat → Int32 → Mem → Option (Int32 × Mem)
  | 0 => fun _ _ => none
  | n + 1 => M_isKept_l1b v1 (M_isKept_l1 v1 n)
def M_isKept (a1 : Int32) (μ : Mem) : Option (Int32 × Mem) :=
  M_isKept_l1 a1 FU (nI 0) μ
def M_findDishes_l2b (v1 : Int32) (rec : Int32 → Mem → Option Mem) (v2 : Int32) (μ : Mem) : Option Mem :=
  if v2 < (mI μ 1343 0 0) then
    ((M_lay v1 v2 μ).bind fun μ1 =>
    (M_spell v1 μ1).bind fun μ2 =>
    (M_isKept v1 μ2).bind fun (x3, μ4) =>
    (if x3 = 0 then some μ4 else
     (mWr μ4 1341 0 5000 (mI μ4 1342 0 0) v2).bind fun μ5 =>
     (some (mSI μ5 1342 0 0 ((mI μ5 1342 0 0) + (nI 1)))).bind fun μ6 =>
     some μ6).bind fun μ7 =>
    (some (v2 + (nI 1))).bind fun x8 =>
    rec x8 μ7)
  else
  some μ
def M_findDishes_l2 (v1 : Int32) : Nat → Int32 → Mem → Option Mem
  | 0 => fun _ _ => none
  | n + 1 => M_findDishes_l2b v1 (M_findDishes_l2 v1 n)
def M_findDishes_l1b (v1 : Int32) (rec : Int32 → Mem → Option (Int32 × Mem)) (v2 : Int32) (μ : Mem) : Option (Int32 × Mem) :=
  (mRd μ 1315 0 17 v1).bind fun x1 =>
  if v2 < x1 then
    ((M_rangeOf (((nI 8) * v1) + v2) μ).bind fun x4 =>
    (some (mSI μ 1343 0 0 ((mI μ 1343 0 0) * x4))).bind fun μ5 =>
    if (nI 5000) < (mI μ5 1343 0 0) then (mRz (nI 0)).bind fun z => some (z, μ5) else
    (some (v2 + (nI 1))).bind fun x6 =>
    rec x6 μ5)
  else
  (some (mSI μ 1342 0 0 (nI 0))).bind fun μ2 =>
  (M_findDishes_l2 v1 FU (nI 0) μ2).bind fun μ3 =>
  (mRz (nI 1)).bind fun z => some (z, μ3)
def M_findDishes_l1 (v1 : Int32) : Nat → Int32 → Mem → Option (Int32 × Mem)
  | 0 => fun _ _ => none
  | n + 1 => M_findDishes_l1b v1 (M_findDishes_l1 v1 n)
def M_findDishes (a1 : Int32) (μ : Mem) : Option (Int32 × Mem) :=
  (some (mSI μ 1343 0 0 (nI 1))).bind fun μ1 =>
  M_findDishes_l1 a1 FU (nI 0) μ1
def M_isTold (a1 : Int32) (μ : Mem) : Option (Int32 × Mem) :=
  (M_isPage a1 μ).bind fun x1 =>
  if x1 = 0 then (mRz (nI 0)).bind fun z => some (z, μ) else
  (M_findDishes a1 μ).bind fun (x2, μ3) =>
  if x2 = 0 then (mRz (nI 0)).bind fun z => some (z, μ3) else
  (mRz (nI 1)).bind fun z => some (z, μ3)
def M_go (a1 : Int32) (a2 : Int32) (μ : Mem) : Option Mem :=
  (mRd μ 1341 0 5000 a2).bind fun x1 =>
  (M_lay a1 x1 μ).bind fun μ2 =>
  (M_spell a1 μ2).bind fun μ3 =>
  some μ3
def M_dishes (a1 : Int32) (μ : Mem) : Option (Int32 × Mem) :=
  (M_isTold a1 μ).bind fun (x1, μ2) =>
  if x1 = 0 then some ((-1), μ2) else
  some ((mI μ2 1342 0 0), μ2)
def M_dish (a1 : Int32) (a2 : Int32) (a3 : Int32) (μ : Mem) : Option (Int32 × Mem) :=
  (M_isThing a3 μ).bind fun x1 =>
  if x1 = 0 then some ((-1), μ) else
  (M_isTold a1 μ).bind fun (x2, μ3) =>
  if x2 = 0 then some ((-1), μ3) else
  (M_in a2 (nI 0) ((mI μ3 1342 0 0) - (nI 1))).bind fun x4 =>
  if x4 = 0 then some ((-1), μ3) else
  (M_go a1 a2 μ3).bind fun μ5 =>
  (M_onPage a1 a3 μ5).bind fun x6 =>
  if x6 = (-1) then some ((nI 0), μ5) else
  (mRd μ5 1340 0 8 x6).bind fun x7 =>
  some (x7, μ5)
def M_span_l1b (v1 : Int32) (v3 : Int32) (v4 : Int32) (rec : Int32 → Int32 → Mem → Option (Int32 × Mem)) (v5 : Int32) (v6 : Int32) (μ : Mem) : Option (Int32 × Mem) :=
  if v6 < (mI μ 1342 0 0) then
    ((M_go v1 v6 μ).bind fun μ1 =>
    (if v5 = (-1) then
       ((mRd μ1 1340 0 8 v4).bind fun x4 =>
       some x4)
     else
     if v3 = 0 then
       ((mRd μ1 1340 0 8 v4).bind fun x3 =>
       some (jMin v5 x3))
     else
     (mRd μ1 1340 0 8 v4).bind fun x2 =>
     some (jMax v5 x2)).bind fun x5 =>
    (some (v6 + (nI 1))).bind fun x6 =>
    rec x5 x6 μ1)
  else
  some (v5, μ)
def M_span_l1 (v1 : Int32) (v3 : Int32) (v4 : Int32) : Nat → Int32 → Int32 → Mem → Option (Int32 × Mem)
  | 0 => fun _ _ _ => none
  | n + 1 => M_span_l1b v1 v3 v4 (M_span_l1 v1 v3 v4 n)
def M_span (a1 : Int32) (a2 : Int32) (a3 : Int32) (μ : Mem) : Option (Int32 × Mem) :=
  (M_in a3 (nI 0) (nI 1)).bind fun x1 =>
  if x1 = 0 then some ((-1), μ) else
  (M_isThing a2 μ).bind fun x2 =>
  if x2 = 0 then some ((-1), μ) else
  (M_isTold a1 μ).bind fun (x3, μ4) =>
  if x3 = 0 then some ((-1), μ4) else
  if (mI μ4 1342 0 0) = 0 then some ((-1), μ4) else
  (M_onPage a1 a2 μ4).bind fun x5 =>
  if x5 = (-1) then some ((-1), μ4) else
  (M_onPage a1 a2 μ4).bind fun x6 =>
  (M_span_l1 a1 a3 x6 FU (-1) (nI 0) μ4).bind fun (x7, μ8) =>
  some (x7, μ8)
def M_alike_l1b (v1 : Int32) (v2 : Int32) (rec : Int32 → Mem → Option Mem) (v3 : Int32) (μ : Mem) : Option Mem :=
  if v3 < (nI 100) then
    ((mWr μ 1344 0 100 v3 (nI 0)).bind fun μ1 =>
    (some (v3 + (nI 1))).bind fun x2 =>
    rec x2 μ1)
  else
  some μ
def M_alike_l1 (v1 : Int32) (v2 : Int32) : Nat → Int32 → Mem → Option Mem
  | 0 => fun _ _ => none
  | n + 1 => M_alike_l1b v1 v2 (M_alike_l1 v1 v2 n)
def M_alike_l2b (v1 : Int32) (v2 : Int32) (rec : Int32 → Int32 → Mem → Option (Int32 × Mem)) (v3 : Int32) (v4 : Int32) (μ : Mem) : Option (Int32 × Mem) :=
  if v4 < (mI μ 1342 0 0) then
    ((mRd μ 1341 0 5000 v4).bind fun x1 =>
    (M_lay v1 x1 μ).bind fun μ2 =>
    (mRd μ2 1340 0 8 v2).bind fun x3 =>
    (mRd μ2 1344 0 100 x3).bind fun x4 =>
    (mWr μ2 1344 0 100 x3 (x4 + (nI 1))).bind fun μ5 =>
    (mRd μ5 1340 0 8 v2).bind fun x6 =>
    (mRd μ5 1344 0 100 x6).bind fun x7 =>
    (some (jMax v3 x7)).bind fun x8 =>
    (some (v4 + (nI 1))).bind fun x9 =>
    rec x8 x9 μ5)
  else
  some (v3, μ)
def M_alike_l2 (v1 : Int32) (v2 : Int32) : Nat → Int32 → Int32 → Mem → Option (Int32 × Mem)
  | 0 => fun _ _ _ => none
  | n + 1 => M_alike_l2b v1 v2 (M_alike_l2 v1 v2 n)
def M_alike (a1 : Int32) (a2 : Int32) (μ : Mem) : Option (Int32 × Mem) :=
  (M_alike_l1 a1 a2 FU (nI 0) μ).bind fun μ1 =>
  (M_alike_l2 a1 a2 FU (nI 0) (nI 0) μ1).bind fun (x2, μ3) =>
  some (x2, μ3)
def M_shared_l1b (v1 : Int32) (rec : Int32 → Int32 → Mem → Option (Int32 × Mem)) (v2 : Int32) (v3 : Int32) (μ : Mem) : Option (Int32 × Mem) :=
  (mRd μ 1315 0 17 v1).bind fun x1 =>
  if v3 < x1 then
    ((M_alike v1 v3 μ).bind fun (x2, μ3) =>
    (if x2 = (mI μ3 1342 0 0) then
       ((mRd μ3 1316 0 136 (((nI 8) * v1) + v3)).bind fun x4 =>
       some ((nI 1) <<< (x4 &&& 31)))
     else
     some (nI 0)).bind fun x5 =>
    (some (v2 ||| x5)).bind fun x6 =>
    (some (v3 + (nI 1))).bind fun x7 =>
    rec x6 x7 μ3)
  else
  some (v2, μ)
def M_shared_l1 (v1 : Int32) : Nat → Int32 → Int32 → Mem → Option (Int32 × Mem)
  | 0 => fun _ _ _ => none
  | n + 1 => M_shared_l1b v1 (M_shared_l1 v1 n)
def M_shared (a1 : Int32) (μ : Mem) : Option (Int32 × Mem) :=
  (M_isTold a1 μ).bind fun (x1, μ2) =>
  if x1 = 0 then some ((-1), μ2) else
  if (mI μ2 1342 0 0) = 0 then some ((-1), μ2) else
  (M_shared_l1 a1 FU (nI 0) (nI 0) μ2).bind fun (x3, μ4) =>
  some (x3, μ4)
def M_weigh_l1b (v1 : Int32) (rec : Int32 → Int32 → Mem → Option (Int32 × Mem)) (v2 : Int32) (v3 : Int32) (μ : Mem) : Option (Int32 × Mem) :=
  (mRd μ 1315 0 17 v1).bind fun x1 =>
  if v3 < x1 then
    ((M_alike v1 v3 μ).bind fun (x2, μ3) =>
    (M_alike v1 v2 μ3).bind fun (x4, μ5) =>
    (if x2 < x4 then some v3 else
     some v2).bind fun x6 =>
    (some (v3 + (nI 1))).bind fun x7 =>
    rec x6 x7 μ5)
  else
  some (v2, μ)
def M_weigh_l1 (v1 : Int32) : Nat → Int32 → Int32 → Mem → Option (Int32 × Mem)
  | 0 => fun _ _ _ => none
  | n + 1 => M_weigh_l1b v1 (M_weigh_l1 v1 n)
def M_weigh (a1 : Int32) (μ : Mem) : Option (Int32 × Mem) :=
  (M_isTold a1 μ).bind fun (x1, μ2) =>
  if x1 = 0 then some ((-1), μ2) else
  if (mI μ2 1342 0 0) = 0 then some ((-1), μ2) else
  (M_weigh_l1 a1 FU (nI 0) (nI 1) μ2).bind fun (x3, μ4) =>
  (mRd μ4 1316 0 136 (((nI 8) * a1) + x3)).bind fun x5 =>
  some (x5, μ4)
def M_worth (a1 : Int32) (a2 : Int32) (a3 : Int32) (μ : Mem) : Option (Int32 × Mem) :=
  (M_isLaw a3 μ).bind fun x1 =>
  if x1 = 0 then some ((-10000000), μ) else
  (M_isTold a1 μ).bind fun (x2, μ3) =>
  if x2 = 0 then some ((-10000000), μ3) else
  (M_in a2 (nI 0) ((mI μ3 1342 0 0) - (nI 1))).bind fun x4 =>
  if x4 = 0 then some ((-10000000), μ3) else
  (M_go a1 a2 μ3).bind fun μ5 =>
  (M_worthNow a3 μ5).bind fun (x6, μ7) =>
  some (x6, μ7)
def M_range_l1b (v1 : Int32) (v2 : Int32) (v3 : Int32) (rec : Int32 → Int32 → Mem → Option (Int32 × Mem)) (v4 : Int32) (v5 : Int32) (μ : Mem) : Option (Int32 × Mem) :=
  if v5 < (mI μ 1342 0 0) then
    ((M_go v1 v5 μ).bind fun μ1 =>
    (M_worthNow v2 μ1).bind fun (x2, μ3) =>
    (if v5 = 0 then some x2 else
     if v3 = 0 then some (jMin v4 x2) else
     some (jMax v4 x2)).bind fun x4 =>
    (some (v5 + (nI 1))).bind fun x5 =>
    rec x4 x5 μ3)
  else
  some (v4, μ)
def M_range_l1 (v1 : Int32) (v2 : Int32) (v3 : Int32) : Nat → Int32 → Int32 → Mem → Option (Int32 × Mem)
  | 0 => fun _ _ _ => none
  | n + 1 => M_range_l1b v1 v2 v3 (M_range_l1 v1 v2 v3 n)
def M_range (a1 : Int32) (a2 : Int32) (a3 : Int32) (μ : Mem) : Option (Int32 × Mem) :=
  (M_isLaw a2 μ).bind fun x1 =>
  if x1 = 0 then some ((-10000000), μ) else
  (M_in a3 (nI 0) (nI 1)).bind fun x2 =>
  if x2 = 0 then some ((-10000000), μ) else
  (M_isTold a1 μ).bind fun (x3, μ4) =>
  if x3 = 0 then some ((-10000000), μ4) else
  if (mI μ4 1342 0 0) = 0 then some ((-10000000), μ4) else
  (M_range_l1 a1 a2 a3 FU (nI 0) (nI 0) μ4).bind fun (x5, μ6) =>
  some (x5, μ6)
def M_trial (a1 : Int32) (a2 : Int32) (a3 : Int32) (μ : Mem) : Option (Int32 × Mem) :=
  (M_isLaw a1 μ).bind fun x1 =>
  if x1 = 0 then some ((-1), μ) else
  (M_in a2 (-9999) (nI 9999)).bind fun x2 =>
  if x2 = 0 then some ((-1), μ) else
  if (mI μ 1348 0 0) = (nI 20) then some ((-1), μ) else
  (mWr μ 1345 0 20 (mI μ 1348 0 0) a1).bind fun μ3 =>
  (mWr μ3 1346 0 20 (mI μ3 1348 0 0) a2).bind fun μ4 =>
  (mWz μ4 1347 0 20 (mI μ4 1348 0 0) a3).bind fun μ5 =>
  (some (mSI μ5 1348 0 0 ((mI μ5 1348 0 0) + (nI 1)))).bind fun μ6 =>
  some ((mI μ6 1348 0 0), μ6)
def M_standing_l1b (v1 : Int32) (v2 : Int32) (μ : Mem) (rec : Int32 → Int32 → Int32 → Option (Int32 × Int32)) (v3 : Int32) (v4 : Int32) (v5 : Int32) : Option (Int32 × Int32) :=
  if v5 < (mI μ 1348 0 0) then
    ((if v3 = 0 then
       ((mRd μ 1345 0 20 v5).bind fun x1 =>
       if x1 = v1 then
         ((mRd μ 1347 0 20 v5).bind fun x2 =>
         if x2 = 0 then some (nI 0) else
         (mRd μ 1346 0 20 v5).bind fun x3 =>
         if v2 < x3 then some (nI 0) else
         some (nI 1))
       else
       some (nI 0))
     else
     some (nI 1)).bind fun x4 =>
    (if v4 = 0 then
       ((mRd μ 1345 0 20 v5).bind fun x5 =>
       if x5 = v1 then
         ((mRd μ 1347 0 20 v5).bind fun x6 =>
         if x6 = 0 then
           ((mRd μ 1346 0 20 v5).bind fun x7 =>
           if x7 < v2 then some (nI 0) else
           some (nI 1))
         else
         some (nI 0))
       else
       some (nI 0))
     else
     some (nI 1)).bind fun x8 =>
    (some (v5 + (nI 1))).bind fun x9 =>
    rec x4 x8 x9)
  else
  some (v3, v4)
def M_standing_l1 (v1 : Int32) (v2 : Int32) (μ : Mem) : Nat → Int32 → Int32 → Int32 → Option (Int32 × Int32)
  | 0 => fun _ _ _ => none
  | n + 1 => M_standing_l1b v1 v2 μ (M_standing_l1 v1 v2 μ n)
def M_standing (a1 : Int32) (a2 : Int32) (μ : Mem) : Option Int32 :=
  (M_standing_l1 a1 a2 μ FU (nI 0) (nI 0) (nI 0)).bind fun (x1, x2) =>
  if x1 = x2 then some (-1) else
  if x1 = 0 then some (nI 0) else
  some (nI 1)
def M_stands (a1 : Int32) (a2 : Int32) (a3 : Int32) (μ : Mem) : Option (Int32 × Mem) :=
  (M_isLaw a3 μ).bind fun x1 =>
  if x1 = 0 then some ((-1), μ) else
  (M_isTold a1 μ).bind fun (x2, μ3) =>
  if x2 = 0 then some ((-1), μ3) else
  (M_in a2 (nI 0) ((mI μ3 1342 0 0) - (nI 1))).bind fun x4 =>
  if x4 = 0 then some ((-1), μ3) else
  (M_go a1 a2 μ3).bind fun μ5 =>
  (M_worthNow a3 μ5).bind fun (x6, μ7) =>
  (M_standing a3 x6 μ7).bind fun x8 =>
  some (x8, μ7)
def M_stand_l1b (v1 : Int32) (v2 : Int32) (v3 : Int32) (rec : Int32 → Int32 → Mem → Option (Int32 × Mem)) (v4 : Int32) (v5 : Int32) (μ : Mem) : Option (Int32 × Mem) :=
  if v5 < (mI μ 1342 0 0) then
    ((M_go v1 v5 μ).bind fun μ1 =>
    (M_worthNow v2 μ1).bind fun (x2, μ3) =>
    (M_standing v2 x2 μ3).bind fun x4 =>
    (if x4 = v3 then some (nI 1) else
     some (nI 0)).bind fun x5 =>
    (some (v4 + x5)).bind fun x6 =>
    (some (v5 + (nI 1))).bind fun x7 =>
    rec x6 x7 μ3)
  else
  some (v4, μ)
def M_stand_l1 (v1 : Int32) (v2 : Int32) (v3 : Int32) : Nat → Int32 → Int32 → Mem → Option (Int32 × Mem)
  | 0 => fun _ _ _ => none
  | n + 1 => M_stand_l1b v1 v2 v3 (M_stand_l1 v1 v2 v3 n)
def M_stand (a1 : Int32) (a2 : Int32) (a3 : Int32) (μ : Mem) : Option (Int32 × Mem) :=
  (M_isLaw a2 μ).bind fun x1 =>
  if x1 = 0 then some ((-1), μ) else
  (M_in a3 (nI 0) (nI 1)).bind fun x2 =>
  if x2 = 0 then some ((-1), μ) else
  (M_isTold a1 μ).bind fun (x3, μ4) =>
  if x3 = 0 then some ((-1), μ4) else
  (M_stand_l1 a1 a2 a3 FU (nI 0) (nI 0) μ4).bind fun (x5, μ6) =>
  some (x5, μ6)
def M_book (a1 : Int32) (μ : Mem) : Option (Int32 × Mem) :=
  (M_in a1 (-1) ((mI μ 1354 0 0) - (nI 1))).bind fun x1 =>
  if x1 = 0 then some ((-1), μ) else
  if (mI μ 1354 0 0) = (nI 12) then some ((-1), μ) else
  (mWr μ 1350 0 12 (mI μ 1354 0 0) a1).bind fun μ2 =>
  (mWr μ2 1351 0 12 (mI μ2 1354 0 0) (-1)).bind fun μ3 =>
  (some (mSI μ3 1354 0 0 ((mI μ3 1354 0 0) + (nI 1)))).bind fun μ4 =>
  some (((mI μ4 1354 0 0) - (nI 1)), μ4)
def M_slip (a1 : Int32) (a2 : Int32) (a3 : Int32) (μ : Mem) : Option (Int32 × Mem) :=
  (M_in a1 (nI 0) (nI 7)).bind fun x1 =>
  if x1 = 0 then (mRz (nI 0)).bind fun z => some (z, μ) else
  (M_in a2 (nI 0) (nI 7)).bind fun x2 =>
  if x2 = 0 then (mRz (nI 0)).bind fun z => some (z, μ) else
  if a1 = a2 then (mRz (nI 0)).bind fun z => some (z, μ) else
  (M_in a3 (nI 0) (nI 99)).bind fun x3 =>
  if x3 = 0 then (mRz (nI 0)).bind fun z => some (z, μ) else
  (mWr μ 1349 0 64 (((nI 8) * a1) + a2) a3).bind fun μ4 =>
  (mRz (nI 1)).bind fun z => some (z, μ4)
def M_reads (a1 : Int32) (a2 : Int32) (μ : Mem) : Option (Int32 × Mem) :=
  (M_in a1 (nI 0) ((mI μ 1354 0 0) - (nI 1))).bind fun x1 =>
  if x1 = 0 then (mRz (nI 0)).bind fun z => some (z, μ) else
  (M_in a2 (-1) (nI 7)).bind fun x2 =>
  if x2 = 0 then (mRz (nI 0)).bind fun z => some (z, μ) else
  (mWr μ 1351 0 12 a1 a2).bind fun μ3 =>
  (mRz (nI 1)).bind fun z => some (z, μ3)
def M_hang_l1b (v1 : Int32) (v2 : Int32) (v3 : Int32) (μ : Mem) (rec : Int32 → Int64 → Int32 → Option (Int32 × Int64)) (v4 : Int32) (v5 : Int64) (v7 : Int32) : Option (Int32 × Int64) :=
  if v7 < (nI 8) then
    ((mRd μ 1349 0 64 (((nI 8) * v3) + v7)).bind fun x1 =>
    (mRd μ 1352 0 104 (((nI 8) * v2) + v7)).bind fun x2 =>
    (some (x1 + x2)).bind fun x3 =>
    (mRd μ 1352 0 104 (((nI 8) * v2) + v7)).bind fun x4 =>
    (if x4 < (nI 100000000) then
       (if v4 < x3 then some (v4, v5) else
       (if x3 < v4 then
          ((mRl μ 1353 0 104 (((nI 8) * v2) + v7)).bind fun x6 =>
          some x6)
        else
        (mRl μ 1353 0 104 (((nI 8) * v2) + v7)).bind fun x5 =>
        some (v5 + x5)).bind fun x7 =>
       some (x3, x7))
     else
     some (v4, v5)).bind fun (x8, x9) =>
    (some (v7 + (nI 1))).bind fun x10 =>
    rec x8 x9 x10)
  else
  some (v4, v5)
def M_hang_l1 (v1 : Int32) (v2 : Int32) (v3 : Int32) (μ : Mem) : Nat → Int32 → Int64 → Int32 → Option (Int32 × Int64)
  | 0 => fun _ _ _ => none
  | n + 1 => M_hang_l1b v1 v2 v3 μ (M_hang_l1 v1 v2 v3 μ n)
def M_hang (a1 : Int32) (a2 : Int32) (a3 : Int32) (μ : Mem) : Option Mem :=
  (M_hang_l1 a1 a2 a3 μ FU (nI 100000000) 0 (nI 0)).bind fun (x1, x2) =>
  (mRd μ 1352 0 104 (((nI 8) * a1) + a3)).bind fun x3 =>
  (mWr μ 1352 0 104 (((nI 8) * a1) + a3) (jMin (nI 100000000) (x3 + x1))).bind fun μ4 =>
  (mRl μ4 1353 0 104 (((nI 8) * a1) + a3)).bind fun x5 =>
  (mWl μ4 1353 0 104 (((nI 8) * a1) + a3) (x5 * x2)).bind fun μ6 =>
  some μ6
def M_price_l1b (v1 : Int32) (v2 : Int32) (rec : Int32 → Mem → Option Mem) (v3 : Int32) (μ : Mem) : Option Mem :=
  if v3 < (nI 104) then
    ((mWr μ 1352 0 104 v3 (nI 0)).bind fun μ1 =>
    (mWl μ1 1353 0 104 v3 1).bind fun μ2 =>
    (some (v3 + (nI 1))).bind fun x3 =>
    rec x3 μ2)
  else
  some μ
def M_price_l1 (v1 : Int32) (v2 : Int32) : Nat → Int32 → Mem → Option Mem
  | 0 => fun _ _ => none
  | n + 1 => M_price_l1b v1 v2 (M_price_l1 v1 v2 n)
def M_price_l3b (v1 : Int32) (v2 : Int32) (v3 : Int32) (rec : Int32 → Mem → Option Mem) (v4 : Int32) (μ : Mem) : Option Mem :=
  if v4 < (nI 8) then
    ((mRd μ 1351 0 12 v3).bind fun x1 =>
    (if x1 = (-1) then
       (if v3 = v1 then
         (if v4 = v2 then some (nI 1) else
         some (nI 0))
       else
       some (nI 1))
     else
     (mRd μ 1351 0 12 v3).bind fun x2 =>
     if x2 = v4 then
       (if v3 = v1 then
         (if v4 = v2 then some (nI 1) else
         some (nI 0))
       else
       some (nI 1))
     else
     some (nI 0)).bind fun x3 =>
    (if x3 = 0 then some (nI 100000000) else
     (mRd μ 1352 0 104 (((nI 8) * v3) + v4)).bind fun x4 =>
     some x4).bind fun x5 =>
    (mWr μ 1352 0 104 (((nI 8) * v3) + v4) x5).bind fun μ6 =>
    (some (v4 + (nI 1))).bind fun x7 =>
    rec x7 μ6)
  else
  some μ
def M_price_l3 (v1 : Int32) (v2 : Int32) (v3 : Int32) : Nat → Int32 → Mem → Option Mem
  | 0 => fun _ _ => none
  | n + 1 => M_price_l3b v1 v2 v3 (M_price_l3 v1 v2 v3 n)
def M_price_l4b (v1 : Int32) (v2 : Int32) (v3 : Int32) (v4 : Int32) (rec : Int32 → Mem → Option Mem) (v5 : Int32) (μ : Mem) : Option Mem :=
  if v5 < (nI 8) then
    ((M_hang v4 v3 v5 μ).bind fun μ1 =>
    (some (v5 + (nI 1))).bind fun x2 =>
    rec x2 μ1)
  else
  some μ
def M_price_l4 (v1 : Int32) (v2 : Int32) (v3 : Int32) (v4 : Int32) : Nat → Int32 → Mem → Option Mem
  | 0 => fun _ _ => none
  | n + 1 => M_price_l4b v1 v2 v3 v4 (M_price_l4 v1 v2 v3 v4 n)
def M_price_l2b (v1 : Int32) (v2 : Int32) (rec : Int32 → Mem → Option Mem) (v3 : Int32) (μ : Mem) : Option Mem :=
  if v3 < 0 then some μ else
  (M_price_l3 v1 v2 v3 FU (nI 0) μ).bind fun μ1 =>
  (mRd μ1 1350 0 12 v3).bind fun x2 =>
  (if x2 = (-1) then some (nI 12) else
   (mRd μ1 1350 0 12 v3).bind fun x3 =>
   some x3).bind fun x4 =>
  (M_price_l4 v1 v2 v3 x4 FU (nI 0) μ1).bind fun μ5 =>
  (some (v3 + (-1))).bind fun x6 =>
  rec x6 μ5
def M_price_l2 (v1 : Int32) (v2 : Int32) : Nat → Int32 → Mem → Option Mem
  | 0 => fun _ _ => none
  | n + 1 => M_price_l2b v1 v2 (M_price_l2 v1 v2 n)
def M_price (a1 : Int32) (a2 : Int32) (μ : Mem) : Option Mem :=
  (M_price_l1 a1 a2 FU (nI 0) μ).bind fun μ1 =>
  (some ((mI μ1 1354 0 0) - (nI 1))).bind fun x2 =>
  (M_price_l2 a1 a2 FU x2 μ1).bind fun μ3 =>
  some μ3
def M_leastFirst_l1b (μ : Mem) (rec : Int32 → Int32 → Option Int32) (v1 : Int32) (v2 : Int32) : Option Int32 :=
  if v2 < (nI 8) then
    ((mRd μ 1352 0 104 ((nI 96) + v2)).bind fun x1 =>
    (mRd μ 1352 0 104 ((nI 96) + v1)).bind fun x2 =>
    (if x1 < x2 then some v2 else
     some v1).bind fun x3 =>
    (some (v2 + (nI 1))).bind fun x4 =>
    rec x3 x4)
  else
  some v1
def M_leastFirst_l1 (μ : Mem) : Nat → Int32 → Int32 → Option Int32
  | 0 => fun _ _ => none
  | n + 1 => M_leastFirst_l1b μ (M_leastFirst_l1 μ n)
def M_leastFirst (μ : Mem) : Option Int32 :=
  (M_leastFirst_l1 μ FU (nI 0) (nI 1)).bind fun x1 =>
  some x1
def M_isWord (a1 : Int32) : Option Int32 :=
  (M_in a1 (nI 0) (nI 7)).bind fun x1 =>
  mRz x1
def M_cost (a1 : Int32) (μ : Mem) : Option (Int32 × Mem) :=
  (M_isWord a1).bind fun x1 =>
  if x1 = 0 then some ((-1), μ) else
  (M_price (-1) (nI 0) μ).bind fun μ2 =>
  (mRd μ2 1352 0 104 ((nI 96) + a1)).bind fun x3 =>
  some (x3, μ2)
def M_ways (a1 : Int32) (μ : Mem) : Option (Int64 × Mem) :=
  (M_isWord a1).bind fun x1 =>
  if x1 = 0 then some ((-1), μ) else
  (M_price (-1) (nI 0) μ).bind fun μ2 =>
  (mRl μ2 1353 0 104 ((nI 96) + a1)).bind fun x3 =>
  some (x3, μ2)
def M_first (μ : Mem) : Option (Int32 × Mem) :=
  (M_price (-1) (nI 0) μ).bind fun μ1 =>
  (M_leastFirst μ1).bind fun x2 =>
  some (x2, μ1)
def M_could_l1b (v1 : Int32) (v2 : Int32) (rec : Int32 → Int32 → Mem → Option (Int32 × Mem)) (v3 : Int32) (v4 : Int32) (μ : Mem) : Option (Int32 × Mem) :=
  if v4 < (nI 8) then
    ((M_price v1 v4 μ).bind fun μ1 =>
    (M_leastFirst μ1).bind fun x2 =>
    (mRd μ1 1352 0 104 ((nI 96) + x2)).bind fun x3 =>
    (if x3 = v2 then some ((nI 1) <<< (v4 &&& 31)) else
     some (nI 0)).bind fun x4 =>
    (some (v3 ||| x4)).bind fun x5 =>
    (some (v4 + (nI 1))).bind fun x6 =>
    rec x5 x6 μ1)
  else
  some (v3, μ)
def M_could_l1 (v1 : Int32) (v2 : Int32) : Nat → Int32 → Int32 → Mem → Option (Int32 × Mem)
  | 0 => fun _ _ _ => none
  | n + 1 => M_could_l1b v1 v2 (M_could_l1 v1 v2 n)
def M_could (a1 : Int32) (μ : Mem) : Option (Int32 × Mem) :=
  (M_in a1 (nI 0) ((mI μ 1354 0 0) - (nI 1))).bind fun x1 =>
  if x1 = 0 then some ((-1), μ) else
  (M_price (-1) (nI 0) μ).bind fun μ2 =>
  (M_leastFirst μ2).bind fun x3 =>
  (mRd μ2 1352 0 104 ((nI 96) + x3)).bind fun x4 =>
  (M_could_l1 a1 x4 FU (nI 0) (nI 0) μ2).bind fun (x5, μ6) =>
  some (x5, μ6)
def M_day (a1 : Int32) (a2 : Int32) (μ : Mem) : Option (Int32 × Mem) :=
  (M_in a1 (nI 1) (nI 12)).bind fun x1 =>
  if x1 = 0 then some ((-1), μ) else
  if (mI μ 1358 0 0) = (nI 10) then some ((-1), μ) else
  (mWr μ 1355 0 10 (mI μ 1358 0 0) a1).bind fun μ2 =>
  (mWz μ2 1356 0 10 (mI μ2 1358 0 0) a2).bind fun μ3 =>
  (some (mSI μ3 1358 0 0 ((mI μ3 1358 0 0) + (nI 1)))).bind fun μ4 =>
  some (((mI μ4 1358 0 0) - (nI 1)), μ4)
def M_isDay (a1 : Int32) (μ : Mem) : Option Int32 :=
  (M_in a1 (nI 0) ((mI μ 1358 0 0) - (nI 1))).bind fun x1 =>
  mRz x1
def M_bought (a1 : Int32) (a2 : Int32) (a3 : Int32) (μ : Mem) : Option (Int32 × Mem) :=
  (M_isDay a1 μ).bind fun x1 =>
  if x1 = 0 then (mRz (nI 0)).bind fun z => some (z, μ) else
  (M_isThing a2 μ).bind fun x2 =>
  if x2 = 0 then (mRz (nI 0)).bind fun z => some (z, μ) else
  (M_in a3 (nI 0) (nI 999)).bind fun x3 =>
  if x3 = 0 then (mRz (nI 0)).bind fun z => some (z, μ) else
  (mWr μ 1357 0 120 (((nI 12) * a1) + a2) a3).bind fun μ4 =>
  (mRz (nI 1)).bind fun z => some (z, μ4)
def M_monthsOf_l1b (v1 : Int32) (μ : Mem) (rec : Int32 → Int32 → Option Int32) (v2 : Int32) (v3 : Int32) : Option Int32 :=
  (mRd μ 1315 0 17 v1).bind fun x1 =>
  if v3 < x1 then
    ((mRd μ 1316 0 136 (((nI 8) * v1) + v3)).bind fun x2 =>
    (mRd μ 1310 0 12 x2).bind fun x3 =>
    (some (v2 &&& x3)).bind fun x4 =>
    (some (v3 + (nI 1))).bind fun x5 =>
    rec x4 x5)
  else
  some v2
def M_monthsOf_l1 (v1 : Int32) (μ : Mem) : Nat → Int32 → Int32 → Option Int32
  | 0 => fun _ _ => none
  | n + 1 => M_monthsOf_l1b v1 μ (M_monthsOf_l1 v1 μ n)
def M_monthsOf (a1 : Int32) (μ : Mem) : Option Int32 :=
  (M_monthsOf_l1 a1 μ FU (nI 4095) (nI 0)).bind fun x1 =>
  some x1
def M_hasFlesh_l1b (v1 : Int32) (μ : Mem) (rec : Int32 → Option Int32) (v2 : Int32) : Option Int32 :=
  (mRd μ 1315 0 17 v1).bind fun x1 =>
  if v2 < x1 then
    ((mRd μ 1316 0 136 (((nI 8) * v1) + v2)).bind fun x2 =>
    (mRd μ 1309 0 12 x2).bind fun x3 =>
    if x3 = 0 then
      ((some (v2 + (nI 1))).bind fun x4 =>
      rec x4)
    else
    mRz (nI 1))
  else
  mRz (nI 0)
def M_hasFlesh_l1 (v1 : Int32) (μ : Mem) : Nat → Int32 → Option Int32
  | 0 => fun _ => none
  | n + 1 => M_hasFlesh_l1b v1 μ (M_hasFlesh_l1 v1 μ n)
def M_hasFlesh (a1 : Int32) (μ : Mem) : Option Int32 :=
  M_hasFlesh_l1 a1 μ FU (nI 0)
def M_mayBe (a1 : Int32) (a2 : Int32) (μ : Mem) : Option (Int32 × Mem) :=
  (M_monthsOf a2 μ).bind fun x1 =>
  (mRd μ 1355 0 10 a1).bind fun x2 =>
  (M_has x1 (x2 - (nI 1))).bind fun x3 =>
  if x3 = 0 then (mRz (nI 0)).bind fun z => some (z, μ) else
  (mRd μ 1356 0 10 a1).bind fun x4 =>
  kj (fun (_ : Unit) =>
    (M_findDishes a2 μ).bind fun (x7, μ8) =>
    if x7 = 0 then (mRz (nI 0)).bind fun z => some (z, μ8) else
    if (mI μ8 1342 0 0) = (nI 1) then (mRz (nI 1)).bind fun z => some (z, μ8) else
    (mRz (nI 0)).bind fun z => some (z, μ8)) fun k6 =>
  if x4 = 0 then k6 () else
  (M_hasFlesh a2 μ).bind fun x5 =>
  if x5 = 0 then k6 () else
  (mRz (nI 0)).bind fun z => some (z, μ)
def M_may (a1 : Int32) (a2 : Int32) (μ : Mem) : Option (Int32 × Mem) :=
  (M_isDay a1 μ).bind fun x1 =>
  if x1 = 0 then some ((-1), μ) else
  (M_isPage a2 μ).bind fun x2 =>
  if x2 = 0 then some ((-1), μ) else
  (M_mayBe a1 a2 μ).bind fun (x3, μ4) =>
  if x3 = 0 then some ((nI 0), μ4) else
  some ((nI 1), μ4)
def M_layMenu_l2b (v1 : Int32) (v2 : Int32) (v3 : Int32) (v4 : Int32) (rec : Int32 → Mem → Option Mem) (v5 : Int32) (μ : Mem) : Option Mem :=
  if v5 < (nI 12) then
    ((mWr μ 1361 0 60 (((nI 12) * v4) + v5) (nI 0)).bind fun μ1 =>
    (some (v5 + (nI 1))).bind fun x2 =>
    rec x2 μ1)
  else
  some μ
def M_layMenu_l2 (v1 : Int32) (v2 : Int32) (v3 : Int32) (v4 : Int32) : Nat → Int32 → Mem → Option Mem
  | 0 => fun _ _ => none
  | n + 1 => M_layMenu_l2b v1 v2 v3 v4 (M_layMenu_l2 v1 v2 v3 v4 n)
def M_layMenu_l3b (v1 : Int32) (v2 : Int32) (v3 : Int32) (v4 : Int32) (rec : Int32 → Mem → Option Mem) (v5 : Int32) (μ : Mem) : Option Mem :=
  (mRd μ 1315 0 17 v3).bind fun x1 =>
  if v5 < x1 then
    ((mRd μ 1316 0 136 (((nI 8) * v3) + v5)).bind fun x2 =>
    (mRd μ 1340 0 8 v5).bind fun x3 =>
    (mWr μ 1361 0 60 (((nI 12) * v4) + x2) x3).bind fun μ4 =>
    (some (v5 + (nI 1))).bind fun x5 =>
    rec x5 μ4)
  else
  some μ
def M_layMenu_l3 (v1 : Int32) (v2 : Int32) (v3 : Int32) (v4 : Int32) : Nat → Int32 → Mem → Option Mem
  | 0 => fun _ _ => none
  | n + 1 => M_layMenu_l3b v1 v2 v3 v4 (M_layMenu_l3 v1 v2 v3 v4 n)
def M_layMenu_l1b (v1 : Int32) (v2 : Int32) (rec : Int32 → Mem → Option Mem) (v3 : Int32) (μ : Mem) : Option Mem :=
  if v3 < (mI μ 1322 0 0) then
    ((M_has v2 v3).bind fun x1 =>
    (if x1 = 0 then some μ else
     (some (mI μ 1364 0 0)).bind fun x2 =>
     (mWr μ 1359 0 5 x2 v3).bind fun μ3 =>
     (M_mayBe v1 v3 μ3).bind fun (x4, μ5) =>
     (mWz μ5 1360 0 5 x2 x4).bind fun μ6 =>
     (M_thingsOf v3 μ6).bind fun x7 =>
     (some (mSI μ6 1365 0 0 ((mI μ6 1365 0 0) ||| x7))).bind fun μ8 =>
     (M_layMenu_l2 v1 v2 v3 x2 FU (nI 0) μ8).bind fun μ9 =>
     (mRd μ9 1360 0 5 x2).bind fun x10 =>
     (if x10 = 0 then some μ9 else
      (mRd μ9 1341 0 5000 (nI 0)).bind fun x11 =>
      (M_lay v3 x11 μ9).bind fun μ12 =>
      (M_layMenu_l3 v1 v2 v3 x2 FU (nI 0) μ12).bind fun μ13 =>
      some μ13).bind fun μ14 =>
     (some (mSI μ14 1364 0 0 ((mI μ14 1364 0 0) + (nI 1)))).bind fun μ15 =>
     some μ15).bind fun μ16 =>
    (some (v3 + (nI 1))).bind fun x17 =>
    rec x17 μ16)
  else
  some μ
def M_layMenu_l1 (v1 : Int32) (v2 : Int32) : Nat → Int32 → Mem → Option Mem
  | 0 => fun _ _ => none
  | n + 1 => M_layMenu_l1b v1 v2 (M_layMenu_l1 v1 v2 n)
def M_layMenu (a1 : Int32) (a2 : Int32) (μ : Mem) : Option (Int32 × Mem) :=
  (M_isDay a1 μ).bind fun x1 =>
  if x1 = 0 then (mRz (nI 0)).bind fun z => some (z, μ) else
  if 0 < a2 then
    (if (a2 >>> ((mI μ 1322 0 0) &&& 31)) = 0 then
      ((M_bits a2).bind fun x2 =>
      if (nI 5) < x2 then (mRz (nI 0)).bind fun z => some (z, μ) else
      (some (mSI μ 1364 0 0 (nI 0))).bind fun μ3 =>
      (some (mSI μ3 1365 0 0 (nI 0))).bind fun μ4 =>
      (M_layMenu_l1 a1 a2 FU (nI 0) μ4).bind fun μ5 =>
      (mRz (nI 1)).bind fun z => some (z, μ5))
    else
    (mRz (nI 0)).bind fun z => some (z, μ))
  else
  (mRz (nI 0)).bind fun z => some (z, μ)
def M_isMenu_l2b (v1 : Int32) (v2 : Int32) (v3 : Int32) (μ : Mem) (rec : Int32 → Int32 → Option Int32) (v4 : Int32) (v5 : Int32) : Option Int32 :=
  if v5 < (mI μ 1364 0 0) then
    ((mRd μ 1361 0 60 (((nI 12) * v5) + v3)).bind fun x1 =>
    (mRd μ 1362 0 5 v5).bind fun x2 =>
    (some (v4 + (x1 * x2))).bind fun x3 =>
    (some (v5 + (nI 1))).bind fun x4 =>
    rec x3 x4)
  else
  some v4
def M_isMenu_l2 (v1 : Int32) (v2 : Int32) (v3 : Int32) (μ : Mem) : Nat → Int32 → Int32 → Option Int32
  | 0 => fun _ _ => none
  | n + 1 => M_isMenu_l2b v1 v2 v3 μ (M_isMenu_l2 v1 v2 v3 μ n)
def M_isMenu_l1b (v1 : Int32) (v2 : Int32) (μ : Mem) (rec : Int32 → Option Int32) (v3 : Int32) : Option Int32 :=
  if v3 < (mI μ 1314 0 0) then
    ((M_isMenu_l2 v1 v2 v3 μ FU (nI 0) (nI 0)).bind fun x1 =>
    (M_has (mI μ 1365 0 0) v3).bind fun x2 =>
    if x2 = 0 then
      ((some (v3 + (nI 1))).bind fun x3 =>
      rec x3)
    else
    (mRd μ 1357 0 120 (((nI 12) * v1) + v3)).bind fun x4 =>
    (M_in (x4 - x1) (nI 0) v2).bind fun x5 =>
    if x5 = 0 then mRz (nI 0) else
    (some (v3 + (nI 1))).bind fun x6 =>
    rec x6)
  else
  mRz (nI 1)
def M_isMenu_l1 (v1 : Int32) (v2 : Int32) (μ : Mem) : Nat → Int32 → Option Int32
  | 0 => fun _ => none
  | n + 1 => M_isMenu_l1b v1 v2 μ (M_isMenu_l1 v1 v2 μ n)
def M_isMenu (a1 : Int32) (a2 : Int32) (μ : Mem) : Option Int32 :=
  M_isMenu_l1 a1 a2 μ FU (nI 0)
def M_wasteNow_l2b (v2 : Int32) (μ : Mem) (rec : Int32 → Int32 → Option Int32) (v1 : Int32) (v3 : Int32) : Option Int32 :=
  if v3 < (mI μ 1364 0 0) then
    ((mRd μ 1361 0 60 (((nI 12) * v3) + v2)).bind fun x1 =>
    (mRd μ 1362 0 5 v3).bind fun x2 =>
    (some (v1 - (x1 * x2))).bind fun x3 =>
    (some (v3 + (nI 1))).bind fun x4 =>
    rec x3 x4)
  else
  some v1
def M_wasteNow_l2 (v2 : Int32) (μ : Mem) : Nat → Int32 → Int32 → Option Int32
  | 0 => fun _ _ => none
  | n + 1 => M_wasteNow_l2b v2 μ (M_wasteNow_l2 v2 μ n)
def M_wasteNow_l1b (μ : Mem) (rec : Int32 → Int32 → Option Int32) (v1 : Int32) (v2 : Int32) : Option Int32 :=
  if v2 < (mI μ 1314 0 0) then
    ((M_has (mI μ 1365 0 0) v2).bind fun x1 =>
    (if x1 = 0 then some v1 else
     (mRd μ 1357 0 120 (((nI 12) * (mI μ 1372 0 0)) + v2)).bind fun x2 =>
     (some (v1 + x2)).bind fun x3 =>
     (M_wasteNow_l2 v2 μ FU x3 (nI 0)).bind fun x4 =>
     some x4).bind fun x5 =>
    (some (v2 + (nI 1))).bind fun x6 =>
    rec x5 x6)
  else
  some v1
def M_wasteNow_l1 (μ : Mem) : Nat → Int32 → Int32 → Option Int32
  | 0 => fun _ _ => none
  | n + 1 => M_wasteNow_l1b μ (M_wasteNow_l1 μ n)
def M_wasteNow (μ : Mem) : Option Int32 :=
  (M_wasteNow_l1 μ FU (nI 0) (nI 0)).bind fun x1 =>
  some x1
def M_countMenu_l1b (rec : Int32 → Int32 → Int32 → Mem → Option (Int32 × Int32 × Mem)) (v1 : Int32) (v2 : Int32) (v3 : Int32) (μ : Mem) : Option (Int32 × Int32 × Mem) :=
  if v3 < (mI μ 1364 0 0) then
    ((mRd μ 1362 0 5 v3).bind fun x1 =>
    (if 0 < x1 then
       ((mRd μ 1359 0 5 v3).bind fun x2 =>
       some ((nI 1) <<< (x2 &&& 31)))
     else
     some (nI 0)).bind fun x3 =>
    (some (v1 ||| x3)).bind fun x4 =>
    (mRd μ 1362 0 5 v3).bind fun x5 =>
    (some (v2 + x5)).bind fun x6 =>
    (if (mI μ 1366 0 0) = (mI μ 1371 0 0) then
       ((mRd μ 1362 0 5 v3).bind fun x8 =>
       some x8)
     else
     (mRd μ 1363 0 5 v3).bind fun x7 =>
     some x7).bind fun x9 =>
    (mWr μ 1363 0 5 v3 x9).bind fun μ10 =>
    (some (v3 + (nI 1))).bind fun x11 =>
    rec x4 x6 x11 μ10)
  else
  some (v1, v2, μ)
def M_countMenu_l1 : Nat → Int32 → Int32 → Int32 → Mem → Option (Int32 × Int32 × Mem)
  | 0 => fun _ _ _ _ => none
  | n + 1 => M_countMenu_l1b  (M_countMenu_l1  n)
def M_countMenu (μ : Mem) : Option Mem :=
  (M_countMenu_l1 FU (nI 0) (nI 0) (nI 0) μ).bind fun (x1, x2, μ3) =>
  (if (mI μ3 1366 0 0) = 0 then some x1 else
   some ((mI μ3 1367 0 0) &&& x1)).bind fun x4 =>
  (some (mSI μ3 1367 0 0 x4)).bind fun μ5 =>
  (some (mSI μ5 1368 0 0 ((mI μ5 1368 0 0) ||| x1))).bind fun μ6 =>
  (M_wasteNow μ6).bind fun x7 =>
  (if (mI μ6 1366 0 0) = (mI μ6 1371 0 0) then some x7 else
   some (mI μ6 1373 0 0)).bind fun x8 =>
  (some (mSI μ6 1373 0 0 x8)).bind fun μ9 =>
  (if (mI μ9 1366 0 0) = 0 then
     ((some (mSI μ9 1374 0 0 x7)).bind fun μ10 =>
     (some (mSI μ10 1375 0 0 (mI μ10 1366 0 0))).bind fun μ11 =>
     (some (mSI μ11 1376 0 0 (nI 0))).bind fun μ12 =>
     some μ12)
   else
   if x7 < (mI μ9 1374 0 0) then
     ((some (mSI μ9 1374 0 0 x7)).bind fun μ13 =>
     (some (mSI μ13 1375 0 0 (mI μ13 1366 0 0))).bind fun μ14 =>
     (some (mSI μ14 1376 0 0 (nI 0))).bind fun μ15 =>
     some μ15)
   else
   some μ9).bind fun μ16 =>
  (if x7 = (mI μ16 1374 0 0) then some (nI 1) else
   some (nI 0)).bind fun x17 =>
  (some (mSI μ16 1376 0 0 ((mI μ16 1376 0 0) + x17))).bind fun μ18 =>
  (if (mI μ18 1366 0 0) = 0 then some x2 else
   some (jMin (mI μ18 1369 0 0) x2)).bind fun x19 =>
  (some (mSI μ18 1369 0 0 x19)).bind fun μ20 =>
  (some (mSI μ20 1370 0 0 (jMax (mI μ20 1370 0 0) x2))).bind fun μ21 =>
  (some (mSI μ21 1366 0 0 ((mI μ21 1366 0 0) + (nI 1)))).bind fun μ22 =>
  some μ22
def M_seek_l1b (r_M_seek : Int32 → Int32 → Int32 → Mem → Option Mem) (v1 : Int32) (v2 : Int32) (v3 : Int32) (rec : Int32 → Mem → Option Mem) (v4 : Int32) (μ : Mem) : Option Mem :=
  (mRd μ 1360 0 5 v3).bind fun x1 =>
  (if x1 = 0 then some (nI 0) else
   some (nI 9)).bind fun x2 =>
  if x2 < v4 then some μ else
  (mWr μ 1362 0 5 v3 v4).bind fun μ3 =>
  (r_M_seek v1 v2 (v3 + (nI 1)) μ3).bind fun μ4 =>
  (some (v4 + (nI 1))).bind fun x5 =>
  rec x5 μ4
def M_seek_l1 (r_M_seek : Int32 → Int32 → Int32 → Mem → Option Mem) (v1 : Int32) (v2 : Int32) (v3 : Int32) : Nat → Int32 → Mem → Option Mem
  | 0 => fun _ _ => none
  | n + 1 => M_seek_l1b r_M_seek v1 v2 v3 (M_seek_l1 r_M_seek v1 v2 v3 n)
def M_seek_B (r_M_seek : Int32 → Int32 → Int32 → Mem → Option Mem) (a1 : Int32) (a2 : Int32) (a3 : Int32) (μ : Mem) : Option Mem :=
  if a3 = (mI μ 1364 0 0) then
    ((M_isMenu a1 a2 μ).bind fun x2 =>
    if x2 = 0 then some μ else
    (M_countMenu μ).bind fun μ3 =>
    some μ3)
  else
  (M_seek_l1 r_M_seek a1 a2 a3 FU (nI 0) μ).bind fun μ1 =>
  some μ1
def G_M_seek : Nat → (Int32 → Int32 → Int32 → Mem → Option Mem)
  | 0 => fun _ _ _ _ => none
  | n + 1 => M_seek_B (G_M_seek n)
def M_seek (n : Nat) : Int32 → Int32 → Int32 → Mem → Option Mem := (G_M_seek n)
theorem M_seek_s (n : Nat) : M_seek (n + 1) = M_seek_B (M_seek n) := rfl
def M_findMenus (a1 : Int32) (a2 : Int32) (a3 : Int32) (μ : Mem) : Option Mem :=
  (some (mSI μ 1372 0 0 a1)).bind fun μ1 =>
  (some (mSI μ1 1366 0 0 (nI 0))).bind fun μ2 =>
  (some (mSI μ2 1367 0 0 (nI 0))).bind fun μ3 =>
  (some (mSI μ3 1368 0 0 (nI 0))).bind fun μ4 =>
  (some (mSI μ4 1369 0 0 (-1))).bind fun μ5 =>
  (some (mSI μ5 1370 0 0 (-1))).bind fun μ6 =>
  (some (mSI μ6 1371 0 0 a3)).bind fun μ7 =>
  (M_seek RF a1 a2 (nI 0) μ7).bind fun μ8 =>
  some μ8
def M_menu (a1 : Int32) (a2 : Int32) (a3 : Int32) (a4 : Int32) (μ : Mem) : Option (Int32 × Mem) :=
  (M_in a3 (nI 0) (nI 99)).bind fun x1 =>
  if x1 = 0 then some ((-1), μ) else
  (M_in a4 (nI 0) (nI 4)).bind fun x2 =>
  if x2 = 0 then some ((-1), μ) else
  (M_layMenu a1 a2 μ).bind fun (x3, μ4) =>
  if x3 = 0 then some ((-1), μ4) else
  (M_findMenus a1 a3 (-1) μ4).bind fun μ5 =>
  if a4 = 0 then some ((mI μ5 1366 0 0), μ5) else
  if a4 = (nI 1) then some ((mI μ5 1367 0 0), μ5) else
  if a4 = (nI 2) then some ((mI μ5 1368 0 0), μ5) else
  if a4 = (nI 3) then some ((mI μ5 1369 0 0), μ5) else
  some ((mI μ5 1370 0 0), μ5)
def M_messes_l1b (v5 : Int32) (μ : Mem) (rec : Int32 → Option Int32) (v6 : Int32) : Option Int32 :=
  (mRd μ 1359 0 5 v6).bind fun x1 =>
  if x1 = v5 then some v6 else
  (some (v6 + (nI 1))).bind fun x2 =>
  rec x2
def M_messes_l1 (v5 : Int32) (μ : Mem) : Nat → Int32 → Option Int32
  | 0 => fun _ => none
  | n + 1 => M_messes_l1b v5 μ (M_messes_l1 v5 μ n)
def M_messes (a1 : Int32) (a2 : Int32) (a3 : Int32) (a4 : Int32) (a5 : Int32) (μ : Mem) : Option (Int32 × Mem) :=
  (M_in a3 (nI 0) (nI 99)).bind fun x1 =>
  if x1 = 0 then some ((-1), μ) else
  if a4 < 0 then some ((-1), μ) else
  (M_isPage a5 μ).bind fun x2 =>
  if x2 = 0 then some ((-1), μ) else
  (M_layMenu a1 a2 μ).bind fun (x3, μ4) =>
  if x3 = 0 then some ((-1), μ4) else
  (M_has a2 a5).bind fun x5 =>
  if x5 = 0 then some ((-1), μ4) else
  (M_findMenus a1 a3 a4 μ4).bind fun μ6 =>
  if a4 < (mI μ6 1366 0 0) then
    ((M_messes_l1 a5 μ6 FU (nI 0)).bind fun x7 =>
    (mRd μ6 1363 0 5 x7).bind fun x8 =>
    some (x8, μ6))
  else
  some ((-1), μ6)
def M_months (a1 : Int32) (μ : Mem) : Option Int32 :=
  (M_isPage a1 μ).bind fun x1 =>
  if x1 = 0 then some (-1) else
  (M_monthsOf a1 μ).bind fun x2 =>
  some x2
def M_farOf_l1b (v1 : Int32) (v2 : Int32) (v3 : Int32) (v4 : Int32) (rec : Int32 → Mem → Option Mem) (v5 : Int32) (μ : Mem) : Option Mem :=
  if v4 < v5 then some μ else
  (mWr μ 1377 0 73 v5 v5).bind fun μ1 =>
  (some (v5 + (nI 1))).bind fun x2 =>
  rec x2 μ1
def M_farOf_l1 (v1 : Int32) (v2 : Int32) (v3 : Int32) (v4 : Int32) : Nat → Int32 → Mem → Option Mem
  | 0 => fun _ _ => none
  | n + 1 => M_farOf_l1b v1 v2 v3 v4 (M_farOf_l1 v1 v2 v3 v4 n)
def M_farOf_l3b (v1 : Int32) (v2 : Int32) (v3 : Int32) (v4 : Int32) (v5 : Int32) (rec : Int32 → Int32 → Mem → Option Mem) (v6 : Int32) (v7 : Int32) (μ : Mem) : Option Mem :=
  if v4 < v7 then some μ else
  (mRd μ 1320 0 1224 ((((nI 72) * v1) + v5) - (nI 1))).bind fun x1 =>
  (mRd μ 1320 0 1224 ((((nI 72) * v2) + v7) - (nI 1))).bind fun x2 =>
  (if x1 = x2 then some (nI 0) else
   some (nI 1)).bind fun x3 =>
  (some (v6 + x3)).bind fun x4 =>
  (mRd μ 1377 0 73 v7).bind fun x5 =>
  (mRd μ 1377 0 73 v7).bind fun x6 =>
  (mRd μ 1377 0 73 (v7 - (nI 1))).bind fun x7 =>
  (mWr μ 1377 0 73 v7 (jMin x4 ((jMin x6 x7) + (nI 1)))).bind fun μ8 =>
  (some (v7 + (nI 1))).bind fun x9 =>
  rec x5 x9 μ8
def M_farOf_l3 (v1 : Int32) (v2 : Int32) (v3 : Int32) (v4 : Int32) (v5 : Int32) : Nat → Int32 → Int32 → Mem → Option Mem
  | 0 => fun _ _ _ => none
  | n + 1 => M_farOf_l3b v1 v2 v3 v4 v5 (M_farOf_l3 v1 v2 v3 v4 v5 n)
def M_farOf_l2b (v1 : Int32) (v2 : Int32) (v3 : Int32) (v4 : Int32) (rec : Int32 → Mem → Option Mem) (v5 : Int32) (μ : Mem) : Option Mem :=
  if v3 < v5 then some μ else
  (mRd μ 1377 0 73 (nI 0)).bind fun x1 =>
  (mWr μ 1377 0 73 (nI 0) v5).bind fun μ2 =>
  (M_farOf_l3 v1 v2 v3 v4 v5 FU x1 (nI 1) μ2).bind fun μ3 =>
  (some (v5 + (nI 1))).bind fun x4 =>
  rec x4 μ3
def M_farOf_l2 (v1 : Int32) (v2 : Int32) (v3 : Int32) (v4 : Int32) : Nat → Int32 → Mem → Option Mem
  | 0 => fun _ _ => none
  | n + 1 => M_farOf_l2b v1 v2 v3 v4 (M_farOf_l2 v1 v2 v3 v4 n)
def M_farOf (a1 : Int32) (a2 : Int32) (μ : Mem) : Option (Int32 × Mem) :=
  (mRd μ 1319 0 17 a1).bind fun x1 =>
  (mRd μ 1319 0 17 a2).bind fun x2 =>
  (M_farOf_l1 a1 a2 x1 x2 FU (nI 0) μ).bind fun μ3 =>
  (M_farOf_l2 a1 a2 x1 x2 FU (nI 1) μ3).bind fun μ4 =>
  (M_thingsOf a1 μ4).bind fun x5 =>
  (M_thingsOf a2 μ4).bind fun x6 =>
  (M_bits (x5 ^^^ x6)).bind fun x7 =>
  (mRd μ4 1377 0 73 x2).bind fun x8 =>
  some ((x7 + x8), μ4)
def M_far (a1 : Int32) (a2 : Int32) (μ : Mem) : Option (Int32 × Mem) :=
  (M_isPage a1 μ).bind fun x1 =>
  if x1 = 0 then some ((-1), μ) else
  (M_isPage a2 μ).bind fun x2 =>
  if x2 = 0 then some ((-1), μ) else
  (M_farOf a1 a2 μ).bind fun (x3, μ4) =>
  some (x3, μ4)
def M_came_l1b (v1 : Int32) (rec : Int32 → Int32 → Mem → Option (Int32 × Mem)) (v2 : Int32) (v3 : Int32) (μ : Mem) : Option (Int32 × Mem) :=
  if v3 < v1 then
    ((if v2 = (-1) then some (v3, μ) else
     (M_farOf v1 v3 μ).bind fun (x1, μ2) =>
     (M_farOf v1 v2 μ2).bind fun (x3, μ4) =>
     if x1 < x3 then some (v3, μ4) else
     some (v2, μ4)).bind fun (x5, μ6) =>
    (some (v3 + (nI 1))).bind fun x7 =>
    rec x5 x7 μ6)
  else
  some (v2, μ)
def M_came_l1 (v1 : Int32) : Nat → Int32 → Int32 → Mem → Option (Int32 × Mem)
  | 0 => fun _ _ _ => none
  | n + 1 => M_came_l1b v1 (M_came_l1 v1 n)
def M_came (a1 : Int32) (μ : Mem) : Option (Int32 × Mem) :=
  (M_isPage a1 μ).bind fun x1 =>
  if x1 = 0 then some ((-1), μ) else
  (M_came_l1 a1 FU (-1) (nI 0) μ).bind fun (x2, μ3) =>
  some (x2, μ3)
def M_tree_l1b (rec : Int32 → Mem → Option Mem) (v1 : Int32) (μ : Mem) : Option Mem :=
  if v1 < (mI μ 1322 0 0) then
    ((if v1 = 0 then some (((-1) : Int32), μ) else
     (M_farOf (nI 0) v1 μ).bind fun (x1, μ2) =>
     some (x1, μ2)).bind fun (x3, μ4) =>
    (mWr μ4 1378 0 16 v1 x3).bind fun μ5 =>
    (some (v1 + (nI 1))).bind fun x6 =>
    rec x6 μ5)
  else
  some μ
def M_tree_l1 : Nat → Int32 → Mem → Option Mem
  | 0 => fun _ _ => none
  | n + 1 => M_tree_l1b  (M_tree_l1  n)
def M_tree_l3b (v1 : Int32) (v2 : Int32) (μ : Mem) (rec : Int32 → Int32 → Option Int32) (v3 : Int32) (v4 : Int32) : Option Int32 :=
  if v4 < (mI μ 1322 0 0) then
    ((mRd μ 1378 0 16 v4).bind fun x1 =>
    (if x1 = (-1) then some v3 else
     if v3 = (-1) then some v4 else
     (mRd μ 1378 0 16 v4).bind fun x2 =>
     (mRd μ 1378 0 16 v3).bind fun x3 =>
     if x2 < x3 then some v4 else
     some v3).bind fun x4 =>
    (some (v4 + (nI 1))).bind fun x5 =>
    rec x4 x5)
  else
  some v3
def M_tree_l3 (v1 : Int32) (v2 : Int32) (μ : Mem) : Nat → Int32 → Int32 → Option Int32
  | 0 => fun _ _ => none
  | n + 1 => M_tree_l3b v1 v2 μ (M_tree_l3 v1 v2 μ n)
def M_tree_l4b (v1 : Int32) (v2 : Int32) (v3 : Int32) (rec : Int32 → Mem → Option Mem) (v4 : Int32) (μ : Mem) : Option Mem :=
  if v4 < (mI μ 1322 0 0) then
    ((mRd μ 1378 0 16 v4).bind fun x1 =>
    (if x1 = (-1) then some (((-1) : Int32), μ) else
     (mRd μ 1378 0 16 v4).bind fun x2 =>
     (M_farOf v3 v4 μ).bind fun (x3, μ4) =>
     some ((jMin x2 x3), μ4)).bind fun (x5, μ6) =>
    (mWr μ6 1378 0 16 v4 x5).bind fun μ7 =>
    (some (v4 + (nI 1))).bind fun x8 =>
    rec x8 μ7)
  else
  some μ
def M_tree_l4 (v1 : Int32) (v2 : Int32) (v3 : Int32) : Nat → Int32 → Mem → Option Mem
  | 0 => fun _ _ => none
  | n + 1 => M_tree_l4b v1 v2 v3 (M_tree_l4 v1 v2 v3 n)
def M_tree_l2b (rec : Int32 → Int32 → Mem → Option (Int32 × Mem)) (v1 : Int32) (v2 : Int32) (μ : Mem) : Option (Int32 × Mem) :=
  if v2 < (mI μ 1322 0 0) then
    ((M_tree_l3 v1 v2 μ FU (-1) (nI 0)).bind fun x1 =>
    (mRd μ 1378 0 16 x1).bind fun x2 =>
    (some (v1 + x2)).bind fun x3 =>
    (mWr μ 1378 0 16 x1 (-1)).bind fun μ4 =>
    (M_tree_l4 x3 v2 x1 FU (nI 0) μ4).bind fun μ5 =>
    (some (v2 + (nI 1))).bind fun x6 =>
    rec x3 x6 μ5)
  else
  some (v1, μ)
def M_tree_l2 : Nat → Int32 → Int32 → Mem → Option (Int32 × Mem)
  | 0 => fun _ _ _ => none
  | n + 1 => M_tree_l2b  (M_tree_l2  n)
def M_tree (μ : Mem) : Option (Int32 × Mem) :=
  (M_tree_l1 FU (nI 0) μ).bind fun μ1 =>
  (M_tree_l2 FU (nI 0) (nI 1) μ1).bind fun (x2, μ3) =>
  some (x2, μ3)
def M_wrote (a1 : Int32) (a2 : Int32) (μ : Mem) : Option (Int32 × Mem) :=
  (M_isPage a1 μ).bind fun x1 =>
  if x1 = 0 then (mRz (nI 0)).bind fun z => some (z, μ) else
  (M_in a2 (nI 0) (nI 5)).bind fun x2 =>
  if x2 = 0 then (mRz (nI 0)).bind fun z => some (z, μ) else
  (mWr μ 1321 0 17 a1 a2).bind fun μ3 =>
  (mRz (nI 1)).bind fun z => some (z, μ3)
def M_leaves_l1b (v1 : Int32) (v2 : Int32) (v3 : Int32) (μ : Mem) (rec : Int32 → Int32 → Option Int32) (v4 : Int32) (v5 : Int32) : Option Int32 :=
  if v5 < (mI μ 1322 0 0) then
    ((mRd μ 1321 0 17 v5).bind fun x1 =>
    (if x1 = v1 then
       ((M_thingsOf v5 μ).bind fun x2 =>
       (M_has x2 v2).bind fun x3 =>
       if x3 = 0 then some (nI 0) else
       (M_leftOut v5 μ).bind fun x4 =>
       (M_has x4 v2).bind fun x5 =>
       (if v3 = 0 then some (nI 1) else
        some (nI 0)).bind fun x6 =>
       if x5 = x6 then some (nI 1) else
       some (nI 0))
     else
     some (nI 0)).bind fun x7 =>
    (some (v4 + x7)).bind fun x8 =>
    (some (v5 + (nI 1))).bind fun x9 =>
    rec x8 x9)
  else
  some v4
def M_leaves_l1 (v1 : Int32) (v2 : Int32) (v3 : Int32) (μ : Mem) : Nat → Int32 → Int32 → Option Int32
  | 0 => fun _ _ => none
  | n + 1 => M_leaves_l1b v1 v2 v3 μ (M_leaves_l1 v1 v2 v3 μ n)
def M_leaves (a1 : Int32) (a2 : Int32) (a3 : Int32) (μ : Mem) : Option Int32 :=
  (M_in a1 (nI 0) (nI 5)).bind fun x1 =>
  if x1 = 0 then some (-1) else
  (M_isThing a2 μ).bind fun x2 =>
  if x2 = 0 then some (-1) else
  (M_in a3 (nI 0) (nI 1)).bind fun x3 =>
  if x3 = 0 then some (-1) else
  (M_leaves_l1 a1 a2 a3 μ FU (nI 0) (nI 0)).bind fun x4 =>
  some x4
def M_twice_l2b (v1 : Int32) (v3 : Int32) (μ : Mem) (rec : Int32 → Int32 → Option Int32) (v2 : Int32) (v4 : Int32) : Option Int32 :=
  if v4 < v3 then
    ((mRd μ 1321 0 17 v3).bind fun x1 =>
    (if x1 = v1 then
       ((mRd μ 1321 0 17 v4).bind fun x2 =>
       if x2 = v1 then
         ((M_thingsOf v3 μ).bind fun x3 =>
         (M_thingsOf v4 μ).bind fun x4 =>
         if x3 = x4 then
           ((M_leftOut v3 μ).bind fun x5 =>
           (M_leftOut v4 μ).bind fun x6 =>
           if x5 = x6 then some (nI 0) else
           some (nI 1))
         else
         some (nI 0))
       else
       some (nI 0))
     else
     some (nI 0)).bind fun x7 =>
    (some (v2 + x7)).bind fun x8 =>
    (some (v4 + (nI 1))).bind fun x9 =>
    rec x8 x9)
  else
  some v2
def M_twice_l2 (v1 : Int32) (v3 : Int32) (μ : Mem) : Nat → Int32 → Int32 → Option Int32
  | 0 => fun _ _ => none
  | n + 1 => M_twice_l2b v1 v3 μ (M_twice_l2 v1 v3 μ n)
def M_twice_l1b (v1 : Int32) (μ : Mem) (rec : Int32 → Int32 → Option Int32) (v2 : Int32) (v3 : Int32) : Option Int32 :=
  if v3 < (mI μ 1322 0 0) then
    ((M_twice_l2 v1 v3 μ FU v2 (nI 0)).bind fun x1 =>
    (some (v3 + (nI 1))).bind fun x2 =>
    rec x1 x2)
  else
  some v2
def M_twice_l1 (v1 : Int32) (μ : Mem) : Nat → Int32 → Int32 → Option Int32
  | 0 => fun _ _ => none
  | n + 1 => M_twice_l1b v1 μ (M_twice_l1 v1 μ n)
def M_twice (a1 : Int32) (μ : Mem) : Option Int32 :=
  (M_in a1 (nI 0) (nI 5)).bind fun x1 =>
  if x1 = 0 then some (-1) else
  (M_twice_l1 a1 μ FU (nI 0) (nI 0)).bind fun x2 =>
  some x2
def M_weightOf_l1b (v1 : Int32) (v2 : Int32) (μ : Mem) (rec : Int32 → Int32 → Option Int32) (v3 : Int32) (v4 : Int32) : Option Int32 :=
  (mRd μ 1315 0 17 v1).bind fun x1 =>
  if v4 < x1 then
    ((mRd μ 1340 0 8 v4).bind fun x2 =>
    (mRd μ 1316 0 136 (((nI 8) * v1) + v4)).bind fun x3 =>
    (M_sizeIn x3 v2 μ).bind fun x4 =>
    (some (v3 + (x2 * x4))).bind fun x5 =>
    (some (v4 + (nI 1))).bind fun x6 =>
    rec x5 x6)
  else
  some v3
def M_weightOf_l1 (v1 : Int32) (v2 : Int32) (μ : Mem) : Nat → Int32 → Int32 → Option Int32
  | 0 => fun _ _ => none
  | n + 1 => M_weightOf_l1b v1 v2 μ (M_weightOf_l1 v1 v2 μ n)
def M_weightOf (a1 : Int32) (a2 : Int32) (μ : Mem) : Option Int32 :=
  (M_weightOf_l1 a1 a2 μ FU (nI 0) (nI 0)).bind fun x1 =>
  some x1
def M_weight (a1 : Int32) (a2 : Int32) (a3 : Int32) (μ : Mem) : Option (Int32 × Mem) :=
  (M_isYear a3).bind fun x1 =>
  if x1 = 0 then some ((-1), μ) else
  (M_isTold a1 μ).bind fun (x2, μ3) =>
  if x2 = 0 then some ((-1), μ3) else
  (M_in a2 (nI 0) ((mI μ3 1342 0 0) - (nI 1))).bind fun x4 =>
  if x4 = 0 then some ((-1), μ3) else
  (M_go a1 a2 μ3).bind fun μ5 =>
  (M_weightOf a1 a3 μ5).bind fun x6 =>
  some (x6, μ5)
def M_serves_l1b (v1 : Int32) (v2 : Int32) (v3 : Int32) (v4 : Int32) (rec : Int32 → Int32 → Mem → Option (Int32 × Mem)) (v5 : Int32) (v6 : Int32) (μ : Mem) : Option (Int32 × Mem) :=
  if v6 < (mI μ 1342 0 0) then
    ((M_go v1 v6 μ).bind fun μ1 =>
    (M_weightOf v1 v2 μ1).bind fun x2 =>
    (mDv x2 v3).bind fun x3 =>
    (if v5 = (-1) then some x3 else
     if v4 = 0 then some (jMin v5 x3) else
     some (jMax v5 x3)).bind fun x4 =>
    (some (v6 + (nI 1))).bind fun x5 =>
    rec x4 x5 μ1)
  else
  some (v5, μ)
def M_serves_l1 (v1 : Int32) (v2 : Int32) (v3 : Int32) (v4 : Int32) : Nat → Int32 → Int32 → Mem → Option (Int32 × Mem)
  | 0 => fun _ _ _ => none
  | n + 1 => M_serves_l1b v1 v2 v3 v4 (M_serves_l1 v1 v2 v3 v4 n)
def M_serves (a1 : Int32) (a2 : Int32) (a3 : Int32) (a4 : Int32) (μ : Mem) : Option (Int32 × Mem) :=
  (M_isYear a2).bind fun x1 =>
  if x1 = 0 then some ((-1), μ) else
  (M_in a3 (nI 1) (nI 9999)).bind fun x2 =>
  if x2 = 0 then some ((-1), μ) else
  (M_in a4 (nI 0) (nI 1)).bind fun x3 =>
  if x3 = 0 then some ((-1), μ) else
  (M_isTold a1 μ).bind fun (x4, μ5) =>
  if x4 = 0 then some ((-1), μ5) else
  if (mI μ5 1342 0 0) = 0 then some ((-1), μ5) else
  (M_serves_l1 a1 a2 a3 a4 FU (-1) (nI 0) μ5).bind fun (x6, μ7) =>
  some (x6, μ7)
def M_boil_l1b (v3 : Int32) (v4 : Int32) (μ : Mem) (rec : Int32 → Int32 → Option (Int32 × Mem)) (v5 : Int32) (v6 : Int32) : Option (Int32 × Mem) :=
  if (nI 200) < v6 then some ((-1), μ) else
  (mRd μ 1332 0 9 (nI 0)).bind fun x1 =>
  (mDv ((nI 100) * v4) (((nI 10) * v3) + x1)).bind fun x2 =>
  (mDv v5 (nI 25)).bind fun x3 =>
  (some ((v5 + x2) - x3)).bind fun x4 =>
  if x4 < (nI 100) then
    ((some (v6 + (nI 1))).bind fun x5 =>
    rec x4 x5)
  else
  some (v6, μ)
def M_boil_l1 (v3 : Int32) (v4 : Int32) (μ : Mem) : Nat → Int32 → Int32 → Option (Int32 × Mem)
  | 0 => fun _ _ => none
  | n + 1 => M_boil_l1b v3 v4 μ (M_boil_l1 v3 v4 μ n)
def M_boil (a1 : Int32) (a2 : Int32) (a3 : Int32) (a4 : Int32) (μ : Mem) : Option (Int32 × Mem) :=
  (M_in a3 (nI 1) (nI 99)).bind fun x1 =>
  if x1 = 0 then some ((-1), μ) else
  (M_in a4 (nI 1) (nI 99)).bind fun x2 =>
  if x2 = 0 then some ((-1), μ) else
  (M_isTold a1 μ).bind fun (x3, μ4) =>
  if x3 = 0 then some ((-1), μ4) else
  (M_in a2 (nI 0) ((mI μ4 1342 0 0) - (nI 1))).bind fun x5 =>
  if x5 = 0 then some ((-1), μ4) else
  (M_go a1 a2 μ4).bind fun μ6 =>
  M_boil_l1 a3 a4 μ6 FU (nI 10) (nI 1)
def M_isOtherwise (a1 : Int32) (a2 : Int32) (a3 : Int32) (μ : Mem) : Option Int32 :=
  (M_onPage a1 a3 μ).bind fun x1 =>
  (some (((nI 8) * a1) + x1)).bind fun x2 =>
  (M_onPage a2 a3 μ).bind fun x3 =>
  (some (((nI 8) * a2) + x3)).bind fun x4 =>
  (mRd μ 1317 0 136 x2).bind fun x5 =>
  (mRd μ 1317 0 136 x4).bind fun x6 =>
  if x5 = x6 then
    ((mRd μ 1318 0 136 x2).bind fun x7 =>
    (mRd μ 1318 0 136 x4).bind fun x8 =>
    if x7 = x8 then mRz (nI 0) else
    mRz (nI 1))
  else
  mRz (nI 1)
def M_changed_l1b (v1 : Int32) (v3 : Int32) (v4 : Int32) (v5 : Int32) (μ : Mem) (rec : Int32 → Int32 → Option Int32) (v6 : Int32) (v7 : Int32) : Option Int32 :=
  if v7 < (mI μ 1314 0 0) then
    ((M_has (v4 &&& v5) v7).bind fun x1 =>
    (if x1 = 0 then some (nI 0) else
     (M_isOtherwise v1 v3 v7 μ).bind fun x2 =>
     if x2 = 0 then some (nI 0) else
     some ((nI 1) <<< (v7 &&& 31))).bind fun x3 =>
    (some (v6 ||| x3)).bind fun x4 =>
    (some (v7 + (nI 1))).bind fun x5 =>
    rec x4 x5)
  else
  some v6
def M_changed_l1 (v1 : Int32) (v3 : Int32) (v4 : Int32) (v5 : Int32) (μ : Mem) : Nat → Int32 → Int32 → Option Int32
  | 0 => fun _ _ => none
  | n + 1 => M_changed_l1b v1 v3 v4 v5 μ (M_changed_l1 v1 v3 v4 v5 μ n)
def M_changed (a1 : Int32) (a2 : Int32) (μ : Mem) : Option (Int32 × Mem) :=
  (M_came a1 μ).bind fun (x1, μ2) =>
  if x1 = (-1) then some ((-1), μ2) else
  (M_in a2 (nI 0) (nI 3)).bind fun x3 =>
  if x3 = 0 then some ((-1), μ2) else
  (M_thingsOf a1 μ2).bind fun x4 =>
  (M_thingsOf x1 μ2).bind fun x5 =>
  if a2 < (nI 2) then
    (if a2 = 0 then some ((x4 &&& (x5 ^^^ (-1))), μ2) else
    some ((x5 &&& (x4 ^^^ (-1))), μ2))
  else
  if a2 = (nI 3) then
    ((M_farOf a1 x1 μ2).bind fun (x7, μ8) =>
    (M_bits (x4 ^^^ x5)).bind fun x9 =>
    some ((x7 - x9), μ8))
  else
  (M_changed_l1 a1 x1 x4 x5 μ2 FU (nI 0) (nI 0)).bind fun x6 =>
  some (x6, μ2)
def M_line_l1b (rec : Int32 → Int32 → Mem → Option (Int32 × Mem)) (v2 : Int32) (v3 : Int32) (μ : Mem) : Option (Int32 × Mem) :=
  if v3 = (-1) then some (v2, μ) else
  (some (v2 + (nI 1))).bind fun x1 =>
  (M_came v3 μ).bind fun (x2, μ3) =>
  rec x1 x2 μ3
def M_line_l1 : Nat → Int32 → Int32 → Mem → Option (Int32 × Mem)
  | 0 => fun _ _ _ => none
  | n + 1 => M_line_l1b  (M_line_l1  n)
def M_line (a1 : Int32) (μ : Mem) : Option (Int32 × Mem) :=
  (M_isPage a1 μ).bind fun x1 =>
  if x1 = 0 then some ((-1), μ) else
  (M_came a1 μ).bind fun (x2, μ3) =>
  (M_line_l1 FU (nI 0) x2 μ3).bind fun (x4, μ5) =>
  some (x4, μ5)
def M_stem_l1b (rec : Int32 → Int32 → Mem → Option (Int32 × Mem)) (v3 : Int32) (v4 : Int32) (μ : Mem) : Option (Int32 × Mem) :=
  if v3 = v4 then some (v3, μ) else
  (M_came (jMax v3 v4) μ).bind fun (x1, μ2) =>
  (some (jMin v3 v4)).bind fun x3 =>
  rec x3 x1 μ2
def M_stem_l1 : Nat → Int32 → Int32 → Mem → Option (Int32 × Mem)
  | 0 => fun _ _ _ => none
  | n + 1 => M_stem_l1b  (M_stem_l1  n)
def M_stem (a1 : Int32) (a2 : Int32) (μ : Mem) : Option (Int32 × Mem) :=
  (M_isPage a1 μ).bind fun x1 =>
  if x1 = 0 then some ((-1), μ) else
  (M_isPage a2 μ).bind fun x2 =>
  if x2 = 0 then some ((-1), μ) else
  (M_stem_l1 FU a1 a2 μ).bind fun (x3, μ4) =>
  some (x3, μ4)
def M_guessOf_l1b (v1 : Int32) (v2 : Int32) (μ : Mem) (rec : Int32 → Int32 → Int32 → Option (Int32 × Int32)) (v3 : Int32) (v4 : Int32) (v5 : Int32) : Option (Int32 × Int32) :=
  if v5 < (mI μ 1322 0 0) then
    ((M_onPage v5 v2 μ).bind fun x1 =>
    (if v5 = v1 then some (v3, v4) else
     (mRd μ 1321 0 17 v5).bind fun x2 =>
     (mRd μ 1321 0 17 v1).bind fun x3 =>
     if x2 = x3 then
       (if x1 = (-1) then some (v3, v4) else
       (mRd μ 1317 0 136 (((nI 8) * v5) + x1)).bind fun x4 =>
       if 0 < x4 then
         ((mRd μ 1317 0 136 (((nI 8) * v5) + x1)).bind fun x5 =>
         (mRd μ 1318 0 136 (((nI 8) * v5) + x1)).bind fun x6 =>
         (mDv (x5 + x6) (nI 2)).bind fun x7 =>
         (some (v3 + x7)).bind fun x8 =>
         (some (v4 + (nI 1))).bind fun x9 =>
         some (x8, x9))
       else
       some (v3, v4))
     else
     some (v3, v4)).bind fun (x10, x11) =>
    (some (v5 + (nI 1))).bind fun x12 =>
    rec x10 x11 x12)
  else
  some (v3, v4)
def M_guessOf_l1 (v1 : Int32) (v2 : Int32) (μ : Mem) : Nat → Int32 → Int32 → Int32 → Option (Int32 × Int32)
  | 0 => fun _ _ _ => none
  | n + 1 => M_guessOf_l1b v1 v2 μ (M_guessOf_l1 v1 v2 μ n)
def M_guessOf (a1 : Int32) (a2 : Int32) (μ : Mem) : Option Int32 :=
  (M_guessOf_l1 a1 a2 μ FU (nI 0) (nI 0) (nI 0)).bind fun (x1, x2) =>
  if x2 = 0 then some (-1) else
  (mDv x1 x2).bind fun x3 =>
  some x3
def M_guess (a1 : Int32) (a2 : Int32) (μ : Mem) : Option Int32 :=
  (M_isPage a1 μ).bind fun x1 =>
  if x1 = 0 then some (-1) else
  (M_isThing a2 μ).bind fun x2 =>
  if x2 = 0 then some (-1) else
  (M_leftOut a1 μ).bind fun x3 =>
  (M_has x3 a2).bind fun x4 =>
  if x4 = 0 then some (-1) else
  (M_guessOf a1 a2 μ).bind fun x5 =>
  some x5
def M_nearest_l1b (v1 : Int32) (rec : Int32 → Int32 → Mem → Option (Int32 × Mem)) (v2 : Int32) (v3 : Int32) (μ : Mem) : Option (Int32 × Mem) :=
  (mRd μ 1315 0 17 v1).bind fun x1 =>
  if v3 < x1 then
    ((mRd μ 1317 0 136 (((nI 8) * v1) + v3)).bind fun x2 =>
    (if x2 = 0 then
       ((mRd μ 1316 0 136 (((nI 8) * v1) + v3)).bind fun x3 =>
       (M_guessOf v1 x3 μ).bind fun x4 =>
       some x4)
     else
     some ((-1) : Int32)).bind fun x5 =>
    (mWr μ 1379 0 8 v3 x5).bind fun μ6 =>
    (if v2 = 0 then
       ((mRd μ6 1379 0 8 v3).bind fun x7 =>
       if x7 = (-1) then some (nI 0) else
       some (nI 1))
     else
     some (nI 1)).bind fun x8 =>
    (some (v3 + (nI 1))).bind fun x9 =>
    rec x8 x9 μ6)
  else
  some (v2, μ)
def M_nearest_l1 (v1 : Int32) : Nat → Int32 → Int32 → Mem → Option (Int32 × Mem)
  | 0 => fun _ _ _ => none
  | n + 1 => M_nearest_l1b v1 (M_nearest_l1 v1 n)
def M_nearest_l3b (v1 : Int32) (v2 : Int32) (v3 : Int32) (v4 : Int32) (v5 : Int32) (μ : Mem) (rec : Int32 → Int32 → Option Int32) (v6 : Int32) (v7 : Int32) : Option Int32 :=
  (mRd μ 1315 0 17 v1).bind fun x1 =>
  if v7 < x1 then
    ((mRd μ 1379 0 8 v7).bind fun x2 =>
    (if x2 = (-1) then some (nI 0) else
     (mRd μ 1340 0 8 v7).bind fun x3 =>
     (mRd μ 1379 0 8 v7).bind fun x4 =>
     some (jAbs (x3 - x4))).bind fun x5 =>
    (some (v6 + x5)).bind fun x6 =>
    (some (v7 + (nI 1))).bind fun x7 =>
    rec x6 x7)
  else
  some v6
def M_nearest_l3 (v1 : Int32) (v2 : Int32) (v3 : Int32) (v4 : Int32) (v5 : Int32) (μ : Mem) : Nat → Int32 → Int32 → Option Int32
  | 0 => fun _ _ => none
  | n + 1 => M_nearest_l3b v1 v2 v3 v4 v5 μ (M_nearest_l3 v1 v2 v3 v4 v5 μ n)
def M_nearest_l2b (v1 : Int32) (v2 : Int32) (rec : Int32 → Int32 → Int32 → Mem → Option (Int32 × Mem)) (v3 : Int32) (v4 : Int32) (v5 : Int32) (μ : Mem) : Option (Int32 × Mem) :=
  if v5 < (mI μ 1342 0 0) then
    (if v2 = 0 then some (v3, μ) else
    (mRd μ 1341 0 5000 v5).bind fun x1 =>
    (M_lay v1 x1 μ).bind fun μ2 =>
    (M_nearest_l3 v1 v2 v3 v4 v5 μ2 FU (nI 0) (nI 0)).bind fun x3 =>
    (if v3 = (-1) then some (v5, x3) else
     if x3 < v4 then some (v5, x3) else
     some (v3, v4)).bind fun (x4, x5) =>
    (some (v5 + (nI 1))).bind fun x6 =>
    rec x4 x5 x6 μ2)
  else
  some (v3, μ)
def M_nearest_l2 (v1 : Int32) (v2 : Int32) : Nat → Int32 → Int32 → Int32 → Mem → Option (Int32 × Mem)
  | 0 => fun _ _ _ _ => none
  | n + 1 => M_nearest_l2b v1 v2 (M_nearest_l2 v1 v2 n)
def M_nearest (a1 : Int32) (μ : Mem) : Option (Int32 × Mem) :=
  (M_isTold a1 μ).bind fun (x1, μ2) =>
  if x1 = 0 then some ((-1), μ2) else
  (M_nearest_l1 a1 FU (nI 0) (nI 0) μ2).bind fun (x3, μ4) =>
  (M_nearest_l2 a1 x3 FU (-1) (nI 0) (nI 0) μ4).bind fun (x5, μ6) =>
  some (x5, μ6)
def M_lackingBy_l1b (v1 : Int32) (v2 : Int32) (v3 : Int32) (μ : Mem) (rec : Int32 → Int32 → Option Int32) (v4 : Int32) (v5 : Int32) : Option Int32 :=
  (mRd μ 1315 0 17 v2).bind fun x1 =>
  if v5 < x1 then
    ((mRd μ 1316 0 136 (((nI 8) * v2) + v5)).bind fun x2 =>
    (mRd μ 1340 0 8 v5).bind fun x3 =>
    (mRd μ 1357 0 120 (((nI 12) * v1) + x2)).bind fun x4 =>
    (if x4 < (x3 * v3) then some ((nI 1) <<< (x2 &&& 31)) else
     some (nI 0)).bind fun x5 =>
    (some (v4 ||| x5)).bind fun x6 =>
    (some (v5 + (nI 1))).bind fun x7 =>
    rec x6 x7)
  else
  some v4
def M_lackingBy_l1 (v1 : Int32) (v2 : Int32) (v3 : Int32) (μ : Mem) : Nat → Int32 → Int32 → Option Int32
  | 0 => fun _ _ => none
  | n + 1 => M_lackingBy_l1b v1 v2 v3 μ (M_lackingBy_l1 v1 v2 v3 μ n)
def M_lackingBy (a1 : Int32) (a2 : Int32) (a3 : Int32) (μ : Mem) : Option Int32 :=
  (M_lackingBy_l1 a1 a2 a3 μ FU (nI 0) (nI 0)).bind fun x1 =>
  some x1
def M_lacking (a1 : Int32) (a2 : Int32) (a3 : Int32) (a4 : Int32) (μ : Mem) : Option (Int32 × Mem) :=
  (M_isDay a1 μ).bind fun x1 =>
  if x1 = 0 then some ((-1), μ) else
  (M_in a4 (nI 1) (nI 99)).bind fun x2 =>
  if x2 = 0 then some ((-1), μ) else
  (M_isTold a2 μ).bind fun (x3, μ4) =>
  if x3 = 0 then some ((-1), μ4) else
  (M_in a3 (nI 0) ((mI μ4 1342 0 0) - (nI 1))).bind fun x5 =>
  if x5 = 0 then some ((-1), μ4) else
  (mRd μ4 1341 0 5000 a3).bind fun x6 =>
  (M_lay a2 x6 μ4).bind fun μ7 =>
  (M_lackingBy a1 a2 a4 μ7).bind fun x8 =>
  some (x8, μ7)
def M_enough_l1b (v1 : Int32) (v2 : Int32) (μ : Mem) (rec : Int32 → Option Int32) (v4 : Int32) : Option Int32 :=
  if v4 < (nI 99) then
    ((M_lackingBy v1 v2 (v4 + (nI 1)) μ).bind fun x1 =>
    if x1 = 0 then
      ((some (v4 + (nI 1))).bind fun x2 =>
      rec x2)
    else
    some v4)
  else
  some v4
def M_enough_l1 (v1 : Int32) (v2 : Int32) (μ : Mem) : Nat → Int32 → Option Int32
  | 0 => fun _ => none
  | n + 1 => M_enough_l1b v1 v2 μ (M_enough_l1 v1 v2 μ n)
def M_enough (a1 : Int32) (a2 : Int32) (a3 : Int32) (μ : Mem) : Option (Int32 × Mem) :=
  (M_isDay a1 μ).bind fun x1 =>
  if x1 = 0 then some ((-1), μ) else
  (M_isTold a2 μ).bind fun (x2, μ3) =>
  if x2 = 0 then some ((-1), μ3) else
  (M_in a3 (nI 0) ((mI μ3 1342 0 0) - (nI 1))).bind fun x4 =>
  if x4 = 0 then some ((-1), μ3) else
  (mRd μ3 1341 0 5000 a3).bind fun x5 =>
  (M_lay a2 x5 μ3).bind fun μ6 =>
  (M_enough_l1 a1 a2 μ6 FU (nI 0)).bind fun x7 =>
  some (x7, μ6)
def M_wasted (a1 : Int32) (a2 : Int32) (a3 : Int32) (a4 : Int32) (μ : Mem) : Option (Int32 × Mem) :=
  (M_in a3 (nI 0) (nI 99)).bind fun x1 =>
  if x1 = 0 then some ((-1), μ) else
  if a4 < 0 then some ((-1), μ) else
  (M_layMenu a1 a2 μ).bind fun (x2, μ3) =>
  if x2 = 0 then some ((-1), μ3) else
  (M_findMenus a1 a3 a4 μ3).bind fun μ4 =>
  if a4 < (mI μ4 1366 0 0) then some ((mI μ4 1373 0 0), μ4) else
  some ((-1), μ4)
def M_lean (a1 : Int32) (a2 : Int32) (a3 : Int32) (a4 : Int32) (μ : Mem) : Option (Int32 × Mem) :=
  (M_in a3 (nI 0) (nI 99)).bind fun x1 =>
  if x1 = 0 then some ((-1), μ) else
  (M_in a4 (nI 0) (nI 2)).bind fun x2 =>
  if x2 = 0 then some ((-1), μ) else
  (M_layMenu a1 a2 μ).bind fun (x3, μ4) =>
  if x3 = 0 then some ((-1), μ4) else
  (M_findMenus a1 a3 (-1) μ4).bind fun μ5 =>
  if (mI μ5 1366 0 0) = 0 then some ((-1), μ5) else
  if a4 = 0 then some ((mI μ5 1376 0 0), μ5) else
  if a4 = (nI 1) then some ((mI μ5 1375 0 0), μ5) else
  some ((mI μ5 1374 0 0), μ5)
def M_softer_l2b (v1 : Int32) (v2 : Int32) (v3 : Int32) (v5 : Int32) (μ : Mem) (rec : Int32 → Int32 → Option Int32) (v4 : Int32) (v6 : Int32) : Option Int32 :=
  if v6 < v5 then
    ((mRd μ 1380 0 300 v5).bind fun x1 =>
    (mRd μ 1380 0 300 v6).bind fun x2 =>
    (J_compare x1 x2).bind fun x3 =>
    (mRd μ 1381 0 300 v5).bind fun x4 =>
    (mRd μ 1381 0 300 v6).bind fun x5 =>
    (J_compare x4 x5).bind fun x6 =>
    (some (v4 + (x3 * x6))).bind fun x7 =>
    (some (v6 + (nI 1))).bind fun x8 =>
    rec x7 x8)
  else
  some v4
def M_softer_l2 (v1 : Int32) (v2 : Int32) (v3 : Int32) (v5 : Int32) (μ : Mem) : Nat → Int32 → Int32 → Option Int32
  | 0 => fun _ _ => none
  | n + 1 => M_softer_l2b v1 v2 v3 v5 μ (M_softer_l2 v1 v2 v3 v5 μ n)
def M_softer_l1b (v1 : Int32) (v2 : Int32) (v3 : Int32) (rec : Int32 → Int32 → Mem → Option (Int32 × Mem)) (v4 : Int32) (v5 : Int32) (μ : Mem) : Option (Int32 × Mem) :=
  if v5 < (mI μ 1342 0 0) then
    ((M_go v1 v5 μ).bind fun μ1 =>
    (M_worthNow v2 μ1).bind fun (x2, μ3) =>
    (mWr μ3 1380 0 300 v5 x2).bind fun μ4 =>
    (M_worthNow v3 μ4).bind fun (x5, μ6) =>
    (mWr μ6 1381 0 300 v5 x5).bind fun μ7 =>
    (M_softer_l2 v1 v2 v3 v5 μ7 FU v4 (nI 0)).bind fun x8 =>
    (some (v5 + (nI 1))).bind fun x9 =>
    rec x8 x9 μ7)
  else
  some (v4, μ)
def M_softer_l1 (v1 : Int32) (v2 : Int32) (v3 : Int32) : Nat → Int32 → Int32 → Mem → Option (Int32 × Mem)
  | 0 => fun _ _ _ => none
  | n + 1 => M_softer_l1b v1 v2 v3 (M_softer_l1 v1 v2 v3 n)
def M_softer (a1 : Int32) (a2 : Int32) (a3 : Int32) (μ : Mem) : Option (Int32 × Mem) :=
  (M_isLaw a2 μ).bind fun x1 =>
  if x1 = 0 then some ((-10000000), μ) else
  (M_isLaw a3 μ).bind fun x2 =>
  if x2 = 0 then some ((-10000000), μ) else
  (M_isTold a1 μ).bind fun (x3, μ4) =>
  if x3 = 0 then some ((-10000000), μ4) else
  if (nI 300) < (mI μ4 1342 0 0) then some ((-10000000), μ4) else
  (M_softer_l1 a1 a2 a3 FU (nI 0) (nI 0) μ4).bind fun (x5, μ6) =>
  some (x5, μ6)
def M_isWithin (a1 : Int32) (a2 : Int32) (μ : Mem) : Option Int32 :=
  (mRd μ 1340 0 8 a2).bind fun x1 =>
  (M_lowOf (((nI 8) * a1) + a2) μ).bind fun x2 =>
  (M_lowOf (((nI 8) * a1) + a2) μ).bind fun x3 =>
  (M_rangeOf (((nI 8) * a1) + a2) μ).bind fun x4 =>
  (M_in x1 x2 ((x3 + x4) - (nI 1))).bind fun x5 =>
  mRz x5
def M_swapped_l1b (v1 : Int32) (v4 : Int32) (v5 : Int32) (rec : Int32 → Int32 → Mem → Option (Int32 × Mem)) (v6 : Int32) (v7 : Int32) (μ : Mem) : Option (Int32 × Mem) :=
  if v7 < (mI μ 1342 0 0) then
    ((mRd μ 1341 0 5000 v7).bind fun x1 =>
    (M_lay v1 x1 μ).bind fun μ2 =>
    (mRd μ2 1340 0 8 v4).bind fun x3 =>
    (mRd μ2 1340 0 8 v5).bind fun x4 =>
    (mWr μ2 1340 0 8 v4 x4).bind fun μ5 =>
    (mWr μ5 1340 0 8 v5 x3).bind fun μ6 =>
    (M_spell v1 μ6).bind fun μ7 =>
    (M_isWithin v1 v4 μ7).bind fun x8 =>
    (if x8 = 0 then some ((nI 0), μ7) else
     (M_isWithin v1 v5 μ7).bind fun x9 =>
     if x9 = 0 then some ((nI 0), μ7) else
     (M_isKept v1 μ7).bind fun (x10, μ11) =>
     if x10 = 0 then some ((nI 0), μ11) else
     some ((nI 1), μ11)).bind fun (x12, μ13) =>
    (some (v6 + x12)).bind fun x14 =>
    (some (v7 + (nI 1))).bind fun x15 =>
    rec x14 x15 μ13)
  else
  some (v6, μ)
def M_swapped_l1 (v1 : Int32) (v4 : Int32) (v5 : Int32) : Nat → Int32 → Int32 → Mem → Option (Int32 × Mem)
  | 0 => fun _ _ _ => none
  | n + 1 => M_swapped_l1b v1 v4 v5 (M_swapped_l1 v1 v4 v5 n)
def M_swapped (a1 : Int32) (a2 : Int32) (a3 : Int32) (μ : Mem) : Option (Int32 × Mem) :=
  if a2 = a3 then some ((-1), μ) else
  (M_isThing a2 μ).bind fun x1 =>
  if x1 = 0 then some ((-1), μ) else
  (M_isThing a3 μ).bind fun x2 =>
  if x2 = 0 then some ((-1), μ) else
  (M_isTold a1 μ).bind fun (x3, μ4) =>
  if x3 = 0 then some ((-1), μ4) else
  (M_onPage a1 a2 μ4).bind fun x5 =>
  if x5 = (-1) then some ((-1), μ4) else
  (M_onPage a1 a3 μ4).bind fun x6 =>
  if x6 = (-1) then some ((-1), μ4) else
  (M_onPage a1 a2 μ4).bind fun x7 =>
  (M_onPage a1 a3 μ4).bind fun x8 =>
  (M_swapped_l1 a1 x7 x8 FU (nI 0) (nI 0) μ4).bind fun (x9, μ10) =>
  some (x9, μ10)
def M_count (a1 : Int32) (μ : Mem) : Option Int32 :=
  if a1 = (nI 0) then
    (some (mI μ 1322 0 0))
  else if a1 = (nI 1) then
    (some (mI μ 1330 0 0))
  else if a1 = (nI 2) then
    (some (mI μ 1314 0 0))
  else if a1 = (nI 3) then
    (some (mI μ 1338 0 0))
  else if a1 = (nI 4) then
    (some (mI μ 1348 0 0))
  else if a1 = (nI 5) then
    (some (mI μ 1354 0 0))
  else if a1 = (nI 6) then
    (some (mI μ 1358 0 0))
  else if a1 = (nI 7) then
    (some (mI μ 1302 0 0))
  else if a1 = (nI 8) then
    (some (mI μ 1339 0 0))
  else 
  some (-1)
