theorem aw_I : Cond.arrayClass .int ∈ BW := (BW_at 156 (by decide +kernel) rfl)
theorem aw_Z : Cond.arrayClass .boolean ∈ BW := (BW_at 459 (by decide +kernel) rfl)
theorem aw_J : Cond.arrayClass .long ∈ BW := (BW_at 496 (by decide +kernel) rfl)
theorem oiX9_3 : Cond.methodLink "PotBook$Tape" 3 Lib.objectInit ∈ BW ∧ Cond.instanceMethod Lib.objectInit ∈ BW ∧ Cond.code Lib.objectInit ⟨#[0xb1]⟩ 1 none ∈ BW := ⟨(BW_at 140 (by decide +kernel) rfl), (BW_at 133 (by decide +kernel) rfl), (BW_at 134 (by decide +kernel) rfl)⟩
theorem ffX9_9 : FF "PotBook$Tape" 9 9 0 (.array .int) := ⟨RX9, TX9, 4, cf_9, by decide, (BW_at 141 (by decide +kernel) rfl), rfl, rfl, by decide +kernel⟩
theorem gnX9_15 : FN "PotBook$Tape" 15 9 3 := ⟨RX9, TX9, 4, cf_9, by decide, (BW_at 145 (by decide +kernel) rfl)⟩
theorem fq_9_3 : FP 9 3 1003 := ⟨RX9, TX9, 4, cf_9, rfl, ⟨.int, by decide +kernel, rfl⟩, rfl⟩
theorem oiX7_3 : Cond.methodLink "PotBook$Pantry" 3 Lib.objectInit ∈ BW ∧ Cond.instanceMethod Lib.objectInit ∈ BW ∧ Cond.code Lib.objectInit ⟨#[0xb1]⟩ 1 none ∈ BW := ⟨(BW_at 162 (by decide +kernel) rfl), (BW_at 133 (by decide +kernel) rfl), (BW_at 134 (by decide +kernel) rfl)⟩
theorem ffX7_9 : FF "PotBook$Pantry" 9 7 0 (.array .int) := ⟨RX7, TX7, 9, cf_7, by decide, (BW_at 165 (by decide +kernel) rfl), rfl, rfl, by decide +kernel⟩
theorem ffX7_15 : FF "PotBook$Pantry" 15 7 1 (.array .int) := ⟨RX7, TX7, 9, cf_7, by decide, (BW_at 167 (by decide +kernel) rfl), rfl, rfl, by decide +kernel⟩
theorem ffX7_18 : FF "PotBook$Pantry" 18 7 2 (.array .int) := ⟨RX7, TX7, 9, cf_7, by decide, (BW_at 169 (by decide +kernel) rfl), rfl, rfl, by decide +kernel⟩
theorem ffX7_21 : FF "PotBook$Pantry" 21 7 3 (.array .int) := ⟨RX7, TX7, 9, cf_7, by decide, (BW_at 171 (by decide +kernel) rfl), rfl, rfl, by decide +kernel⟩
theorem ffX7_24 : FF "PotBook$Pantry" 24 7 4 (.array .int) := ⟨RX7, TX7, 9, cf_7, by decide, (BW_at 173 (by decide +kernel) rfl), rfl, rfl, by decide +kernel⟩
theorem clX7_27 : Cond.classLink "PotBook$Pantry" 27 ("[" ++ (FieldType.array .int).toString) ∈ BW := (BW_at 163 (by decide +kernel) rfl)
theorem ffX7_29 : FF "PotBook$Pantry" 29 7 5 (.array (.array .int)) := ⟨RX7, TX7, 9, cf_7, by decide, (BW_at 174 (by decide +kernel) rfl), rfl, rfl, by decide +kernel⟩
theorem ffX7_32 : FF "PotBook$Pantry" 32 7 6 (.array (.array .int)) := ⟨RX7, TX7, 9, cf_7, by decide, (BW_at 175 (by decide +kernel) rfl), rfl, rfl, by decide +kernel⟩
theorem oiX6_3 : Cond.methodLink "PotBook$Pages" 3 Lib.objectInit ∈ BW ∧ Cond.instanceMethod Lib.objectInit ∈ BW ∧ Cond.code Lib.objectInit ⟨#[0xb1]⟩ 1 none ∈ BW := ⟨(BW_at 206 (by decide +kernel) rfl), (BW_at 133 (by decide +kernel) rfl), (BW_at 134 (by decide +kernel) rfl)⟩
theorem ffX6_9 : FF "PotBook$Pages" 9 6 2 (.array .int) := ⟨RX6, TX6, 13, cf_6, by decide, (BW_at 210 (by decide +kernel) rfl), rfl, rfl, by decide +kernel⟩
theorem clX6_15 : Cond.classLink "PotBook$Pages" 15 ("[" ++ (FieldType.array .int).toString) ∈ BW := (BW_at 207 (by decide +kernel) rfl)
theorem ffX6_17 : FF "PotBook$Pages" 17 6 3 (.array (.array .int)) := ⟨RX6, TX6, 13, cf_6, by decide, (BW_at 215 (by decide +kernel) rfl), rfl, rfl, by decide +kernel⟩
theorem ffX6_20 : FF "PotBook$Pages" 20 6 4 (.array (.array .int)) := ⟨RX6, TX6, 13, cf_6, by decide, (BW_at 220 (by decide +kernel) rfl), rfl, rfl, by decide +kernel⟩
theorem ffX6_23 : FF "PotBook$Pages" 23 6 5 (.array (.array .int)) := ⟨RX6, TX6, 13, cf_6, by decide, (BW_at 223 (by decide +kernel) rfl), rfl, rfl, by decide +kernel⟩
theorem ffX6_26 : FF "PotBook$Pages" 26 6 6 (.array .int) := ⟨RX6, TX6, 13, cf_6, by decide, (BW_at 226 (by decide +kernel) rfl), rfl, rfl, by decide +kernel⟩
theorem ffX6_29 : FF "PotBook$Pages" 29 6 7 (.array .int) := ⟨RX6, TX6, 13, cf_6, by decide, (BW_at 232 (by decide +kernel) rfl), rfl, rfl, by decide +kernel⟩
theorem ffX6_32 : FF "PotBook$Pages" 32 6 8 (.array (.array .int)) := ⟨RX6, TX6, 13, cf_6, by decide, (BW_at 234 (by decide +kernel) rfl), rfl, rfl, by decide +kernel⟩
theorem ffX6_35 : FF "PotBook$Pages" 35 6 9 (.array .int) := ⟨RX6, TX6, 13, cf_6, by decide, (BW_at 236 (by decide +kernel) rfl), rfl, rfl, by decide +kernel⟩
theorem ffX6_38 : FF "PotBook$Pages" 38 6 10 (.array (.array .int)) := ⟨RX6, TX6, 13, cf_6, by decide, (BW_at 239 (by decide +kernel) rfl), rfl, rfl, by decide +kernel⟩
theorem ffX6_41 : FF "PotBook$Pages" 41 6 11 (.array .int) := ⟨RX6, TX6, 13, cf_6, by decide, (BW_at 241 (by decide +kernel) rfl), rfl, rfl, by decide +kernel⟩
theorem ffX6_44 : FF "PotBook$Pages" 44 6 0 (.object "PotBook$Tape") := ⟨RX6, TX6, 13, cf_6, by decide, (BW_at 208 (by decide +kernel) rfl), rfl, rfl, by decide +kernel⟩
theorem ffX6_48 : FF "PotBook$Pages" 48 6 1 (.object "PotBook$Pantry") := ⟨RX6, TX6, 13, cf_6, by decide, (BW_at 209 (by decide +kernel) rfl), rfl, rfl, by decide +kernel⟩
theorem oiX4_3 : Cond.methodLink "PotBook$Laws" 3 Lib.objectInit ∈ BW ∧ Cond.instanceMethod Lib.objectInit ∈ BW ∧ Cond.code Lib.objectInit ⟨#[0xb1]⟩ 1 none ∈ BW := ⟨(BW_at 279 (by decide +kernel) rfl), (BW_at 133 (by decide +kernel) rfl), (BW_at 134 (by decide +kernel) rfl)⟩
theorem clX4_9 : Cond.classLink "PotBook$Laws" 9 ("[" ++ (FieldType.array .int).toString) ∈ BW := (BW_at 280 (by decide +kernel) rfl)
theorem ffX4_11 : FF "PotBook$Laws" 11 4 0 (.array (.array .int)) := ⟨RX4, TX4, 8, cf_4, by decide, (BW_at 283 (by decide +kernel) rfl), rfl, rfl, by decide +kernel⟩
theorem ffX4_16 : FF "PotBook$Laws" 16 4 1 (.array .int) := ⟨RX4, TX4, 8, cf_4, by decide, (BW_at 284 (by decide +kernel) rfl), rfl, rfl, by decide +kernel⟩
theorem ffX4_20 : FF "PotBook$Laws" 20 4 2 (.array .int) := ⟨RX4, TX4, 8, cf_4, by decide, (BW_at 285 (by decide +kernel) rfl), rfl, rfl, by decide +kernel⟩
theorem ffX4_23 : FF "PotBook$Laws" 23 4 5 (.array .int) := ⟨RX4, TX4, 8, cf_4, by decide, (BW_at 290 (by decide +kernel) rfl), rfl, rfl, by decide +kernel⟩
theorem ffX4_26 : FF "PotBook$Laws" 26 4 6 (.array .int) := ⟨RX4, TX4, 8, cf_4, by decide, (BW_at 291 (by decide +kernel) rfl), rfl, rfl, by decide +kernel⟩
theorem ggX4_23 : FG "PotBook$Laws" 23 4 5 := ⟨RX4, TX4, 8, cf_4, by decide, Or.inl (BW_at 290 (by decide +kernel) rfl)⟩
theorem ggX4_26 : FG "PotBook$Laws" 26 4 6 := ⟨RX4, TX4, 8, cf_4, by decide, Or.inl (BW_at 291 (by decide +kernel) rfl)⟩
theorem ccX4_31 : Cond.constant "PotBook$Laws" 31 (2147483647 : Int32) ∈ BW := (BW_at 281 (by decide +kernel) rfl)
theorem ccX4_32 : Cond.constant "PotBook$Laws" 32 ((-2147483648) : Int32) ∈ BW := (BW_at 282 (by decide +kernel) rfl)
theorem oiX3_3 : Cond.methodLink "PotBook$LawReader" 3 Lib.objectInit ∈ BW ∧ Cond.instanceMethod Lib.objectInit ∈ BW ∧ Cond.code Lib.objectInit ⟨#[0xb1]⟩ 1 none ∈ BW := ⟨(BW_at 316 (by decide +kernel) rfl), (BW_at 133 (by decide +kernel) rfl), (BW_at 134 (by decide +kernel) rfl)⟩
theorem ffX3_9 : FF "PotBook$LawReader" 9 3 0 (.object "PotBook$Tape") := ⟨RX3, TX3, 2, cf_3, by decide, (BW_at 317 (by decide +kernel) rfl), rfl, rfl, by decide +kernel⟩
theorem ffX3_15 : FF "PotBook$LawReader" 15 3 1 (.object "PotBook$Laws") := ⟨RX3, TX3, 2, cf_3, by decide, (BW_at 318 (by decide +kernel) rfl), rfl, rfl, by decide +kernel⟩
theorem oiX8_3 : Cond.methodLink "PotBook$Pot" 3 Lib.objectInit ∈ BW ∧ Cond.instanceMethod Lib.objectInit ∈ BW ∧ Cond.code Lib.objectInit ⟨#[0xb1]⟩ 1 none ∈ BW := ⟨(BW_at 329 (by decide +kernel) rfl), (BW_at 133 (by decide +kernel) rfl), (BW_at 134 (by decide +kernel) rfl)⟩
theorem gnX8_9 : FN "PotBook$Pot" 9 8 3 := ⟨RX8, TX8, 19, cf_8, by decide, (BW_at 334 (by decide +kernel) rfl)⟩
theorem fq_8_3 : FP 8 3 903 := ⟨RX8, TX8, 19, cf_8, rfl, ⟨.int, by decide +kernel, rfl⟩, rfl⟩
theorem ffX8_15 : FF "PotBook$Pot" 15 8 5 (.array .int) := ⟨RX8, TX8, 19, cf_8, by decide, (BW_at 338 (by decide +kernel) rfl), rfl, rfl, by decide +kernel⟩
theorem clX8_19 : Cond.classLink "PotBook$Pot" 19 ("[" ++ (FieldType.array .int).toString) ∈ BW := (BW_at 330 (by decide +kernel) rfl)
theorem ffX8_21 : FF "PotBook$Pot" 21 8 6 (.array (.array .int)) := ⟨RX8, TX8, 19, cf_8, by decide, (BW_at 339 (by decide +kernel) rfl), rfl, rfl, by decide +kernel⟩
theorem ffX8_24 : FF "PotBook$Pot" 24 8 7 (.array (.array .int)) := ⟨RX8, TX8, 19, cf_8, by decide, (BW_at 340 (by decide +kernel) rfl), rfl, rfl, by decide +kernel⟩
theorem ffX8_27 : FF "PotBook$Pot" 27 8 9 (.array .int) := ⟨RX8, TX8, 19, cf_8, by decide, (BW_at 342 (by decide +kernel) rfl), rfl, rfl, by decide +kernel⟩
theorem ffX8_30 : FF "PotBook$Pot" 30 8 10 (.array .int) := ⟨RX8, TX8, 19, cf_8, by decide, (BW_at 343 (by decide +kernel) rfl), rfl, rfl, by decide +kernel⟩
theorem ffX8_33 : FF "PotBook$Pot" 33 8 11 (.array (.array .int)) := ⟨RX8, TX8, 19, cf_8, by decide, (BW_at 345 (by decide +kernel) rfl), rfl, rfl, by decide +kernel⟩
theorem gnX8_36 : FN "PotBook$Pot" 36 8 12 := ⟨RX8, TX8, 19, cf_8, by decide, (BW_at 347 (by decide +kernel) rfl)⟩
theorem fq_8_12 : FP 8 12 912 := ⟨RX8, TX8, 19, cf_8, rfl, ⟨.int, by decide +kernel, rfl⟩, rfl⟩
theorem ffX8_39 : FF "PotBook$Pot" 39 8 13 (.array .int) := ⟨RX8, TX8, 19, cf_8, by decide, (BW_at 349 (by decide +kernel) rfl), rfl, rfl, by decide +kernel⟩
theorem ffX8_42 : FF "PotBook$Pot" 42 8 14 (.array .int) := ⟨RX8, TX8, 19, cf_8, by decide, (BW_at 350 (by decide +kernel) rfl), rfl, rfl, by decide +kernel⟩
theorem ffX8_45 : FF "PotBook$Pot" 45 8 15 (.array .int) := ⟨RX8, TX8, 19, cf_8, by decide, (BW_at 351 (by decide +kernel) rfl), rfl, rfl, by decide +kernel⟩
theorem ffX8_48 : FF "PotBook$Pot" 48 8 16 (.array .int) := ⟨RX8, TX8, 19, cf_8, by decide, (BW_at 352 (by decide +kernel) rfl), rfl, rfl, by decide +kernel⟩
theorem ffX8_51 : FF "PotBook$Pot" 51 8 17 (.array .int) := ⟨RX8, TX8, 19, cf_8, by decide, (BW_at 353 (by decide +kernel) rfl), rfl, rfl, by decide +kernel⟩
theorem ffX8_54 : FF "PotBook$Pot" 54 8 18 (.array .int) := ⟨RX8, TX8, 19, cf_8, by decide, (BW_at 355 (by decide +kernel) rfl), rfl, rfl, by decide +kernel⟩
theorem ffX8_57 : FF "PotBook$Pot" 57 8 0 (.object "PotBook$Pages") := ⟨RX8, TX8, 19, cf_8, by decide, (BW_at 331 (by decide +kernel) rfl), rfl, rfl, by decide +kernel⟩
theorem ffX8_61 : FF "PotBook$Pot" 61 8 1 (.object "PotBook$Pantry") := ⟨RX8, TX8, 19, cf_8, by decide, (BW_at 332 (by decide +kernel) rfl), rfl, rfl, by decide +kernel⟩
theorem ffX8_65 : FF "PotBook$Pot" 65 8 2 (.object "PotBook$Laws") := ⟨RX8, TX8, 19, cf_8, by decide, (BW_at 333 (by decide +kernel) rfl), rfl, rfl, by decide +kernel⟩
theorem ggX8_27 : FG "PotBook$Pot" 27 8 9 := ⟨RX8, TX8, 19, cf_8, by decide, Or.inl (BW_at 342 (by decide +kernel) rfl)⟩
theorem oiX10_3 : Cond.methodLink "PotBook$Taster" 3 Lib.objectInit ∈ BW ∧ Cond.instanceMethod Lib.objectInit ∈ BW ∧ Cond.code Lib.objectInit ⟨#[0xb1]⟩ 1 none ∈ BW := ⟨(BW_at 402 (by decide +kernel) rfl), (BW_at 133 (by decide +kernel) rfl), (BW_at 134 (by decide +kernel) rfl)⟩
theorem ffX10_9 : FF "PotBook$Taster" 9 10 4 (.array .int) := ⟨RX10, TX10, 8, cf_10, by decide, (BW_at 407 (by decide +kernel) rfl), rfl, rfl, by decide +kernel⟩
theorem ffX10_15 : FF "PotBook$Taster" 15 10 5 (.array .int) := ⟨RX10, TX10, 8, cf_10, by decide, (BW_at 408 (by decide +kernel) rfl), rfl, rfl, by decide +kernel⟩
theorem ffX10_18 : FF "PotBook$Taster" 18 10 6 (.array .int) := ⟨RX10, TX10, 8, cf_10, by decide, (BW_at 409 (by decide +kernel) rfl), rfl, rfl, by decide +kernel⟩
theorem ffX10_21 : FF "PotBook$Taster" 21 10 7 (.array .int) := ⟨RX10, TX10, 8, cf_10, by decide, (BW_at 410 (by decide +kernel) rfl), rfl, rfl, by decide +kernel⟩
theorem ffX10_24 : FF "PotBook$Taster" 24 10 0 (.object "PotBook$Pages") := ⟨RX10, TX10, 8, cf_10, by decide, (BW_at 403 (by decide +kernel) rfl), rfl, rfl, by decide +kernel⟩
theorem ffX10_28 : FF "PotBook$Taster" 28 10 1 (.object "PotBook$Pantry") := ⟨RX10, TX10, 8, cf_10, by decide, (BW_at 404 (by decide +kernel) rfl), rfl, rfl, by decide +kernel⟩
theorem ffX10_32 : FF "PotBook$Taster" 32 10 2 (.object "PotBook$Laws") := ⟨RX10, TX10, 8, cf_10, by decide, (BW_at 405 (by decide +kernel) rfl), rfl, rfl, by decide +kernel⟩
theorem ffX10_36 : FF "PotBook$Taster" 36 10 3 (.object "PotBook$Pot") := ⟨RX10, TX10, 8, cf_10, by decide, (BW_at 406 (by decide +kernel) rfl), rfl, rfl, by decide +kernel⟩
theorem oiX2_3 : Cond.methodLink "PotBook$Kin" 3 Lib.objectInit ∈ BW ∧ Cond.instanceMethod Lib.objectInit ∈ BW ∧ Cond.code Lib.objectInit ⟨#[0xb1]⟩ 1 none ∈ BW := ⟨(BW_at 433 (by decide +kernel) rfl), (BW_at 133 (by decide +kernel) rfl), (BW_at 134 (by decide +kernel) rfl)⟩
theorem clX2_9 : Cond.classLink "PotBook$Kin" 9 ("[" ++ (FieldType.array .int).toString) ∈ BW := (BW_at 434 (by decide +kernel) rfl)
theorem ffX2_11 : FF "PotBook$Kin" 11 2 1 (.array (.array .int)) := ⟨RX2, TX2, 7, cf_2, by decide, (BW_at 436 (by decide +kernel) rfl), rfl, rfl, by decide +kernel⟩
theorem ffX2_16 : FF "PotBook$Kin" 16 2 2 (.array (.array .int)) := ⟨RX2, TX2, 7, cf_2, by decide, (BW_at 438 (by decide +kernel) rfl), rfl, rfl, by decide +kernel⟩
theorem ffX2_19 : FF "PotBook$Kin" 19 2 3 (.array .int) := ⟨RX2, TX2, 7, cf_2, by decide, (BW_at 439 (by decide +kernel) rfl), rfl, rfl, by decide +kernel⟩
theorem ffX2_23 : FF "PotBook$Kin" 23 2 4 (.array .int) := ⟨RX2, TX2, 7, cf_2, by decide, (BW_at 441 (by decide +kernel) rfl), rfl, rfl, by decide +kernel⟩
theorem ffX2_26 : FF "PotBook$Kin" 26 2 5 (.array .int) := ⟨RX2, TX2, 7, cf_2, by decide, (BW_at 442 (by decide +kernel) rfl), rfl, rfl, by decide +kernel⟩
theorem ffX2_29 : FF "PotBook$Kin" 29 2 6 (.array .boolean) := ⟨RX2, TX2, 7, cf_2, by decide, (BW_at 443 (by decide +kernel) rfl), rfl, rfl, by decide +kernel⟩
theorem ffX2_33 : FF "PotBook$Kin" 33 2 0 (.object "PotBook$Pages") := ⟨RX2, TX2, 7, cf_2, by decide, (BW_at 435 (by decide +kernel) rfl), rfl, rfl, by decide +kernel⟩
theorem oiX1_3 : Cond.methodLink "PotBook$Copies" 3 Lib.objectInit ∈ BW ∧ Cond.instanceMethod Lib.objectInit ∈ BW ∧ Cond.code Lib.objectInit ⟨#[0xb1]⟩ 1 none ∈ BW := ⟨(BW_at 465 (by decide +kernel) rfl), (BW_at 133 (by decide +kernel) rfl), (BW_at 134 (by decide +kernel) rfl)⟩
theorem ffX1_9 : FF "PotBook$Copies" 9 1 0 (.array .int) := ⟨RX1, TX1, 7, cf_1, by decide, (BW_at 469 (by decide +kernel) rfl), rfl, rfl, by decide +kernel⟩
theorem ffX1_15 : FF "PotBook$Copies" 15 1 1 (.array .int) := ⟨RX1, TX1, 7, cf_1, by decide, (BW_at 470 (by decide +kernel) rfl), rfl, rfl, by decide +kernel⟩
theorem clX1_18 : Cond.classLink "PotBook$Copies" 18 ("[" ++ (FieldType.array .int).toString) ∈ BW := (BW_at 466 (by decide +kernel) rfl)
theorem ffX1_20 : FF "PotBook$Copies" 20 1 2 (.array (.array .int)) := ⟨RX1, TX1, 7, cf_1, by decide, (BW_at 472 (by decide +kernel) rfl), rfl, rfl, by decide +kernel⟩
theorem ffX1_23 : FF "PotBook$Copies" 23 1 3 (.array (.array .int)) := ⟨RX1, TX1, 7, cf_1, by decide, (BW_at 474 (by decide +kernel) rfl), rfl, rfl, by decide +kernel⟩
theorem clX1_26 : Cond.classLink "PotBook$Copies" 26 ("[" ++ (FieldType.array .long).toString) ∈ BW := (BW_at 467 (by decide +kernel) rfl)
theorem ffX1_28 : FF "PotBook$Copies" 28 1 4 (.array (.array .long)) := ⟨RX1, TX1, 7, cf_1, by decide, (BW_at 476 (by decide +kernel) rfl), rfl, rfl, by decide +kernel⟩
theorem ffX1_31 : FF "PotBook$Copies" 31 1 5 (.array .int) := ⟨RX1, TX1, 7, cf_1, by decide, (BW_at 478 (by decide +kernel) rfl), rfl, rfl, by decide +kernel⟩
theorem ggX1_20 : FG "PotBook$Copies" 20 1 2 := ⟨RX1, TX1, 7, cf_1, by decide, Or.inl (BW_at 472 (by decide +kernel) rfl)⟩
theorem oiX0_3 : Cond.methodLink "PotBook$Account" 3 Lib.objectInit ∈ BW ∧ Cond.instanceMethod Lib.objectInit ∈ BW ∧ Cond.code Lib.objectInit ⟨#[0xb1]⟩ 1 none ∈ BW := ⟨(BW_at 502 (by decide +kernel) rfl), (BW_at 133 (by decide +kernel) rfl), (BW_at 134 (by decide +kernel) rfl)⟩
theorem ffX0_9 : FF "PotBook$Account" 9 0 3 (.array .int) := ⟨RX0, TX0, 7, cf_0, by decide, (BW_at 507 (by decide +kernel) rfl), rfl, rfl, by decide +kernel⟩
theorem ffX0_15 : FF "PotBook$Account" 15 0 4 (.array .boolean) := ⟨RX0, TX0, 7, cf_0, by decide, (BW_at 508 (by decide +kernel) rfl), rfl, rfl, by decide +kernel⟩
theorem clX0_19 : Cond.classLink "PotBook$Account" 19 ("[" ++ (FieldType.array .int).toString) ∈ BW := (BW_at 503 (by decide +kernel) rfl)
theorem ffX0_21 : FF "PotBook$Account" 21 0 5 (.array (.array .int)) := ⟨RX0, TX0, 7, cf_0, by decide, (BW_at 509 (by decide +kernel) rfl), rfl, rfl, by decide +kernel⟩
theorem ffX0_24 : FF "PotBook$Account" 24 0 0 (.object "PotBook$Pages") := ⟨RX0, TX0, 7, cf_0, by decide, (BW_at 504 (by decide +kernel) rfl), rfl, rfl, by decide +kernel⟩
theorem ffX0_28 : FF "PotBook$Account" 28 0 1 (.object "PotBook$Pantry") := ⟨RX0, TX0, 7, cf_0, by decide, (BW_at 505 (by decide +kernel) rfl), rfl, rfl, by decide +kernel⟩
theorem ffX0_32 : FF "PotBook$Account" 32 0 2 (.object "PotBook$Pot") := ⟨RX0, TX0, 7, cf_0, by decide, (BW_at 506 (by decide +kernel) rfl), rfl, rfl, by decide +kernel⟩
theorem oiX5_3 : Cond.methodLink "PotBook$Menus" 3 Lib.objectInit ∈ BW ∧ Cond.instanceMethod Lib.objectInit ∈ BW ∧ Cond.code Lib.objectInit ⟨#[0xb1]⟩ 1 none ∈ BW := ⟨(BW_at 534 (by decide +kernel) rfl), (BW_at 133 (by decide +kernel) rfl), (BW_at 134 (by decide +kernel) rfl)⟩
theorem ffX5_9 : FF "PotBook$Menus" 9 5 3 (.array .int) := ⟨RX5, TX5, 15, cf_5, by decide, (BW_at 539 (by decide +kernel) rfl), rfl, rfl, by decide +kernel⟩
theorem ffX5_15 : FF "PotBook$Menus" 15 5 4 (.array .int) := ⟨RX5, TX5, 15, cf_5, by decide, (BW_at 540 (by decide +kernel) rfl), rfl, rfl, by decide +kernel⟩
theorem clX5_18 : Cond.classLink "PotBook$Menus" 18 ("[" ++ (FieldType.array .int).toString) ∈ BW := (BW_at 535 (by decide +kernel) rfl)
theorem ffX5_20 : FF "PotBook$Menus" 20 5 5 (.array (.array .int)) := ⟨RX5, TX5, 15, cf_5, by decide, (BW_at 541 (by decide +kernel) rfl), rfl, rfl, by decide +kernel⟩
theorem ffX5_23 : FF "PotBook$Menus" 23 5 6 (.array .int) := ⟨RX5, TX5, 15, cf_5, by decide, (BW_at 542 (by decide +kernel) rfl), rfl, rfl, by decide +kernel⟩
theorem ffX5_26 : FF "PotBook$Menus" 26 5 7 (.array .int) := ⟨RX5, TX5, 15, cf_5, by decide, (BW_at 543 (by decide +kernel) rfl), rfl, rfl, by decide +kernel⟩
theorem ffX5_29 : FF "PotBook$Menus" 29 5 8 (.array .int) := ⟨RX5, TX5, 15, cf_5, by decide, (BW_at 544 (by decide +kernel) rfl), rfl, rfl, by decide +kernel⟩
theorem ffX5_32 : FF "PotBook$Menus" 32 5 9 (.array .int) := ⟨RX5, TX5, 15, cf_5, by decide, (BW_at 545 (by decide +kernel) rfl), rfl, rfl, by decide +kernel⟩
theorem ffX5_35 : FF "PotBook$Menus" 35 5 0 (.object "PotBook$Pages") := ⟨RX5, TX5, 15, cf_5, by decide, (BW_at 536 (by decide +kernel) rfl), rfl, rfl, by decide +kernel⟩
theorem ffX5_39 : FF "PotBook$Menus" 39 5 1 (.object "PotBook$Pot") := ⟨RX5, TX5, 15, cf_5, by decide, (BW_at 537 (by decide +kernel) rfl), rfl, rfl, by decide +kernel⟩
theorem ffX5_43 : FF "PotBook$Menus" 43 5 2 (.object "PotBook$Account") := ⟨RX5, TX5, 15, cf_5, by decide, (BW_at 538 (by decide +kernel) rfl), rfl, rfl, by decide +kernel⟩
theorem oiX11_1 : Cond.methodLink "PotBook" 1 Lib.objectInit ∈ BW ∧ Cond.instanceMethod Lib.objectInit ∈ BW ∧ Cond.code Lib.objectInit ⟨#[0xb1]⟩ 1 none ∈ BW := ⟨(BW_at 132 (by decide +kernel) rfl), (BW_at 133 (by decide +kernel) rfl), (BW_at 134 (by decide +kernel) rfl)⟩
theorem nwX11_7 : Cond.classLink "PotBook" 7 RX9 ∈ BW ∧ Cond.instantiable RX9 4 ∈ BW ∧ Cond.initialized RX9 ∈ BW := ⟨(BW_at 135 (by decide +kernel) rfl), (BW_at 136 (by decide +kernel) rfl), (BW_at 108 (by decide +kernel) rfl)⟩
theorem df_9 : ∀ q, q < 4 → defaultValue (tyX9 q) = vp_V [.null, .int 0, .int 0, .int 0] q := by decide +kernel
theorem lcX11_9 : LkB "PotBook" 9 yX9_init cX9_init 1 none 0 ∧ yX9_init.name = "<init>" ∧ Cond.instanceMethod yX9_init ∈ BW := ⟨⟨Or.inr ⟨"PotBook", NL_at 137 (by decide +kernel) rfl⟩, (BW_at 139 (by decide +kernel) rfl), (BW_at 108 (by decide +kernel) rfl), by decide +kernel, by decide⟩, rfl, (BW_at 138 (by decide +kernel) rfl)⟩
theorem ffX11_10 : FF "PotBook" 10 11 0 (.object "PotBook$Tape") := ⟨RX11, TX11, 11, cf_11, by decide, (BW_at 584 (by decide +kernel) rfl), rfl, rfl, by decide +kernel⟩
theorem nwX11_16 : Cond.classLink "PotBook" 16 RX7 ∈ BW ∧ Cond.instantiable RX7 9 ∈ BW ∧ Cond.initialized RX7 ∈ BW := ⟨(BW_at 157 (by decide +kernel) rfl), (BW_at 158 (by decide +kernel) rfl), (BW_at 109 (by decide +kernel) rfl)⟩
theorem df_7 : ∀ q, q < 9 → defaultValue (tyX7 q) = vp_V [.null, .null, .null, .null, .null, .null, .null, .int 0, .int 0] q := by decide +kernel
theorem lcX11_18 : LkB "PotBook" 18 yX7_init cX7_init 1 none 0 ∧ yX7_init.name = "<init>" ∧ Cond.instanceMethod yX7_init ∈ BW := ⟨⟨Or.inr ⟨"PotBook", NL_at 159 (by decide +kernel) rfl⟩, (BW_at 161 (by decide +kernel) rfl), (BW_at 109 (by decide +kernel) rfl), by decide +kernel, by decide⟩, rfl, (BW_at 160 (by decide +kernel) rfl)⟩
theorem ffX11_19 : FF "PotBook" 19 11 1 (.object "PotBook$Pantry") := ⟨RX11, TX11, 11, cf_11, by decide, (BW_at 585 (by decide +kernel) rfl), rfl, rfl, by decide +kernel⟩
theorem nwX11_23 : Cond.classLink "PotBook" 23 RX6 ∈ BW ∧ Cond.instantiable RX6 13 ∈ BW ∧ Cond.initialized RX6 ∈ BW := ⟨(BW_at 201 (by decide +kernel) rfl), (BW_at 202 (by decide +kernel) rfl), (BW_at 110 (by decide +kernel) rfl)⟩
theorem df_6 : ∀ q, q < 13 → defaultValue (tyX6 q) = vp_V [.null, .null, .null, .null, .null, .null, .null, .null, .null, .null, .null, .null, .int 0] q := by decide +kernel
theorem ggX11_10 : FG "PotBook" 10 11 0 := ⟨RX11, TX11, 11, cf_11, by decide, Or.inl (BW_at 584 (by decide +kernel) rfl)⟩
theorem ggX11_19 : FG "PotBook" 19 11 1 := ⟨RX11, TX11, 11, cf_11, by decide, Or.inl (BW_at 585 (by decide +kernel) rfl)⟩
theorem lcX11_25 : LkB "PotBook" 25 yX6_init cX6_init 3 none 2 ∧ yX6_init.name = "<init>" ∧ Cond.instanceMethod yX6_init ∈ BW := ⟨⟨Or.inl (BW_at 203 (by decide +kernel) rfl), (BW_at 205 (by decide +kernel) rfl), (BW_at 110 (by decide +kernel) rfl), by decide +kernel, by decide⟩, rfl, (BW_at 204 (by decide +kernel) rfl)⟩
theorem ffX11_28 : FF "PotBook" 28 11 2 (.object "PotBook$Pages") := ⟨RX11, TX11, 11, cf_11, by decide, (BW_at 586 (by decide +kernel) rfl), rfl, rfl, by decide +kernel⟩
theorem nwX11_32 : Cond.classLink "PotBook" 32 RX4 ∈ BW ∧ Cond.instantiable RX4 8 ∈ BW ∧ Cond.initialized RX4 ∈ BW := ⟨(BW_at 274 (by decide +kernel) rfl), (BW_at 275 (by decide +kernel) rfl), (BW_at 111 (by decide +kernel) rfl)⟩
theorem df_4 : ∀ q, q < 8 → defaultValue (tyX4 q) = vp_V [.null, .null, .null, .int 0, .int 0, .null, .null, .int 0] q := by decide +kernel
theorem lcX11_34 : LkB "PotBook" 34 yX4_init cX4_init 2 none 0 ∧ yX4_init.name = "<init>" ∧ Cond.instanceMethod yX4_init ∈ BW := ⟨⟨Or.inl (BW_at 276 (by decide +kernel) rfl), (BW_at 278 (by decide +kernel) rfl), (BW_at 111 (by decide +kernel) rfl), by decide +kernel, by decide⟩, rfl, (BW_at 277 (by decide +kernel) rfl)⟩
theorem ffX11_35 : FF "PotBook" 35 11 3 (.object "PotBook$Laws") := ⟨RX11, TX11, 11, cf_11, by decide, (BW_at 587 (by decide +kernel) rfl), rfl, rfl, by decide +kernel⟩
theorem nwX11_39 : Cond.classLink "PotBook" 39 RX3 ∈ BW ∧ Cond.instantiable RX3 2 ∈ BW ∧ Cond.initialized RX3 ∈ BW := ⟨(BW_at 311 (by decide +kernel) rfl), (BW_at 312 (by decide +kernel) rfl), (BW_at 112 (by decide +kernel) rfl)⟩
theorem df_3 : ∀ q, q < 2 → defaultValue (tyX3 q) = vp_V [.null, .null] q := by decide +kernel
theorem ggX11_35 : FG "PotBook" 35 11 3 := ⟨RX11, TX11, 11, cf_11, by decide, Or.inl (BW_at 587 (by decide +kernel) rfl)⟩
theorem lcX11_41 : LkB "PotBook" 41 yX3_init cX3_init 3 none 2 ∧ yX3_init.name = "<init>" ∧ Cond.instanceMethod yX3_init ∈ BW := ⟨⟨Or.inl (BW_at 313 (by decide +kernel) rfl), (BW_at 315 (by decide +kernel) rfl), (BW_at 112 (by decide +kernel) rfl), by decide +kernel, by decide⟩, rfl, (BW_at 314 (by decide +kernel) rfl)⟩
theorem ffX11_44 : FF "PotBook" 44 11 4 (.object "PotBook$LawReader") := ⟨RX11, TX11, 11, cf_11, by decide, (BW_at 588 (by decide +kernel) rfl), rfl, rfl, by decide +kernel⟩
theorem nwX11_48 : Cond.classLink "PotBook" 48 RX8 ∈ BW ∧ Cond.instantiable RX8 19 ∈ BW ∧ Cond.initialized RX8 ∈ BW := ⟨(BW_at 324 (by decide +kernel) rfl), (BW_at 325 (by decide +kernel) rfl), (BW_at 113 (by decide +kernel) rfl)⟩
theorem df_8 : ∀ q, q < 19 → defaultValue (tyX8 q) = vp_V [.null, .null, .null, .int 0, .int 0, .null, .null, .null, .int 0, .null, .null, .null, .int 0, .null, .null, .null, .null, .null, .null] q := by decide +kernel
theorem ggX11_28 : FG "PotBook" 28 11 2 := ⟨RX11, TX11, 11, cf_11, by decide, Or.inl (BW_at 586 (by decide +kernel) rfl)⟩
theorem lcX11_50 : LkB "PotBook" 50 yX8_init cX8_init 5 none 3 ∧ yX8_init.name = "<init>" ∧ Cond.instanceMethod yX8_init ∈ BW := ⟨⟨Or.inl (BW_at 326 (by decide +kernel) rfl), (BW_at 328 (by decide +kernel) rfl), (BW_at 113 (by decide +kernel) rfl), by decide +kernel, by decide⟩, rfl, (BW_at 327 (by decide +kernel) rfl)⟩
theorem ffX11_53 : FF "PotBook" 53 11 5 (.object "PotBook$Pot") := ⟨RX11, TX11, 11, cf_11, by decide, (BW_at 589 (by decide +kernel) rfl), rfl, rfl, by decide +kernel⟩
theorem nwX11_57 : Cond.classLink "PotBook" 57 RX10 ∈ BW ∧ Cond.instantiable RX10 8 ∈ BW ∧ Cond.initialized RX10 ∈ BW := ⟨(BW_at 397 (by decide +kernel) rfl), (BW_at 398 (by decide +kernel) rfl), (BW_at 114 (by decide +kernel) rfl)⟩
theorem df_10 : ∀ q, q < 8 → defaultValue (tyX10 q) = vp_V [.null, .null, .null, .null, .null, .null, .null, .null] q := by decide +kernel
theorem ggX11_53 : FG "PotBook" 53 11 5 := ⟨RX11, TX11, 11, cf_11, by decide, Or.inl (BW_at 589 (by decide +kernel) rfl)⟩
theorem lcX11_59 : LkB "PotBook" 59 yX10_init cX10_init 5 none 4 ∧ yX10_init.name = "<init>" ∧ Cond.instanceMethod yX10_init ∈ BW := ⟨⟨Or.inl (BW_at 399 (by decide +kernel) rfl), (BW_at 401 (by decide +kernel) rfl), (BW_at 114 (by decide +kernel) rfl), by decide +kernel, by decide⟩, rfl, (BW_at 400 (by decide +kernel) rfl)⟩
theorem ffX11_62 : FF "PotBook" 62 11 6 (.object "PotBook$Taster") := ⟨RX11, TX11, 11, cf_11, by decide, (BW_at 590 (by decide +kernel) rfl), rfl, rfl, by decide +kernel⟩
theorem nwX11_66 : Cond.classLink "PotBook" 66 RX2 ∈ BW ∧ Cond.instantiable RX2 7 ∈ BW ∧ Cond.initialized RX2 ∈ BW := ⟨(BW_at 428 (by decide +kernel) rfl), (BW_at 429 (by decide +kernel) rfl), (BW_at 115 (by decide +kernel) rfl)⟩
theorem df_2 : ∀ q, q < 7 → defaultValue (tyX2 q) = vp_V [.null, .null, .null, .null, .null, .null, .null] q := by decide +kernel
theorem lcX11_68 : LkB "PotBook" 68 yX2_init cX2_init 2 none 1 ∧ yX2_init.name = "<init>" ∧ Cond.instanceMethod yX2_init ∈ BW := ⟨⟨Or.inl (BW_at 430 (by decide +kernel) rfl), (BW_at 432 (by decide +kernel) rfl), (BW_at 115 (by decide +kernel) rfl), by decide +kernel, by decide⟩, rfl, (BW_at 431 (by decide +kernel) rfl)⟩
theorem ffX11_71 : FF "PotBook" 71 11 7 (.object "PotBook$Kin") := ⟨RX11, TX11, 11, cf_11, by decide, (BW_at 591 (by decide +kernel) rfl), rfl, rfl, by decide +kernel⟩
theorem nwX11_75 : Cond.classLink "PotBook" 75 RX1 ∈ BW ∧ Cond.instantiable RX1 7 ∈ BW ∧ Cond.initialized RX1 ∈ BW := ⟨(BW_at 460 (by decide +kernel) rfl), (BW_at 461 (by decide +kernel) rfl), (BW_at 116 (by decide +kernel) rfl)⟩
theorem df_1 : ∀ q, q < 7 → defaultValue (tyX1 q) = vp_V [.null, .null, .null, .null, .null, .null, .int 0] q := by decide +kernel
theorem lcX11_77 : LkB "PotBook" 77 yX1_init cX1_init 3 none 0 ∧ yX1_init.name = "<init>" ∧ Cond.instanceMethod yX1_init ∈ BW := ⟨⟨Or.inl (BW_at 462 (by decide +kernel) rfl), (BW_at 464 (by decide +kernel) rfl), (BW_at 116 (by decide +kernel) rfl), by decide +kernel, by decide⟩, rfl, (BW_at 463 (by decide +kernel) rfl)⟩
theorem ffX11_78 : FF "PotBook" 78 11 8 (.object "PotBook$Copies") := ⟨RX11, TX11, 11, cf_11, by decide, (BW_at 592 (by decide +kernel) rfl), rfl, rfl, by decide +kernel⟩
theorem nwX11_82 : Cond.classLink "PotBook" 82 RX0 ∈ BW ∧ Cond.instantiable RX0 7 ∈ BW ∧ Cond.initialized RX0 ∈ BW := ⟨(BW_at 497 (by decide +kernel) rfl), (BW_at 498 (by decide +kernel) rfl), (BW_at 117 (by decide +kernel) rfl)⟩
theorem df_0 : ∀ q, q < 7 → defaultValue (tyX0 q) = vp_V [.null, .null, .null, .null, .null, .null, .int 0] q := by decide +kernel
theorem lcX11_84 : LkB "PotBook" 84 yX0_init cX0_init 4 none 3 ∧ yX0_init.name = "<init>" ∧ Cond.instanceMethod yX0_init ∈ BW := ⟨⟨Or.inl (BW_at 499 (by decide +kernel) rfl), (BW_at 501 (by decide +kernel) rfl), (BW_at 117 (by decide +kernel) rfl), by decide +kernel, by decide⟩, rfl, (BW_at 500 (by decide +kernel) rfl)⟩
theorem ffX11_87 : FF "PotBook" 87 11 9 (.object "PotBook$Account") := ⟨RX11, TX11, 11, cf_11, by decide, (BW_at 593 (by decide +kernel) rfl), rfl, rfl, by decide +kernel⟩
theorem nwX11_91 : Cond.classLink "PotBook" 91 RX5 ∈ BW ∧ Cond.instantiable RX5 15 ∈ BW ∧ Cond.initialized RX5 ∈ BW := ⟨(BW_at 529 (by decide +kernel) rfl), (BW_at 530 (by decide +kernel) rfl), (BW_at 118 (by decide +kernel) rfl)⟩
theorem df_5 : ∀ q, q < 15 → defaultValue (tyX5 q) = vp_V [.null, .null, .null, .null, .null, .null, .null, .null, .null, .null, .int 0, .int 0, .int 0, .int 0, .int 0] q := by decide +kernel
theorem ggX11_87 : FG "PotBook" 87 11 9 := ⟨RX11, TX11, 11, cf_11, by decide, Or.inl (BW_at 593 (by decide +kernel) rfl)⟩
theorem lcX11_93 : LkB "PotBook" 93 yX5_init cX5_init 4 none 3 ∧ yX5_init.name = "<init>" ∧ Cond.instanceMethod yX5_init ∈ BW := ⟨⟨Or.inl (BW_at 531 (by decide +kernel) rfl), (BW_at 533 (by decide +kernel) rfl), (BW_at 118 (by decide +kernel) rfl), by decide +kernel, by decide⟩, rfl, (BW_at 532 (by decide +kernel) rfl)⟩
theorem ffX11_96 : FF "PotBook" 96 11 10 (.object "PotBook$Menus") := ⟨RX11, TX11, 11, cf_11, by decide, (BW_at 594 (by decide +kernel) rfl), rfl, rfl, by decide +kernel⟩
theorem oiX12_1 : Cond.methodLink "PotBookModel" 1 Lib.objectInit ∈ BW ∧ Cond.instanceMethod Lib.objectInit ∈ BW ∧ Cond.code Lib.objectInit ⟨#[0xb1]⟩ 1 none ∈ BW := ⟨(BW_at 1475 (by decide +kernel) rfl), (BW_at 133 (by decide +kernel) rfl), (BW_at 134 (by decide +kernel) rfl)⟩
theorem ffX12_7 : FF "PotBookModel" 7 12 1 (.array .int) := ⟨RX12, TX12, 82, cf_12, by decide, (BW_at 1477 (by decide +kernel) rfl), rfl, rfl, by decide +kernel⟩
theorem ffX12_13 : FF "PotBookModel" 13 12 6 (.array .int) := ⟨RX12, TX12, 82, cf_12, by decide, (BW_at 1482 (by decide +kernel) rfl), rfl, rfl, by decide +kernel⟩
theorem ffX12_16 : FF "PotBookModel" 16 12 7 (.array .int) := ⟨RX12, TX12, 82, cf_12, by decide, (BW_at 1483 (by decide +kernel) rfl), rfl, rfl, by decide +kernel⟩
theorem ffX12_19 : FF "PotBookModel" 19 12 8 (.array .int) := ⟨RX12, TX12, 82, cf_12, by decide, (BW_at 1484 (by decide +kernel) rfl), rfl, rfl, by decide +kernel⟩
theorem ffX12_22 : FF "PotBookModel" 22 12 9 (.array .boolean) := ⟨RX12, TX12, 82, cf_12, by decide, (BW_at 1485 (by decide +kernel) rfl), rfl, rfl, by decide +kernel⟩
theorem ffX12_26 : FF "PotBookModel" 26 12 10 (.array .int) := ⟨RX12, TX12, 82, cf_12, by decide, (BW_at 1486 (by decide +kernel) rfl), rfl, rfl, by decide +kernel⟩
theorem ffX12_29 : FF "PotBookModel" 29 12 11 (.array .int) := ⟨RX12, TX12, 82, cf_12, by decide, (BW_at 1487 (by decide +kernel) rfl), rfl, rfl, by decide +kernel⟩
theorem ffX12_32 : FF "PotBookModel" 32 12 12 (.array .int) := ⟨RX12, TX12, 82, cf_12, by decide, (BW_at 1488 (by decide +kernel) rfl), rfl, rfl, by decide +kernel⟩
theorem ffX12_35 : FF "PotBookModel" 35 12 13 (.array .int) := ⟨RX12, TX12, 82, cf_12, by decide, (BW_at 1489 (by decide +kernel) rfl), rfl, rfl, by decide +kernel⟩
theorem ffX12_38 : FF "PotBookModel" 38 12 15 (.array .int) := ⟨RX12, TX12, 82, cf_12, by decide, (BW_at 1491 (by decide +kernel) rfl), rfl, rfl, by decide +kernel⟩
theorem ffX12_41 : FF "PotBookModel" 41 12 16 (.array .int) := ⟨RX12, TX12, 82, cf_12, by decide, (BW_at 1492 (by decide +kernel) rfl), rfl, rfl, by decide +kernel⟩
theorem ffX12_44 : FF "PotBookModel" 44 12 17 (.array .int) := ⟨RX12, TX12, 82, cf_12, by decide, (BW_at 1493 (by decide +kernel) rfl), rfl, rfl, by decide +kernel⟩
theorem ffX12_47 : FF "PotBookModel" 47 12 18 (.array .int) := ⟨RX12, TX12, 82, cf_12, by decide, (BW_at 1494 (by decide +kernel) rfl), rfl, rfl, by decide +kernel⟩
theorem ffX12_50 : FF "PotBookModel" 50 12 19 (.array .int) := ⟨RX12, TX12, 82, cf_12, by decide, (BW_at 1495 (by decide +kernel) rfl), rfl, rfl, by decide +kernel⟩
theorem ffX12_53 : FF "PotBookModel" 53 12 20 (.array .int) := ⟨RX12, TX12, 82, cf_12, by decide, (BW_at 1496 (by decide +kernel) rfl), rfl, rfl, by decide +kernel⟩
theorem ffX12_56 : FF "PotBookModel" 56 12 21 (.array .int) := ⟨RX12, TX12, 82, cf_12, by decide, (BW_at 1497 (by decide +kernel) rfl), rfl, rfl, by decide +kernel⟩
theorem ffX12_59 : FF "PotBookModel" 59 12 23 (.array .int) := ⟨RX12, TX12, 82, cf_12, by decide, (BW_at 1499 (by decide +kernel) rfl), rfl, rfl, by decide +kernel⟩
theorem ffX12_62 : FF "PotBookModel" 62 12 24 (.array .int) := ⟨RX12, TX12, 82, cf_12, by decide, (BW_at 1500 (by decide +kernel) rfl), rfl, rfl, by decide +kernel⟩
theorem ffX12_65 : FF "PotBookModel" 65 12 25 (.array .int) := ⟨RX12, TX12, 82, cf_12, by decide, (BW_at 1501 (by decide +kernel) rfl), rfl, rfl, by decide +kernel⟩
theorem ffX12_68 : FF "PotBookModel" 68 12 26 (.array .int) := ⟨RX12, TX12, 82, cf_12, by decide, (BW_at 1502 (by decide +kernel) rfl), rfl, rfl, by decide +kernel⟩
theorem ffX12_71 : FF "PotBookModel" 71 12 27 (.array .int) := ⟨RX12, TX12, 82, cf_12, by decide, (BW_at 1503 (by decide +kernel) rfl), rfl, rfl, by decide +kernel⟩
theorem ffX12_74 : FF "PotBookModel" 74 12 28 (.array .int) := ⟨RX12, TX12, 82, cf_12, by decide, (BW_at 1504 (by decide +kernel) rfl), rfl, rfl, by decide +kernel⟩
theorem ffX12_77 : FF "PotBookModel" 77 12 29 (.array .int) := ⟨RX12, TX12, 82, cf_12, by decide, (BW_at 1505 (by decide +kernel) rfl), rfl, rfl, by decide +kernel⟩
theorem ffX12_80 : FF "PotBookModel" 80 12 32 (.array .int) := ⟨RX12, TX12, 82, cf_12, by decide, (BW_at 1508 (by decide +kernel) rfl), rfl, rfl, by decide +kernel⟩
theorem ffX12_83 : FF "PotBookModel" 83 12 33 (.array .int) := ⟨RX12, TX12, 82, cf_12, by decide, (BW_at 1509 (by decide +kernel) rfl), rfl, rfl, by decide +kernel⟩
theorem ffX12_86 : FF "PotBookModel" 86 12 34 (.array .int) := ⟨RX12, TX12, 82, cf_12, by decide, (BW_at 1510 (by decide +kernel) rfl), rfl, rfl, by decide +kernel⟩
theorem ffX12_89 : FF "PotBookModel" 89 12 35 (.array .int) := ⟨RX12, TX12, 82, cf_12, by decide, (BW_at 1511 (by decide +kernel) rfl), rfl, rfl, by decide +kernel⟩
theorem ffX12_92 : FF "PotBookModel" 92 12 36 (.array .int) := ⟨RX12, TX12, 82, cf_12, by decide, (BW_at 1512 (by decide +kernel) rfl), rfl, rfl, by decide +kernel⟩
theorem ffX12_95 : FF "PotBookModel" 95 12 37 (.array .int) := ⟨RX12, TX12, 82, cf_12, by decide, (BW_at 1513 (by decide +kernel) rfl), rfl, rfl, by decide +kernel⟩
theorem gnX12_98 : FN "PotBookModel" 98 12 39 := ⟨RX12, TX12, 82, cf_12, by decide, (BW_at 1515 (by decide +kernel) rfl)⟩
theorem fq_12_39 : FP 12 39 1339 := ⟨RX12, TX12, 82, cf_12, rfl, ⟨.int, by decide +kernel, rfl⟩, rfl⟩
theorem ffX12_102 : FF "PotBookModel" 102 12 40 (.array .int) := ⟨RX12, TX12, 82, cf_12, by decide, (BW_at 1516 (by decide +kernel) rfl), rfl, rfl, by decide +kernel⟩
theorem ffX12_105 : FF "PotBookModel" 105 12 41 (.array .int) := ⟨RX12, TX12, 82, cf_12, by decide, (BW_at 1517 (by decide +kernel) rfl), rfl, rfl, by decide +kernel⟩
theorem ffX12_108 : FF "PotBookModel" 108 12 44 (.array .int) := ⟨RX12, TX12, 82, cf_12, by decide, (BW_at 1520 (by decide +kernel) rfl), rfl, rfl, by decide +kernel⟩
theorem ffX12_111 : FF "PotBookModel" 111 12 45 (.array .int) := ⟨RX12, TX12, 82, cf_12, by decide, (BW_at 1521 (by decide +kernel) rfl), rfl, rfl, by decide +kernel⟩
theorem ffX12_114 : FF "PotBookModel" 114 12 46 (.array .int) := ⟨RX12, TX12, 82, cf_12, by decide, (BW_at 1522 (by decide +kernel) rfl), rfl, rfl, by decide +kernel⟩
theorem ffX12_117 : FF "PotBookModel" 117 12 47 (.array .boolean) := ⟨RX12, TX12, 82, cf_12, by decide, (BW_at 1523 (by decide +kernel) rfl), rfl, rfl, by decide +kernel⟩
theorem ffX12_120 : FF "PotBookModel" 120 12 49 (.array .int) := ⟨RX12, TX12, 82, cf_12, by decide, (BW_at 1525 (by decide +kernel) rfl), rfl, rfl, by decide +kernel⟩
theorem ffX12_123 : FF "PotBookModel" 123 12 50 (.array .int) := ⟨RX12, TX12, 82, cf_12, by decide, (BW_at 1526 (by decide +kernel) rfl), rfl, rfl, by decide +kernel⟩
theorem ffX12_126 : FF "PotBookModel" 126 12 51 (.array .int) := ⟨RX12, TX12, 82, cf_12, by decide, (BW_at 1527 (by decide +kernel) rfl), rfl, rfl, by decide +kernel⟩
theorem ffX12_129 : FF "PotBookModel" 129 12 52 (.array .int) := ⟨RX12, TX12, 82, cf_12, by decide, (BW_at 1528 (by decide +kernel) rfl), rfl, rfl, by decide +kernel⟩
theorem ffX12_132 : FF "PotBookModel" 132 12 53 (.array .long) := ⟨RX12, TX12, 82, cf_12, by decide, (BW_at 1529 (by decide +kernel) rfl), rfl, rfl, by decide +kernel⟩
theorem ffX12_136 : FF "PotBookModel" 136 12 55 (.array .int) := ⟨RX12, TX12, 82, cf_12, by decide, (BW_at 1531 (by decide +kernel) rfl), rfl, rfl, by decide +kernel⟩
theorem ffX12_139 : FF "PotBookModel" 139 12 56 (.array .boolean) := ⟨RX12, TX12, 82, cf_12, by decide, (BW_at 1532 (by decide +kernel) rfl), rfl, rfl, by decide +kernel⟩
theorem ffX12_142 : FF "PotBookModel" 142 12 57 (.array .int) := ⟨RX12, TX12, 82, cf_12, by decide, (BW_at 1533 (by decide +kernel) rfl), rfl, rfl, by decide +kernel⟩
theorem ffX12_145 : FF "PotBookModel" 145 12 59 (.array .int) := ⟨RX12, TX12, 82, cf_12, by decide, (BW_at 1535 (by decide +kernel) rfl), rfl, rfl, by decide +kernel⟩
theorem ffX12_148 : FF "PotBookModel" 148 12 60 (.array .boolean) := ⟨RX12, TX12, 82, cf_12, by decide, (BW_at 1536 (by decide +kernel) rfl), rfl, rfl, by decide +kernel⟩
theorem ffX12_151 : FF "PotBookModel" 151 12 61 (.array .int) := ⟨RX12, TX12, 82, cf_12, by decide, (BW_at 1537 (by decide +kernel) rfl), rfl, rfl, by decide +kernel⟩
theorem ffX12_154 : FF "PotBookModel" 154 12 62 (.array .int) := ⟨RX12, TX12, 82, cf_12, by decide, (BW_at 1538 (by decide +kernel) rfl), rfl, rfl, by decide +kernel⟩
theorem ffX12_157 : FF "PotBookModel" 157 12 63 (.array .int) := ⟨RX12, TX12, 82, cf_12, by decide, (BW_at 1539 (by decide +kernel) rfl), rfl, rfl, by decide +kernel⟩
theorem ffX12_160 : FF "PotBookModel" 160 12 77 (.array .int) := ⟨RX12, TX12, 82, cf_12, by decide, (BW_at 1553 (by decide +kernel) rfl), rfl, rfl, by decide +kernel⟩
theorem ffX12_163 : FF "PotBookModel" 163 12 78 (.array .int) := ⟨RX12, TX12, 82, cf_12, by decide, (BW_at 1554 (by decide +kernel) rfl), rfl, rfl, by decide +kernel⟩
theorem ffX12_166 : FF "PotBookModel" 166 12 79 (.array .int) := ⟨RX12, TX12, 82, cf_12, by decide, (BW_at 1555 (by decide +kernel) rfl), rfl, rfl, by decide +kernel⟩
theorem ffX12_169 : FF "PotBookModel" 169 12 80 (.array .int) := ⟨RX12, TX12, 82, cf_12, by decide, (BW_at 1556 (by decide +kernel) rfl), rfl, rfl, by decide +kernel⟩
theorem ffX12_172 : FF "PotBookModel" 172 12 81 (.array .int) := ⟨RX12, TX12, 82, cf_12, by decide, (BW_at 1557 (by decide +kernel) rfl), rfl, rfl, by decide +kernel⟩
theorem ggX12_120 : FG "PotBookModel" 120 12 49 := ⟨RX12, TX12, 82, cf_12, by decide, Or.inl (BW_at 1525 (by decide +kernel) rfl)⟩
