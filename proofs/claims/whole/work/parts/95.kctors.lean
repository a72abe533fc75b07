/-! the constructors, walked (gen95.py) -/
abbrev ky_Rows : MethodName := ⟨"BoxHedge$Rows", "<init>", "(I)V"⟩
theorem kcd_Rows : Cond.code ky_Rows prog_8_method_1_code 2 none ∈ zgood := zgood_in1 (List.mem_of_getElem? (i := 37) rfl) rfl
theorem kd_Rows_0 : decode prog_8_method_1_code 0 = .ok (.aload_n 0, 1) := by decide +kernel
theorem kd_Rows_1 : decode prog_8_method_1_code 1 = .ok (.invokespecial 3, 3) := by decide +kernel
theorem kd_Rows_4 : decode prog_8_method_1_code 4 = .ok (.aload_n 0, 1) := by decide +kernel
theorem kd_Rows_5 : decode prog_8_method_1_code 5 = .ok (.iconst 0, 1) := by decide +kernel
theorem kd_Rows_6 : decode prog_8_method_1_code 6 = .ok (.iload_n 1, 1) := by decide +kernel
theorem kd_Rows_7 : decode prog_8_method_1_code 7 = .ok (.invokestatic 9, 3) := by decide +kernel
theorem kd_Rows_10 : decode prog_8_method_1_code 10 = .ok (.putfield 15, 3) := by decide +kernel
theorem kd_Rows_13 : decode prog_8_method_1_code 13 = .ok (.aload_n 0, 1) := by decide +kernel
theorem kd_Rows_14 : decode prog_8_method_1_code 14 = .ok (.aload_n 0, 1) := by decide +kernel
theorem kd_Rows_15 : decode prog_8_method_1_code 15 = .ok (.getfield 15, 3) := by decide +kernel
theorem kd_Rows_18 : decode prog_8_method_1_code 18 = .ok (.iconst 3, 1) := by decide +kernel
theorem kd_Rows_19 : decode prog_8_method_1_code 19 = .ok (.imul, 1) := by decide +kernel
theorem kd_Rows_20 : decode prog_8_method_1_code 20 = .ok (.newarray .int, 2) := by decide +kernel
theorem kd_Rows_22 : decode prog_8_method_1_code 22 = .ok (.putfield 21, 3) := by decide +kernel
theorem kd_Rows_25 : decode prog_8_method_1_code 25 = .ok (.return_, 1) := by decide +kernel
theorem kini_Rows : Cond.initialized ky_Rows.cls ∈ zgood := zhas_in (i := 74) (by decide +kernel)
theorem kim_Rows : Cond.instanceMethod ky_Rows ∈ zgood := zhas_in (i := 107) (by decide +kernel)
abbrev kz_Rows : List Value := [.int 0, .int 0, .null]
theorem kw109 : Cond.methodLink "BoxHedge$Rows" 3 Lib.objectInit ∈ zgood := zhas_in (i := 109) (by decide +kernel)
theorem kw96 : Cond.instanceMethod Lib.objectInit ∈ zgood := zhas_in (i := 96) (by decide +kernel)
theorem kw97 : Cond.code Lib.objectInit ⟨#[0xb1]⟩ 1 none ∈ zgood := zhas_in (i := 97) (by decide +kernel)
theorem kw110 : Cond.methodLink "BoxHedge$Rows" 9 Lib.Math.max.name ∈ zgood := zhas_in (i := 110) (by decide +kernel)
theorem kw111 : Cond.static Lib.Math.max.name ∈ zgood := zhas_in (i := 111) (by decide +kernel)
theorem kw75 : Cond.initialized "java/lang/Math" ∈ zgood := zhas_in (i := 75) (by decide +kernel)
theorem kw112 : Cond.code Lib.Math.max.name Lib.Math.max.code 2 (some .int) ∈ zgood := zhas_in (i := 112) (by decide +kernel)
theorem kw116 : Cond.fieldLink "BoxHedge$Rows" 15 "BoxHedge$Rows" "limit" "I" ∈ zgood := zhas_in (i := 116) (by decide +kernel)
theorem kw125 : Cond.arrayClass .int ∈ zgood := zhas_in (i := 125) (by decide +kernel)
theorem kw117 : Cond.fieldLink "BoxHedge$Rows" 21 "BoxHedge$Rows" "cells" "[I" ∈ zgood := zhas_in (i := 117) (by decide +kernel)
abbrev ky_Garden : MethodName := ⟨"BoxHedge$Garden", "<init>", "()V"⟩
theorem kcd_Garden : Cond.code ky_Garden prog_3_method_1_code 1 none ∈ zgood := zgood_in1 (List.mem_of_getElem? (i := 132) rfl) rfl
theorem kd_Garden_0 : decode prog_3_method_1_code 0 = .ok (.aload_n 0, 1) := by decide +kernel
theorem kd_Garden_1 : decode prog_3_method_1_code 1 = .ok (.invokespecial 3, 3) := by decide +kernel
theorem kd_Garden_4 : decode prog_3_method_1_code 4 = .ok (.aload_n 0, 1) := by decide +kernel
theorem kd_Garden_5 : decode prog_3_method_1_code 5 = .ok (.bipush 10, 2) := by decide +kernel
theorem kd_Garden_7 : decode prog_3_method_1_code 7 = .ok (.newarray .int, 2) := by decide +kernel
theorem kd_Garden_9 : decode prog_3_method_1_code 9 = .ok (.putfield 9, 3) := by decide +kernel
theorem kd_Garden_12 : decode prog_3_method_1_code 12 = .ok (.aload_n 0, 1) := by decide +kernel
theorem kd_Garden_13 : decode prog_3_method_1_code 13 = .ok (.bipush 10, 2) := by decide +kernel
theorem kd_Garden_15 : decode prog_3_method_1_code 15 = .ok (.newarray .int, 2) := by decide +kernel
theorem kd_Garden_17 : decode prog_3_method_1_code 17 = .ok (.putfield 15, 3) := by decide +kernel
theorem kd_Garden_20 : decode prog_3_method_1_code 20 = .ok (.aload_n 0, 1) := by decide +kernel
theorem kd_Garden_21 : decode prog_3_method_1_code 21 = .ok (.bipush 10, 2) := by decide +kernel
theorem kd_Garden_23 : decode prog_3_method_1_code 23 = .ok (.newarray .int, 2) := by decide +kernel
theorem kd_Garden_25 : decode prog_3_method_1_code 25 = .ok (.putfield 18, 3) := by decide +kernel
theorem kd_Garden_28 : decode prog_3_method_1_code 28 = .ok (.aload_n 0, 1) := by decide +kernel
theorem kd_Garden_29 : decode prog_3_method_1_code 29 = .ok (.bipush 100, 2) := by decide +kernel
theorem kd_Garden_31 : decode prog_3_method_1_code 31 = .ok (.newarray .int, 2) := by decide +kernel
theorem kd_Garden_33 : decode prog_3_method_1_code 33 = .ok (.putfield 21, 3) := by decide +kernel
theorem kd_Garden_36 : decode prog_3_method_1_code 36 = .ok (.return_, 1) := by decide +kernel
theorem kini_Garden : Cond.initialized ky_Garden.cls ∈ zgood := zhas_in (i := 77) (by decide +kernel)
theorem kim_Garden : Cond.instanceMethod ky_Garden ∈ zgood := zhas_in (i := 202) (by decide +kernel)
abbrev kz_Garden : List Value := [.int 0, .int 0, .int 0, .null, .null, .null, .int 0, .null]
theorem kw204 : Cond.methodLink "BoxHedge$Garden" 3 Lib.objectInit ∈ zgood := zhas_in (i := 204) (by decide +kernel)
theorem kw210 : Cond.fieldLink "BoxHedge$Garden" 9 "BoxHedge$Garden" "words" "[I" ∈ zgood := zhas_in (i := 210) (by decide +kernel)
theorem kw211 : Cond.fieldLink "BoxHedge$Garden" 15 "BoxHedge$Garden" "numbers" "[I" ∈ zgood := zhas_in (i := 211) (by decide +kernel)
theorem kw212 : Cond.fieldLink "BoxHedge$Garden" 18 "BoxHedge$Garden" "ends" "[I" ∈ zgood := zhas_in (i := 212) (by decide +kernel)
theorem kw214 : Cond.fieldLink "BoxHedge$Garden" 21 "BoxHedge$Garden" "code" "[I" ∈ zgood := zhas_in (i := 214) (by decide +kernel)
abbrev ky_Hearing : MethodName := ⟨"BoxHedge$Hearing", "<init>", "()V"⟩
theorem kcd_Hearing : Cond.code ky_Hearing prog_4_method_1_code 1 none ∈ zgood := zgood_in1 (List.mem_of_getElem? (i := 193) rfl) rfl
theorem kd_Hearing_0 : decode prog_4_method_1_code 0 = .ok (.aload_n 0, 1) := by decide +kernel
theorem kd_Hearing_1 : decode prog_4_method_1_code 1 = .ok (.invokespecial 3, 3) := by decide +kernel
theorem kd_Hearing_4 : decode prog_4_method_1_code 4 = .ok (.aload_n 0, 1) := by decide +kernel
theorem kd_Hearing_5 : decode prog_4_method_1_code 5 = .ok (.bipush 8, 2) := by decide +kernel
theorem kd_Hearing_7 : decode prog_4_method_1_code 7 = .ok (.newarray .int, 2) := by decide +kernel
theorem kd_Hearing_9 : decode prog_4_method_1_code 9 = .ok (.putfield 9, 3) := by decide +kernel
theorem kd_Hearing_12 : decode prog_4_method_1_code 12 = .ok (.aload_n 0, 1) := by decide +kernel
theorem kd_Hearing_13 : decode prog_4_method_1_code 13 = .ok (.bipush 8, 2) := by decide +kernel
theorem kd_Hearing_15 : decode prog_4_method_1_code 15 = .ok (.newarray .int, 2) := by decide +kernel
theorem kd_Hearing_17 : decode prog_4_method_1_code 17 = .ok (.putfield 15, 3) := by decide +kernel
theorem kd_Hearing_20 : decode prog_4_method_1_code 20 = .ok (.aload_n 0, 1) := by decide +kernel
theorem kd_Hearing_21 : decode prog_4_method_1_code 21 = .ok (.bipush 8, 2) := by decide +kernel
theorem kd_Hearing_23 : decode prog_4_method_1_code 23 = .ok (.newarray .int, 2) := by decide +kernel
theorem kd_Hearing_25 : decode prog_4_method_1_code 25 = .ok (.putfield 18, 3) := by decide +kernel
theorem kd_Hearing_28 : decode prog_4_method_1_code 28 = .ok (.aload_n 0, 1) := by decide +kernel
theorem kd_Hearing_29 : decode prog_4_method_1_code 29 = .ok (.bipush 8, 2) := by decide +kernel
theorem kd_Hearing_31 : decode prog_4_method_1_code 31 = .ok (.newarray .int, 2) := by decide +kernel
theorem kd_Hearing_33 : decode prog_4_method_1_code 33 = .ok (.putfield 21, 3) := by decide +kernel
theorem kd_Hearing_36 : decode prog_4_method_1_code 36 = .ok (.aload_n 0, 1) := by decide +kernel
theorem kd_Hearing_37 : decode prog_4_method_1_code 37 = .ok (.bipush 8, 2) := by decide +kernel
theorem kd_Hearing_39 : decode prog_4_method_1_code 39 = .ok (.newarray .int, 2) := by decide +kernel
theorem kd_Hearing_41 : decode prog_4_method_1_code 41 = .ok (.putfield 24, 3) := by decide +kernel
theorem kd_Hearing_44 : decode prog_4_method_1_code 44 = .ok (.return_, 1) := by decide +kernel
theorem kini_Hearing : Cond.initialized ky_Hearing.cls ∈ zgood := zhas_in (i := 80) (by decide +kernel)
theorem kim_Hearing : Cond.instanceMethod ky_Hearing ∈ zgood := zhas_in (i := 263) (by decide +kernel)
abbrev kz_Hearing : List Value := [.null, .null, .null, .null, .int 0, .null]
theorem kw265 : Cond.methodLink "BoxHedge$Hearing" 3 Lib.objectInit ∈ zgood := zhas_in (i := 265) (by decide +kernel)
theorem kw266 : Cond.fieldLink "BoxHedge$Hearing" 9 "BoxHedge$Hearing" "takes" "[I" ∈ zgood := zhas_in (i := 266) (by decide +kernel)
theorem kw268 : Cond.fieldLink "BoxHedge$Hearing" 15 "BoxHedge$Hearing" "hours" "[I" ∈ zgood := zhas_in (i := 268) (by decide +kernel)
theorem kw270 : Cond.fieldLink "BoxHedge$Hearing" 18 "BoxHedge$Hearing" "from" "[I" ∈ zgood := zhas_in (i := 270) (by decide +kernel)
theorem kw272 : Cond.fieldLink "BoxHedge$Hearing" 21 "BoxHedge$Hearing" "order" "[I" ∈ zgood := zhas_in (i := 272) (by decide +kernel)
theorem kw276 : Cond.fieldLink "BoxHedge$Hearing" 24 "BoxHedge$Hearing" "words" "[I" ∈ zgood := zhas_in (i := 276) (by decide +kernel)
abbrev ky_Reader : MethodName := ⟨"BoxHedge$Reader", "<init>", "()V"⟩
theorem kcd_Reader : Cond.code ky_Reader prog_7_method_1_code 1 none ∈ zgood := zgood_in1 (List.mem_of_getElem? (i := 165) rfl) rfl
theorem kd_Reader_0 : decode prog_7_method_1_code 0 = .ok (.aload_n 0, 1) := by decide +kernel
theorem kd_Reader_1 : decode prog_7_method_1_code 1 = .ok (.invokespecial 3, 3) := by decide +kernel
theorem kd_Reader_4 : decode prog_7_method_1_code 4 = .ok (.aload_n 0, 1) := by decide +kernel
theorem kd_Reader_5 : decode prog_7_method_1_code 5 = .ok (.bipush 100, 2) := by decide +kernel
theorem kd_Reader_7 : decode prog_7_method_1_code 7 = .ok (.newarray .int, 2) := by decide +kernel
theorem kd_Reader_9 : decode prog_7_method_1_code 9 = .ok (.putfield 9, 3) := by decide +kernel
theorem kd_Reader_12 : decode prog_7_method_1_code 12 = .ok (.return_, 1) := by decide +kernel
theorem kini_Reader : Cond.initialized ky_Reader.cls ∈ zgood := zhas_in (i := 78) (by decide +kernel)
theorem kim_Reader : Cond.instanceMethod ky_Reader ∈ zgood := zhas_in (i := 235) (by decide +kernel)
abbrev kz_Reader : List Value := [.int 0, .null, .int 0, .null]
theorem kw237 : Cond.methodLink "BoxHedge$Reader" 3 Lib.objectInit ∈ zgood := zhas_in (i := 237) (by decide +kernel)
theorem kw240 : Cond.fieldLink "BoxHedge$Reader" 9 "BoxHedge$Reader" "text" "[I" ∈ zgood := zhas_in (i := 240) (by decide +kernel)
abbrev ky_Acts : MethodName := ⟨"BoxHedge$Acts", "<init>", "()V"⟩
theorem kcd_Acts : Cond.code ky_Acts prog_2_method_1_code 1 none ∈ zgood := zgood_in1 (List.mem_of_getElem? (i := 236) rfl) rfl
theorem kd_Acts_0 : decode prog_2_method_1_code 0 = .ok (.aload_n 0, 1) := by decide +kernel
theorem kd_Acts_1 : decode prog_2_method_1_code 1 = .ok (.invokespecial 3, 3) := by decide +kernel
theorem kd_Acts_4 : decode prog_2_method_1_code 4 = .ok (.aload_n 0, 1) := by decide +kernel
theorem kd_Acts_5 : decode prog_2_method_1_code 5 = .ok (.bipush 20, 2) := by decide +kernel
theorem kd_Acts_7 : decode prog_2_method_1_code 7 = .ok (.newarray .int, 2) := by decide +kernel
theorem kd_Acts_9 : decode prog_2_method_1_code 9 = .ok (.putfield 9, 3) := by decide +kernel
theorem kd_Acts_12 : decode prog_2_method_1_code 12 = .ok (.return_, 1) := by decide +kernel
theorem kini_Acts : Cond.initialized ky_Acts.cls ∈ zgood := zhas_in (i := 81) (by decide +kernel)
theorem kim_Acts : Cond.instanceMethod ky_Acts ∈ zgood := zhas_in (i := 306) (by decide +kernel)
abbrev kz_Acts : List Value := [.null, .int 0, .int 0, .int 0, .int 0]
theorem kw308 : Cond.methodLink "BoxHedge$Acts" 3 Lib.objectInit ∈ zgood := zhas_in (i := 308) (by decide +kernel)
theorem kw309 : Cond.fieldLink "BoxHedge$Acts" 9 "BoxHedge$Acts" "kept" "[I" ∈ zgood := zhas_in (i := 309) (by decide +kernel)
abbrev ky_Tape : MethodName := ⟨"BoxHedge$Tape", "<init>", "()V"⟩
theorem kcd_Tape : Cond.code ky_Tape prog_9_method_1_code 1 none ∈ zgood := zgood_in2 (List.mem_of_getElem? (i := 21) rfl) rfl
theorem kd_Tape_0 : decode prog_9_method_1_code 0 = .ok (.aload_n 0, 1) := by decide +kernel
theorem kd_Tape_1 : decode prog_9_method_1_code 1 = .ok (.invokespecial 3, 3) := by decide +kernel
theorem kd_Tape_4 : decode prog_9_method_1_code 4 = .ok (.aload_n 0, 1) := by decide +kernel
theorem kd_Tape_5 : decode prog_9_method_1_code 5 = .ok (.iconst (-1), 1) := by decide +kernel
theorem kd_Tape_6 : decode prog_9_method_1_code 6 = .ok (.putfield 11, 3) := by decide +kernel
theorem kd_Tape_9 : decode prog_9_method_1_code 9 = .ok (.aload_n 0, 1) := by decide +kernel
theorem kd_Tape_10 : decode prog_9_method_1_code 10 = .ok (.bipush 60, 2) := by decide +kernel
theorem kd_Tape_12 : decode prog_9_method_1_code 12 = .ok (.newarray .long, 2) := by decide +kernel
theorem kd_Tape_14 : decode prog_9_method_1_code 14 = .ok (.putfield 15, 3) := by decide +kernel
theorem kd_Tape_17 : decode prog_9_method_1_code 17 = .ok (.return_, 1) := by decide +kernel
theorem kini_Tape : Cond.initialized ky_Tape.cls ∈ zgood := zhas_in (i := 82) (by decide +kernel)
theorem kim_Tape : Cond.instanceMethod ky_Tape ∈ zgood := zhas_in (i := 331) (by decide +kernel)
abbrev kz_Tape : List Value := [.int 0, .int 0, .null]
theorem kw333 : Cond.methodLink "BoxHedge$Tape" 3 Lib.objectInit ∈ zgood := zhas_in (i := 333) (by decide +kernel)
theorem kw334 : Cond.fieldLink "BoxHedge$Tape" 11 "BoxHedge$Tape" "sort" "I" ∈ zgood := zhas_in (i := 334) (by decide +kernel)
theorem kw349 : Cond.arrayClass .long ∈ zgood := zhas_in (i := 349) (by decide +kernel)
theorem kw339 : Cond.fieldLink "BoxHedge$Tape" 15 "BoxHedge$Tape" "items" "[J" ∈ zgood := zhas_in (i := 339) (by decide +kernel)
abbrev ky_Hedge : MethodName := ⟨"BoxHedge$Hedge", "<init>", "()V"⟩
theorem kcd_Hedge : Cond.code ky_Hedge prog_5_method_1_code 1 none ∈ zgood := zgood_in1 (List.mem_of_getElem? (i := 31) rfl) rfl
theorem kd_Hedge_0 : decode prog_5_method_1_code 0 = .ok (.aload_n 0, 1) := by decide +kernel
theorem kd_Hedge_1 : decode prog_5_method_1_code 1 = .ok (.invokespecial 3, 3) := by decide +kernel
theorem kd_Hedge_4 : decode prog_5_method_1_code 4 = .ok (.aload_n 0, 1) := by decide +kernel
theorem kd_Hedge_5 : decode prog_5_method_1_code 5 = .ok (.bipush 8, 2) := by decide +kernel
theorem kd_Hedge_7 : decode prog_5_method_1_code 7 = .ok (.newarray .int, 2) := by decide +kernel
theorem kd_Hedge_9 : decode prog_5_method_1_code 9 = .ok (.putfield 9, 3) := by decide +kernel
theorem kd_Hedge_12 : decode prog_5_method_1_code 12 = .ok (.aload_n 0, 1) := by decide +kernel
theorem kd_Hedge_13 : decode prog_5_method_1_code 13 = .ok (.bipush 8, 2) := by decide +kernel
theorem kd_Hedge_15 : decode prog_5_method_1_code 15 = .ok (.newarray .int, 2) := by decide +kernel
theorem kd_Hedge_17 : decode prog_5_method_1_code 17 = .ok (.putfield 15, 3) := by decide +kernel
theorem kd_Hedge_20 : decode prog_5_method_1_code 20 = .ok (.aload_n 0, 1) := by decide +kernel
theorem kd_Hedge_21 : decode prog_5_method_1_code 21 = .ok (.bipush 8, 2) := by decide +kernel
theorem kd_Hedge_23 : decode prog_5_method_1_code 23 = .ok (.newarray .int, 2) := by decide +kernel
theorem kd_Hedge_25 : decode prog_5_method_1_code 25 = .ok (.putfield 18, 3) := by decide +kernel
theorem kd_Hedge_28 : decode prog_5_method_1_code 28 = .ok (.aload_n 0, 1) := by decide +kernel
theorem kd_Hedge_29 : decode prog_5_method_1_code 29 = .ok (.bipush 32, 2) := by decide +kernel
theorem kd_Hedge_31 : decode prog_5_method_1_code 31 = .ok (.newarray .int, 2) := by decide +kernel
theorem kd_Hedge_33 : decode prog_5_method_1_code 33 = .ok (.putfield 21, 3) := by decide +kernel
theorem kd_Hedge_36 : decode prog_5_method_1_code 36 = .ok (.aload_n 0, 1) := by decide +kernel
theorem kd_Hedge_37 : decode prog_5_method_1_code 37 = .ok (.new 24, 3) := by decide +kernel
theorem kd_Hedge_40 : decode prog_5_method_1_code 40 = .ok (.dup, 1) := by decide +kernel
theorem kd_Hedge_41 : decode prog_5_method_1_code 41 = .ok (.iconst 5, 1) := by decide +kernel
theorem kd_Hedge_42 : decode prog_5_method_1_code 42 = .ok (.invokespecial 26, 3) := by decide +kernel
theorem kd_Hedge_45 : decode prog_5_method_1_code 45 = .ok (.putfield 29, 3) := by decide +kernel
theorem kd_Hedge_48 : decode prog_5_method_1_code 48 = .ok (.aload_n 0, 1) := by decide +kernel
theorem kd_Hedge_49 : decode prog_5_method_1_code 49 = .ok (.new 24, 3) := by decide +kernel
theorem kd_Hedge_52 : decode prog_5_method_1_code 52 = .ok (.dup, 1) := by decide +kernel
theorem kd_Hedge_53 : decode prog_5_method_1_code 53 = .ok (.bipush 8, 2) := by decide +kernel
theorem kd_Hedge_55 : decode prog_5_method_1_code 55 = .ok (.invokespecial 26, 3) := by decide +kernel
theorem kd_Hedge_58 : decode prog_5_method_1_code 58 = .ok (.putfield 33, 3) := by decide +kernel
theorem kd_Hedge_61 : decode prog_5_method_1_code 61 = .ok (.aload_n 0, 1) := by decide +kernel
theorem kd_Hedge_62 : decode prog_5_method_1_code 62 = .ok (.new 24, 3) := by decide +kernel
theorem kd_Hedge_65 : decode prog_5_method_1_code 65 = .ok (.dup, 1) := by decide +kernel
theorem kd_Hedge_66 : decode prog_5_method_1_code 66 = .ok (.bipush 8, 2) := by decide +kernel
theorem kd_Hedge_68 : decode prog_5_method_1_code 68 = .ok (.invokespecial 26, 3) := by decide +kernel
theorem kd_Hedge_71 : decode prog_5_method_1_code 71 = .ok (.putfield 36, 3) := by decide +kernel
theorem kd_Hedge_74 : decode prog_5_method_1_code 74 = .ok (.aload_n 0, 1) := by decide +kernel
theorem kd_Hedge_75 : decode prog_5_method_1_code 75 = .ok (.ldc 41, 2) := by decide +kernel
theorem kd_Hedge_77 : decode prog_5_method_1_code 77 = .ok (.invokevirtual 43, 3) := by decide +kernel
theorem kd_Hedge_80 : decode prog_5_method_1_code 80 = .ok (.newarray .int, 2) := by decide +kernel
theorem kd_Hedge_82 : decode prog_5_method_1_code 82 = .ok (.putfield 49, 3) := by decide +kernel
theorem kd_Hedge_85 : decode prog_5_method_1_code 85 = .ok (.return_, 1) := by decide +kernel
theorem kini_Hedge : Cond.initialized ky_Hedge.cls ∈ zgood := zhas_in (i := 73) (by decide +kernel)
theorem kim_Hedge : Cond.instanceMethod ky_Hedge ∈ zgood := zhas_in (i := 101) (by decide +kernel)
abbrev kz_Hedge : List Value := [.int 0, .null, .null, .null, .null, .int 0, .int 0, .null, .null, .null, .null, .null]
theorem kw103 : Cond.methodLink "BoxHedge$Hedge" 3 Lib.objectInit ∈ zgood := zhas_in (i := 103) (by decide +kernel)
theorem kw141 : Cond.fieldLink "BoxHedge$Hedge" 9 "BoxHedge$Hedge" "kinds" "[I" ∈ zgood := zhas_in (i := 141) (by decide +kernel)
theorem kw144 : Cond.fieldLink "BoxHedge$Hedge" 15 "BoxHedge$Hedge" "values" "[I" ∈ zgood := zhas_in (i := 144) (by decide +kernel)
theorem kw147 : Cond.fieldLink "BoxHedge$Hedge" 18 "BoxHedge$Hedge" "touches" "[I" ∈ zgood := zhas_in (i := 147) (by decide +kernel)
theorem kw151 : Cond.fieldLink "BoxHedge$Hedge" 21 "BoxHedge$Hedge" "rows" "[I" ∈ zgood := zhas_in (i := 151) (by decide +kernel)
theorem kw104 : Cond.classLink "BoxHedge$Hedge" 24 "BoxHedge$Rows" ∈ zgood := zhas_in (i := 104) (by decide +kernel)
theorem kw105 : Cond.instantiable "BoxHedge$Rows" 3 ∈ zgood := zhas_in (i := 105) (by decide +kernel)
theorem kw74 : Cond.initialized "BoxHedge$Rows" ∈ zgood := zhas_in (i := 74) (by decide +kernel)
theorem kw106 : Cond.methodLink "BoxHedge$Hedge" 26 ky_Rows ∈ zgood := zhas_in (i := 106) (by decide +kernel)
theorem kw162 : Cond.fieldLink "BoxHedge$Hedge" 29 "BoxHedge$Hedge" "seen" "LBoxHedge$Rows;" ∈ zgood := zhas_in (i := 162) (by decide +kernel)
theorem kw165 : Cond.fieldLink "BoxHedge$Hedge" 33 "BoxHedge$Hedge" "plan" "LBoxHedge$Rows;" ∈ zgood := zhas_in (i := 165) (by decide +kernel)
theorem kw168 : Cond.fieldLink "BoxHedge$Hedge" 36 "BoxHedge$Hedge" "book" "LBoxHedge$Rows;" ∈ zgood := zhas_in (i := 168) (by decide +kernel)
theorem kw171 : Cond.fieldLink "BoxHedge$Hedge" 49 "BoxHedge$Hedge" "view" "[I" ∈ zgood := zhas_in (i := 171) (by decide +kernel)
def kw_Rows_5 (cA : Nat → ClassId) (a : Nat → Nat) : va_W := (a 0, .inr (6, [.int 0, .int 5, .ref (a 1)])) :: ([(a 1, .inl (cA 0, (15, .inl fun _ => 0)))])
set_option maxHeartbeats 4000000 in
set_option maxRecDepth 100000 in
theorem k_Rows_5 (l : Launch) (base : Nat) (ad : Nat → Nat) (w : Value) (tb : Nat → Nat → Int32) (D : va_G) (cA : Nat → ClassId) : kMet l base ad w tb D cA 6 kz_Rows ky_Rows prog_8_method_1_code 2 [.int 5] 1 40 1 15 (kw_Rows_5 cA) := by
  intro h0 sz
  refine Met.ofW (cc := prog_8_method_1_code) (maxL := 2) (ret := none) (by decide) rfl ?_
  intro p e s m args below meth c s₁ B hml hv
  obtain ⟨rfl, X, S, hr, hlocks, hin⟩ := kstart B hml hv
  have X : kEn p s m ([.ref h0, .int 5] : List Value).toArray c prog_8_method_1_code 2 "BoxHedge$Rows" base ad w tb D cA (va_A [(h0, .inr (6, kz_Rows))] sz) := X
  have hx := X.1.1
  have hb := X.1.2.1
  have hl := lv_entry ([.ref h0, .int 5]) (n := 2) (Nat.le_of_ble_eq_true rfl)
  rw [lg_entry_eq]
  generalize (lg_sl ([.ref h0, .int 5]) ++ List.replicate (2 - (lg_sl ([.ref h0, .int 5])).length) Slot.unset).toArray = ls at hl ⊢
  have hl : lv_has ls 2 [(0, .ref h0), (1, .int 5)] := hl
  change W p l e _ s m _ below meth c s.heap [] 0 0 _ _
  refine lv_aload_n hx hb kd_Rows_0 rfl (lv_at hl 0 rfl) ?_
  refine kn_obj X kw109 kw96 kw97 hl.1 kd_Rows_1 (Nat.le_of_ble_eq_true rfl) (Nat.le_of_ble_eq_true rfl) ?_
  refine lv_aload_n hx hb kd_Rows_4 rfl (lv_at hl 0 rfl) ?_
  refine lv_iconst (v := 0) hx hb kd_Rows_5 (by decide) ?_
  refine lv_iload_n hx hb kd_Rows_6 rfl (lv_at hl 1 rfl) ?_
  refine va_mmax hx hb (X.1.2.2.1.trans hl.1.symm) X.1.2.2.2 (X.2.1 _ kw110) (X.2.1 _ kw111) (X.2.1 _ kw75) (X.2.1 _ kw112) (Nat.le_of_ble_eq_true rfl) (Nat.le_of_ble_eq_true rfl) (Nat.le_of_ble_eq_true rfl) (Nat.le_of_ble_eq_true rfl) kd_Rows_7 ?_
  refine lv_topi (fun z e1 => ?_)
  have e1 : z = 5 := e1.trans (by decide)
  subst e1
  refine kn_putF X hin zlay_6 tyX6 tyX6_ok nmX6 (ci := 6) (v := .int 5) rfl S 1 (by decide) kw116 rfl rfl rfl rfl (Nat.le_of_ble_eq_true rfl) kd_Rows_10 (fun H locs S => ?_)
  refine lv_aload_n hx hb kd_Rows_13 rfl (lv_at hl 0 rfl) ?_
  refine lv_aload_n hx hb kd_Rows_14 rfl (lv_at hl 0 rfl) ?_
  refine kn_get X zlay_6 (ci := 6) (C := RX6) (T := TX6) (N := 3) rfl S 1 (by decide) kw116 (v := .int 5) rfl kd_Rows_15 ?_
  refine lv_iconst (v := 3) hx hb kd_Rows_18 (by decide) ?_
  refine lv_imul hx hb kd_Rows_19 ?_
  refine lv_topi (fun z e1 => ?_)
  have e1 : z = 15 := e1.trans (by decide)
  subst e1
  refine kn_newa X 0 (ty := .int) (a0 := (15, .inl fun _ => 0)) (N := 15) rfl kw125 rfl (fun _ _ h => h) S (fun _ => rfl) (by decide) (by decide) (Nat.le_of_ble_eq_true rfl) (Nat.le_of_ble_eq_true rfl) (Nat.le_of_ble_eq_true rfl) kd_Rows_20 (fun q1 H S => ?_)
  refine kn_putF X hin zlay_6 tyX6 tyX6_ok nmX6 (ci := 6) (v := .ref q1) rfl S 2 (by decide) kw117 rfl rfl rfl rfl (Nat.le_of_ble_eq_true rfl) kd_Rows_22 (fun H locs S => ?_)
  exact kn_ret X hr hlocks rfl S (fun i => zln [h0, q1] i) rfl (fun h => h) rfl (Nat.le_of_ble_eq_true rfl) (Nat.le_of_ble_eq_true rfl) kd_Rows_25
def kw_Rows_8 (cA : Nat → ClassId) (a : Nat → Nat) : va_W := (a 0, .inr (6, [.int 0, .int 8, .ref (a 1)])) :: ([(a 1, .inl (cA 0, (24, .inl fun _ => 0)))])
set_option maxHeartbeats 4000000 in
set_option maxRecDepth 100000 in
theorem k_Rows_8 (l : Launch) (base : Nat) (ad : Nat → Nat) (w : Value) (tb : Nat → Nat → Int32) (D : va_G) (cA : Nat → ClassId) : kMet l base ad w tb D cA 6 kz_Rows ky_Rows prog_8_method_1_code 2 [.int 8] 1 40 1 24 (kw_Rows_8 cA) := by
  intro h0 sz
  refine Met.ofW (cc := prog_8_method_1_code) (maxL := 2) (ret := none) (by decide) rfl ?_
  intro p e s m args below meth c s₁ B hml hv
  obtain ⟨rfl, X, S, hr, hlocks, hin⟩ := kstart B hml hv
  have X : kEn p s m ([.ref h0, .int 8] : List Value).toArray c prog_8_method_1_code 2 "BoxHedge$Rows" base ad w tb D cA (va_A [(h0, .inr (6, kz_Rows))] sz) := X
  have hx := X.1.1
  have hb := X.1.2.1
  have hl := lv_entry ([.ref h0, .int 8]) (n := 2) (Nat.le_of_ble_eq_true rfl)
  rw [lg_entry_eq]
  generalize (lg_sl ([.ref h0, .int 8]) ++ List.replicate (2 - (lg_sl ([.ref h0, .int 8])).length) Slot.unset).toArray = ls at hl ⊢
  have hl : lv_has ls 2 [(0, .ref h0), (1, .int 8)] := hl
  change W p l e _ s m _ below meth c s.heap [] 0 0 _ _
  refine lv_aload_n hx hb kd_Rows_0 rfl (lv_at hl 0 rfl) ?_
  refine kn_obj X kw109 kw96 kw97 hl.1 kd_Rows_1 (Nat.le_of_ble_eq_true rfl) (Nat.le_of_ble_eq_true rfl) ?_
  refine lv_aload_n hx hb kd_Rows_4 rfl (lv_at hl 0 rfl) ?_
  refine lv_iconst (v := 0) hx hb kd_Rows_5 (by decide) ?_
  refine lv_iload_n hx hb kd_Rows_6 rfl (lv_at hl 1 rfl) ?_
  refine va_mmax hx hb (X.1.2.2.1.trans hl.1.symm) X.1.2.2.2 (X.2.1 _ kw110) (X.2.1 _ kw111) (X.2.1 _ kw75) (X.2.1 _ kw112) (Nat.le_of_ble_eq_true rfl) (Nat.le_of_ble_eq_true rfl) (Nat.le_of_ble_eq_true rfl) (Nat.le_of_ble_eq_true rfl) kd_Rows_7 ?_
  refine lv_topi (fun z e1 => ?_)
  have e1 : z = 8 := e1.trans (by decide)
  subst e1
  refine kn_putF X hin zlay_6 tyX6 tyX6_ok nmX6 (ci := 6) (v := .int 8) rfl S 1 (by decide) kw116 rfl rfl rfl rfl (Nat.le_of_ble_eq_true rfl) kd_Rows_10 (fun H locs S => ?_)
  refine lv_aload_n hx hb kd_Rows_13 rfl (lv_at hl 0 rfl) ?_
  refine lv_aload_n hx hb kd_Rows_14 rfl (lv_at hl 0 rfl) ?_
  refine kn_get X zlay_6 (ci := 6) (C := RX6) (T := TX6) (N := 3) rfl S 1 (by decide) kw116 (v := .int 8) rfl kd_Rows_15 ?_
  refine lv_iconst (v := 3) hx hb kd_Rows_18 (by decide) ?_
  refine lv_imul hx hb kd_Rows_19 ?_
  refine lv_topi (fun z e1 => ?_)
  have e1 : z = 24 := e1.trans (by decide)
  subst e1
  refine kn_newa X 0 (ty := .int) (a0 := (24, .inl fun _ => 0)) (N := 24) rfl kw125 rfl (fun _ _ h => h) S (fun _ => rfl) (by decide) (by decide) (Nat.le_of_ble_eq_true rfl) (Nat.le_of_ble_eq_true rfl) (Nat.le_of_ble_eq_true rfl) kd_Rows_20 (fun q1 H S => ?_)
  refine kn_putF X hin zlay_6 tyX6 tyX6_ok nmX6 (ci := 6) (v := .ref q1) rfl S 2 (by decide) kw117 rfl rfl rfl rfl (Nat.le_of_ble_eq_true rfl) kd_Rows_22 (fun H locs S => ?_)
  exact kn_ret X hr hlocks rfl S (fun i => zln [h0, q1] i) rfl (fun h => h) rfl (Nat.le_of_ble_eq_true rfl) (Nat.le_of_ble_eq_true rfl) kd_Rows_25
def kw_Garden (cA : Nat → ClassId) (a : Nat → Nat) : va_W := (a 0, .inr (1, [.int 0, .int 0, .int 0, .ref (a 1), .ref (a 2), .ref (a 3), .int 0, .ref (a 4)])) :: ([(a 1, .inl (cA 0, (10, .inl fun _ => 0)))] ++ ([(a 2, .inl (cA 0, (10, .inl fun _ => 0)))] ++ ([(a 3, .inl (cA 0, (10, .inl fun _ => 0)))] ++ ([(a 4, .inl (cA 0, (100, .inl fun _ => 0)))]))))
set_option maxHeartbeats 4000000 in
set_option maxRecDepth 100000 in
theorem k_Garden (l : Launch) (base : Nat) (ad : Nat → Nat) (w : Value) (tb : Nat → Nat → Int32) (D : va_G) (cA : Nat → ClassId) : kMet l base ad w tb D cA 1 kz_Garden ky_Garden prog_3_method_1_code 1 [] 1 40 4 130 (kw_Garden cA) := by
  intro h0 sz
  refine Met.ofW (cc := prog_3_method_1_code) (maxL := 1) (ret := none) (by decide) rfl ?_
  intro p e s m args below meth c s₁ B hml hv
  obtain ⟨rfl, X, S, hr, hlocks, hin⟩ := kstart B hml hv
  have X : kEn p s m ([.ref h0] : List Value).toArray c prog_3_method_1_code 1 "BoxHedge$Garden" base ad w tb D cA (va_A [(h0, .inr (1, kz_Garden))] sz) := X
  have hx := X.1.1
  have hb := X.1.2.1
  have hl := lv_entry ([.ref h0]) (n := 1) (Nat.le_of_ble_eq_true rfl)
  rw [lg_entry_eq]
  generalize (lg_sl ([.ref h0]) ++ List.replicate (1 - (lg_sl ([.ref h0])).length) Slot.unset).toArray = ls at hl ⊢
  have hl : lv_has ls 1 [(0, .ref h0)] := hl
  change W p l e _ s m _ below meth c s.heap [] 0 0 _ _
  refine lv_aload_n hx hb kd_Garden_0 rfl (lv_at hl 0 rfl) ?_
  refine kn_obj X kw204 kw96 kw97 hl.1 kd_Garden_1 (Nat.le_of_ble_eq_true rfl) (Nat.le_of_ble_eq_true rfl) ?_
  refine lv_aload_n hx hb kd_Garden_4 rfl (lv_at hl 0 rfl) ?_
  refine lv_bipush (v := 10) hx hb kd_Garden_5 (by decide) ?_
  refine kn_newa X 0 (ty := .int) (a0 := (10, .inl fun _ => 0)) (N := 10) rfl kw125 rfl (fun _ _ h => h) S (fun _ => rfl) (by decide) (by decide) (Nat.le_of_ble_eq_true rfl) (Nat.le_of_ble_eq_true rfl) (Nat.le_of_ble_eq_true rfl) kd_Garden_7 (fun q1 H S => ?_)
  refine kn_putF X hin zlay_1 tyX1 tyX1_ok nmX1 (ci := 1) (v := .ref q1) rfl S 3 (by decide) kw210 rfl rfl rfl rfl (Nat.le_of_ble_eq_true rfl) kd_Garden_9 (fun H locs S => ?_)
  refine lv_aload_n hx hb kd_Garden_12 rfl (lv_at hl 0 rfl) ?_
  refine lv_bipush (v := 10) hx hb kd_Garden_13 (by decide) ?_
  refine kn_newa X 0 (ty := .int) (a0 := (10, .inl fun _ => 0)) (N := 10) rfl kw125 rfl (fun _ _ h => h) S (fun _ => rfl) (by decide) (by decide) (Nat.le_of_ble_eq_true rfl) (Nat.le_of_ble_eq_true rfl) (Nat.le_of_ble_eq_true rfl) kd_Garden_15 (fun q2 H S => ?_)
  refine kn_putF X hin zlay_1 tyX1 tyX1_ok nmX1 (ci := 1) (v := .ref q2) rfl S 4 (by decide) kw211 rfl rfl rfl rfl (Nat.le_of_ble_eq_true rfl) kd_Garden_17 (fun H locs S => ?_)
  refine lv_aload_n hx hb kd_Garden_20 rfl (lv_at hl 0 rfl) ?_
  refine lv_bipush (v := 10) hx hb kd_Garden_21 (by decide) ?_
  refine kn_newa X 0 (ty := .int) (a0 := (10, .inl fun _ => 0)) (N := 10) rfl kw125 rfl (fun _ _ h => h) S (fun _ => rfl) (by decide) (by decide) (Nat.le_of_ble_eq_true rfl) (Nat.le_of_ble_eq_true rfl) (Nat.le_of_ble_eq_true rfl) kd_Garden_23 (fun q3 H S => ?_)
  refine kn_putF X hin zlay_1 tyX1 tyX1_ok nmX1 (ci := 1) (v := .ref q3) rfl S 5 (by decide) kw212 rfl rfl rfl rfl (Nat.le_of_ble_eq_true rfl) kd_Garden_25 (fun H locs S => ?_)
  refine lv_aload_n hx hb kd_Garden_28 rfl (lv_at hl 0 rfl) ?_
  refine lv_bipush (v := 100) hx hb kd_Garden_29 (by decide) ?_
  refine kn_newa X 0 (ty := .int) (a0 := (100, .inl fun _ => 0)) (N := 100) rfl kw125 rfl (fun _ _ h => h) S (fun _ => rfl) (by decide) (by decide) (Nat.le_of_ble_eq_true rfl) (Nat.le_of_ble_eq_true rfl) (Nat.le_of_ble_eq_true rfl) kd_Garden_31 (fun q4 H S => ?_)
  refine kn_putF X hin zlay_1 tyX1 tyX1_ok nmX1 (ci := 1) (v := .ref q4) rfl S 7 (by decide) kw214 rfl rfl rfl rfl (Nat.le_of_ble_eq_true rfl) kd_Garden_33 (fun H locs S => ?_)
  exact kn_ret X hr hlocks rfl S (fun i => zln [h0, q1, q2, q3, q4] i) rfl (fun h => h) rfl (Nat.le_of_ble_eq_true rfl) (Nat.le_of_ble_eq_true rfl) kd_Garden_36
def kw_Hearing (cA : Nat → ClassId) (a : Nat → Nat) : va_W := (a 0, .inr (2, [.ref (a 1), .ref (a 2), .ref (a 3), .ref (a 4), .int 0, .ref (a 5)])) :: ([(a 1, .inl (cA 0, (8, .inl fun _ => 0)))] ++ ([(a 2, .inl (cA 0, (8, .inl fun _ => 0)))] ++ ([(a 3, .inl (cA 0, (8, .inl fun _ => 0)))] ++ ([(a 4, .inl (cA 0, (8, .inl fun _ => 0)))] ++ ([(a 5, .inl (cA 0, (8, .inl fun _ => 0)))])))))
set_option maxHeartbeats 4000000 in
set_option maxRecDepth 100000 in
theorem k_Hearing (l : Launch) (base : Nat) (ad : Nat → Nat) (w : Value) (tb : Nat → Nat → Int32) (D : va_G) (cA : Nat → ClassId) : kMet l base ad w tb D cA 2 kz_Hearing ky_Hearing prog_4_method_1_code 1 [] 1 40 5 40 (kw_Hearing cA) := by
  intro h0 sz
  refine Met.ofW (cc := prog_4_method_1_code) (maxL := 1) (ret := none) (by decide) rfl ?_
  intro p e s m args below meth c s₁ B hml hv
  obtain ⟨rfl, X, S, hr, hlocks, hin⟩ := kstart B hml hv
  have X : kEn p s m ([.ref h0] : List Value).toArray c prog_4_method_1_code 1 "BoxHedge$Hearing" base ad w tb D cA (va_A [(h0, .inr (2, kz_Hearing))] sz) := X
  have hx := X.1.1
  have hb := X.1.2.1
  have hl := lv_entry ([.ref h0]) (n := 1) (Nat.le_of_ble_eq_true rfl)
  rw [lg_entry_eq]
  generalize (lg_sl ([.ref h0]) ++ List.replicate (1 - (lg_sl ([.ref h0])).length) Slot.unset).toArray = ls at hl ⊢
  have hl : lv_has ls 1 [(0, .ref h0)] := hl
  change W p l e _ s m _ below meth c s.heap [] 0 0 _ _
  refine lv_aload_n hx hb kd_Hearing_0 rfl (lv_at hl 0 rfl) ?_
  refine kn_obj X kw265 kw96 kw97 hl.1 kd_Hearing_1 (Nat.le_of_ble_eq_true rfl) (Nat.le_of_ble_eq_true rfl) ?_
  refine lv_aload_n hx hb kd_Hearing_4 rfl (lv_at hl 0 rfl) ?_
  refine lv_bipush (v := 8) hx hb kd_Hearing_5 (by decide) ?_
  refine kn_newa X 0 (ty := .int) (a0 := (8, .inl fun _ => 0)) (N := 8) rfl kw125 rfl (fun _ _ h => h) S (fun _ => rfl) (by decide) (by decide) (Nat.le_of_ble_eq_true rfl) (Nat.le_of_ble_eq_true rfl) (Nat.le_of_ble_eq_true rfl) kd_Hearing_7 (fun q1 H S => ?_)
  refine kn_putF X hin zlay_2 tyX2 tyX2_ok nmX2 (ci := 2) (v := .ref q1) rfl S 0 (by decide) kw266 rfl rfl rfl rfl (Nat.le_of_ble_eq_true rfl) kd_Hearing_9 (fun H locs S => ?_)
  refine lv_aload_n hx hb kd_Hearing_12 rfl (lv_at hl 0 rfl) ?_
  refine lv_bipush (v := 8) hx hb kd_Hearing_13 (by decide) ?_
  refine kn_newa X 0 (ty := .int) (a0 := (8, .inl fun _ => 0)) (N := 8) rfl kw125 rfl (fun _ _ h => h) S (fun _ => rfl) (by decide) (by decide) (Nat.le_of_ble_eq_true rfl) (Nat.le_of_ble_eq_true rfl) (Nat.le_of_ble_eq_true rfl) kd_Hearing_15 (fun q2 H S => ?_)
  refine kn_putF X hin zlay_2 tyX2 tyX2_ok nmX2 (ci := 2) (v := .ref q2) rfl S 1 (by decide) kw268 rfl rfl rfl rfl (Nat.le_of_ble_eq_true rfl) kd_Hearing_17 (fun H locs S => ?_)
  refine lv_aload_n hx hb kd_Hearing_20 rfl (lv_at hl 0 rfl) ?_
  refine lv_bipush (v := 8) hx hb kd_Hearing_21 (by decide) ?_
  refine kn_newa X 0 (ty := .int) (a0 := (8, .inl fun _ => 0)) (N := 8) rfl kw125 rfl (fun _ _ h => h) S (fun _ => rfl) (by decide) (by decide) (Nat.le_of_ble_eq_true rfl) (Nat.le_of_ble_eq_true rfl) (Nat.le_of_ble_eq_true rfl) kd_Hearing_23 (fun q3 H S => ?_)
  refine kn_putF X hin zlay_2 tyX2 tyX2_ok nmX2 (ci := 2) (v := .ref q3) rfl S 2 (by decide) kw270 rfl rfl rfl rfl (Nat.le_of_ble_eq_true rfl) kd_Hearing_25 (fun H locs S => ?_)
  refine lv_aload_n hx hb kd_Hearing_28 rfl (lv_at hl 0 rfl) ?_
  refine lv_bipush (v := 8) hx hb kd_Hearing_29 (by decide) ?_
  refine kn_newa X 0 (ty := .int) (a0 := (8, .inl fun _ => 0)) (N := 8) rfl kw125 rfl (fun _ _ h => h) S (fun _ => rfl) (by decide) (by decide) (Nat.le_of_ble_eq_true rfl) (Nat.le_of_ble_eq_true rfl) (Nat.le_of_ble_eq_true rfl) kd_Hearing_31 (fun q4 H S => ?_)
  refine kn_putF X hin zlay_2 tyX2 tyX2_ok nmX2 (ci := 2) (v := .ref q4) rfl S 3 (by decide) kw272 rfl rfl rfl rfl (Nat.le_of_ble_eq_true rfl) kd_Hearing_33 (fun H locs S => ?_)
  refine lv_aload_n hx hb kd_Hearing_36 rfl (lv_at hl 0 rfl) ?_
  refine lv_bipush (v := 8) hx hb kd_Hearing_37 (by decide) ?_
  refine kn_newa X 0 (ty := .int) (a0 := (8, .inl fun _ => 0)) (N := 8) rfl kw125 rfl (fun _ _ h => h) S (fun _ => rfl) (by decide) (by decide) (Nat.le_of_ble_eq_true rfl) (Nat.le_of_ble_eq_true rfl) (Nat.le_of_ble_eq_true rfl) kd_Hearing_39 (fun q5 H S => ?_)
  refine kn_putF X hin zlay_2 tyX2 tyX2_ok nmX2 (ci := 2) (v := .ref q5) rfl S 5 (by decide) kw276 rfl rfl rfl rfl (Nat.le_of_ble_eq_true rfl) kd_Hearing_41 (fun H locs S => ?_)
  exact kn_ret X hr hlocks rfl S (fun i => zln [h0, q1, q2, q3, q4, q5] i) rfl (fun h => h) rfl (Nat.le_of_ble_eq_true rfl) (Nat.le_of_ble_eq_true rfl) kd_Hearing_44
def kw_Reader (cA : Nat → ClassId) (a : Nat → Nat) : va_W := (a 0, .inr (5, [.int 0, .ref (a 1), .int 0, .null])) :: ([(a 1, .inl (cA 0, (100, .inl fun _ => 0)))])
set_option maxHeartbeats 4000000 in
set_option maxRecDepth 100000 in
theorem k_Reader (l : Launch) (base : Nat) (ad : Nat → Nat) (w : Value) (tb : Nat → Nat → Int32) (D : va_G) (cA : Nat → ClassId) : kMet l base ad w tb D cA 5 kz_Reader ky_Reader prog_7_method_1_code 1 [] 1 40 1 100 (kw_Reader cA) := by
  intro h0 sz
  refine Met.ofW (cc := prog_7_method_1_code) (maxL := 1) (ret := none) (by decide) rfl ?_
  intro p e s m args below meth c s₁ B hml hv
  obtain ⟨rfl, X, S, hr, hlocks, hin⟩ := kstart B hml hv
  have X : kEn p s m ([.ref h0] : List Value).toArray c prog_7_method_1_code 1 "BoxHedge$Reader" base ad w tb D cA (va_A [(h0, .inr (5, kz_Reader))] sz) := X
  have hx := X.1.1
  have hb := X.1.2.1
  have hl := lv_entry ([.ref h0]) (n := 1) (Nat.le_of_ble_eq_true rfl)
  rw [lg_entry_eq]
  generalize (lg_sl ([.ref h0]) ++ List.replicate (1 - (lg_sl ([.ref h0])).length) Slot.unset).toArray = ls at hl ⊢
  have hl : lv_has ls 1 [(0, .ref h0)] := hl
  change W p l e _ s m _ below meth c s.heap [] 0 0 _ _
  refine lv_aload_n hx hb kd_Reader_0 rfl (lv_at hl 0 rfl) ?_
  refine kn_obj X kw237 kw96 kw97 hl.1 kd_Reader_1 (Nat.le_of_ble_eq_true rfl) (Nat.le_of_ble_eq_true rfl) ?_
  refine lv_aload_n hx hb kd_Reader_4 rfl (lv_at hl 0 rfl) ?_
  refine lv_bipush (v := 100) hx hb kd_Reader_5 (by decide) ?_
  refine kn_newa X 0 (ty := .int) (a0 := (100, .inl fun _ => 0)) (N := 100) rfl kw125 rfl (fun _ _ h => h) S (fun _ => rfl) (by decide) (by decide) (Nat.le_of_ble_eq_true rfl) (Nat.le_of_ble_eq_true rfl) (Nat.le_of_ble_eq_true rfl) kd_Reader_7 (fun q1 H S => ?_)
  refine kn_putF X hin zlay_5 tyX5 tyX5_ok nmX5 (ci := 5) (v := .ref q1) rfl S 1 (by decide) kw240 rfl rfl rfl rfl (Nat.le_of_ble_eq_true rfl) kd_Reader_9 (fun H locs S => ?_)
  exact kn_ret X hr hlocks rfl S (fun i => zln [h0, q1] i) rfl (fun h => h) rfl (Nat.le_of_ble_eq_true rfl) (Nat.le_of_ble_eq_true rfl) kd_Reader_12
def kw_Acts (cA : Nat → ClassId) (a : Nat → Nat) : va_W := (a 0, .inr (0, [.ref (a 1), .int 0, .int 0, .int 0, .int 0])) :: ([(a 1, .inl (cA 0, (20, .inl fun _ => 0)))])
set_option maxHeartbeats 4000000 in
set_option maxRecDepth 100000 in
theorem k_Acts (l : Launch) (base : Nat) (ad : Nat → Nat) (w : Value) (tb : Nat → Nat → Int32) (D : va_G) (cA : Nat → ClassId) : kMet l base ad w tb D cA 0 kz_Acts ky_Acts prog_2_method_1_code 1 [] 1 40 1 20 (kw_Acts cA) := by
  intro h0 sz
  refine Met.ofW (cc := prog_2_method_1_code) (maxL := 1) (ret := none) (by decide) rfl ?_
  intro p e s m args below meth c s₁ B hml hv
  obtain ⟨rfl, X, S, hr, hlocks, hin⟩ := kstart B hml hv
  have X : kEn p s m ([.ref h0] : List Value).toArray c prog_2_method_1_code 1 "BoxHedge$Acts" base ad w tb D cA (va_A [(h0, .inr (0, kz_Acts))] sz) := X
  have hx := X.1.1
  have hb := X.1.2.1
  have hl := lv_entry ([.ref h0]) (n := 1) (Nat.le_of_ble_eq_true rfl)
  rw [lg_entry_eq]
  generalize (lg_sl ([.ref h0]) ++ List.replicate (1 - (lg_sl ([.ref h0])).length) Slot.unset).toArray = ls at hl ⊢
  have hl : lv_has ls 1 [(0, .ref h0)] := hl
  change W p l e _ s m _ below meth c s.heap [] 0 0 _ _
  refine lv_aload_n hx hb kd_Acts_0 rfl (lv_at hl 0 rfl) ?_
  refine kn_obj X kw308 kw96 kw97 hl.1 kd_Acts_1 (Nat.le_of_ble_eq_true rfl) (Nat.le_of_ble_eq_true rfl) ?_
  refine lv_aload_n hx hb kd_Acts_4 rfl (lv_at hl 0 rfl) ?_
  refine lv_bipush (v := 20) hx hb kd_Acts_5 (by decide) ?_
  refine kn_newa X 0 (ty := .int) (a0 := (20, .inl fun _ => 0)) (N := 20) rfl kw125 rfl (fun _ _ h => h) S (fun _ => rfl) (by decide) (by decide) (Nat.le_of_ble_eq_true rfl) (Nat.le_of_ble_eq_true rfl) (Nat.le_of_ble_eq_true rfl) kd_Acts_7 (fun q1 H S => ?_)
  refine kn_putF X hin zlay_0 tyX0 tyX0_ok nmX0 (ci := 0) (v := .ref q1) rfl S 0 (by decide) kw309 rfl rfl rfl rfl (Nat.le_of_ble_eq_true rfl) kd_Acts_9 (fun H locs S => ?_)
  exact kn_ret X hr hlocks rfl S (fun i => zln [h0, q1] i) rfl (fun h => h) rfl (Nat.le_of_ble_eq_true rfl) (Nat.le_of_ble_eq_true rfl) kd_Acts_12
def kw_Tape (cA : Nat → ClassId) (a : Nat → Nat) : va_W := (a 0, .inr (7, [.int (-1), .int 0, .ref (a 1)])) :: ([(a 1, .inl (cA 2, (60, .inr (.inl fun _ => 0))))])
set_option maxHeartbeats 4000000 in
set_option maxRecDepth 100000 in
theorem k_Tape (l : Launch) (base : Nat) (ad : Nat → Nat) (w : Value) (tb : Nat → Nat → Int32) (D : va_G) (cA : Nat → ClassId) : kMet l base ad w tb D cA 7 kz_Tape ky_Tape prog_9_method_1_code 1 [] 1 40 1 60 (kw_Tape cA) := by
  intro h0 sz
  refine Met.ofW (cc := prog_9_method_1_code) (maxL := 1) (ret := none) (by decide) rfl ?_
  intro p e s m args below meth c s₁ B hml hv
  obtain ⟨rfl, X, S, hr, hlocks, hin⟩ := kstart B hml hv
  have X : kEn p s m ([.ref h0] : List Value).toArray c prog_9_method_1_code 1 "BoxHedge$Tape" base ad w tb D cA (va_A [(h0, .inr (7, kz_Tape))] sz) := X
  have hx := X.1.1
  have hb := X.1.2.1
  have hl := lv_entry ([.ref h0]) (n := 1) (Nat.le_of_ble_eq_true rfl)
  rw [lg_entry_eq]
  generalize (lg_sl ([.ref h0]) ++ List.replicate (1 - (lg_sl ([.ref h0])).length) Slot.unset).toArray = ls at hl ⊢
  have hl : lv_has ls 1 [(0, .ref h0)] := hl
  change W p l e _ s m _ below meth c s.heap [] 0 0 _ _
  refine lv_aload_n hx hb kd_Tape_0 rfl (lv_at hl 0 rfl) ?_
  refine kn_obj X kw333 kw96 kw97 hl.1 kd_Tape_1 (Nat.le_of_ble_eq_true rfl) (Nat.le_of_ble_eq_true rfl) ?_
  refine lv_aload_n hx hb kd_Tape_4 rfl (lv_at hl 0 rfl) ?_
  refine lv_iconst (v := (-1)) hx hb kd_Tape_5 (by decide) ?_
  refine kn_put X zlay_7 tyX7 tyX7_ok nmX7 (ci := 7) (v := .int (-1)) rfl S 0 (by decide) kw334 rfl rfl rfl (Nat.le_of_ble_eq_true rfl) kd_Tape_6 (fun H locs S => ?_)
  refine lv_aload_n hx hb kd_Tape_9 rfl (lv_at hl 0 rfl) ?_
  refine lv_bipush (v := 60) hx hb kd_Tape_10 (by decide) ?_
  refine kn_newa X 2 (ty := .long) (a0 := (60, .inr (.inl fun _ => 0))) (N := 60) rfl kw349 rfl (fun _ _ h => h) S (fun _ => rfl) (by decide) (by decide) (Nat.le_of_ble_eq_true rfl) (Nat.le_of_ble_eq_true rfl) (Nat.le_of_ble_eq_true rfl) kd_Tape_12 (fun q1 H S => ?_)
  refine kn_putF X hin zlay_7 tyX7 tyX7_ok nmX7 (ci := 7) (v := .ref q1) rfl S 2 (by decide) kw339 rfl rfl rfl rfl (Nat.le_of_ble_eq_true rfl) kd_Tape_14 (fun H locs S => ?_)
  exact kn_ret X hr hlocks rfl S (fun i => zln [h0, q1] i) rfl (fun h => h) rfl (Nat.le_of_ble_eq_true rfl) (Nat.le_of_ble_eq_true rfl) kd_Tape_17
def kw_Hedge (cA : Nat → ClassId) (a : Nat → Nat) : va_W := (a 0, .inr (3, [.int 0, .ref (a 1), .ref (a 2), .ref (a 3), .ref (a 4), .int 0, .int 0, .null, .ref (a 5), .ref (a 7), .ref (a 9), .ref (a 11)])) :: ([(a 1, .inl (cA 0, (8, .inl fun _ => 0)))] ++ ([(a 2, .inl (cA 0, (8, .inl fun _ => 0)))] ++ ([(a 3, .inl (cA 0, (8, .inl fun _ => 0)))] ++ ([(a 4, .inl (cA 0, (32, .inl fun _ => 0)))] ++ (kw_Rows_5 cA (fun i => a (5 + i)) ++ (kw_Rows_8 cA (fun i => a (7 + i)) ++ (kw_Rows_8 cA (fun i => a (9 + i)) ++ ([(a 11, .inl (cA 0, (6, .inl fun _ => 0)))]))))))))
set_option maxHeartbeats 4000000 in
set_option maxRecDepth 100000 in
theorem k_Hedge (l : Launch) (base : Nat) (ad : Nat → Nat) (w : Value) (tb : Nat → Nat → Int32) (D : va_G) (cA : Nat → ClassId) : kMet l base ad w tb D cA 3 kz_Hedge ky_Hedge prog_5_method_1_code 1 [] 3 120 11 134 (kw_Hedge cA) := by
  intro h0 sz
  refine Met.ofW (cc := prog_5_method_1_code) (maxL := 1) (ret := none) (by decide) rfl ?_
  intro p e s m args below meth c s₁ B hml hv
  obtain ⟨rfl, X, S, hr, hlocks, hin⟩ := kstart B hml hv
  have X : kEn p s m ([.ref h0] : List Value).toArray c prog_5_method_1_code 1 "BoxHedge$Hedge" base ad w tb D cA (va_A [(h0, .inr (3, kz_Hedge))] sz) := X
  have hx := X.1.1
  have hb := X.1.2.1
  obtain ⟨tx, hstr⟩ := X.2.2.2.1.2.2.2.1 3 41 5 (by decide) rfl
  have hl := lv_entry ([.ref h0]) (n := 1) (Nat.le_of_ble_eq_true rfl)
  rw [lg_entry_eq]
  generalize (lg_sl ([.ref h0]) ++ List.replicate (1 - (lg_sl ([.ref h0])).length) Slot.unset).toArray = ls at hl ⊢
  have hl : lv_has ls 1 [(0, .ref h0)] := hl
  change W p l e _ s m _ below meth c s.heap [] 0 0 _ _
  refine lv_aload_n hx hb kd_Hedge_0 rfl (lv_at hl 0 rfl) ?_
  refine kn_obj X kw103 kw96 kw97 hl.1 kd_Hedge_1 (Nat.le_of_ble_eq_true rfl) (Nat.le_of_ble_eq_true rfl) ?_
  refine lv_aload_n hx hb kd_Hedge_4 rfl (lv_at hl 0 rfl) ?_
  refine lv_bipush (v := 8) hx hb kd_Hedge_5 (by decide) ?_
  refine kn_newa X 0 (ty := .int) (a0 := (8, .inl fun _ => 0)) (N := 8) rfl kw125 rfl (fun _ _ h => h) S (fun _ => rfl) (by decide) (by decide) (Nat.le_of_ble_eq_true rfl) (Nat.le_of_ble_eq_true rfl) (Nat.le_of_ble_eq_true rfl) kd_Hedge_7 (fun q1 H S => ?_)
  refine kn_putF X hin zlay_3 tyX3 tyX3_ok nmX3 (ci := 3) (v := .ref q1) rfl S 1 (by decide) kw141 rfl rfl rfl rfl (Nat.le_of_ble_eq_true rfl) kd_Hedge_9 (fun H locs S => ?_)
  refine lv_aload_n hx hb kd_Hedge_12 rfl (lv_at hl 0 rfl) ?_
  refine lv_bipush (v := 8) hx hb kd_Hedge_13 (by decide) ?_
  refine kn_newa X 0 (ty := .int) (a0 := (8, .inl fun _ => 0)) (N := 8) rfl kw125 rfl (fun _ _ h => h) S (fun _ => rfl) (by decide) (by decide) (Nat.le_of_ble_eq_true rfl) (Nat.le_of_ble_eq_true rfl) (Nat.le_of_ble_eq_true rfl) kd_Hedge_15 (fun q2 H S => ?_)
  refine kn_putF X hin zlay_3 tyX3 tyX3_ok nmX3 (ci := 3) (v := .ref q2) rfl S 2 (by decide) kw144 rfl rfl rfl rfl (Nat.le_of_ble_eq_true rfl) kd_Hedge_17 (fun H locs S => ?_)
  refine lv_aload_n hx hb kd_Hedge_20 rfl (lv_at hl 0 rfl) ?_
  refine lv_bipush (v := 8) hx hb kd_Hedge_21 (by decide) ?_
  refine kn_newa X 0 (ty := .int) (a0 := (8, .inl fun _ => 0)) (N := 8) rfl kw125 rfl (fun _ _ h => h) S (fun _ => rfl) (by decide) (by decide) (Nat.le_of_ble_eq_true rfl) (Nat.le_of_ble_eq_true rfl) (Nat.le_of_ble_eq_true rfl) kd_Hedge_23 (fun q3 H S => ?_)
  refine kn_putF X hin zlay_3 tyX3 tyX3_ok nmX3 (ci := 3) (v := .ref q3) rfl S 3 (by decide) kw147 rfl rfl rfl rfl (Nat.le_of_ble_eq_true rfl) kd_Hedge_25 (fun H locs S => ?_)
  refine lv_aload_n hx hb kd_Hedge_28 rfl (lv_at hl 0 rfl) ?_
  refine lv_bipush (v := 32) hx hb kd_Hedge_29 (by decide) ?_
  refine kn_newa X 0 (ty := .int) (a0 := (32, .inl fun _ => 0)) (N := 32) rfl kw125 rfl (fun _ _ h => h) S (fun _ => rfl) (by decide) (by decide) (Nat.le_of_ble_eq_true rfl) (Nat.le_of_ble_eq_true rfl) (Nat.le_of_ble_eq_true rfl) kd_Hedge_31 (fun q4 H S => ?_)
  refine kn_putF X hin zlay_3 tyX3 tyX3_ok nmX3 (ci := 3) (v := .ref q4) rfl S 4 (by decide) kw151 rfl rfl rfl rfl (Nat.le_of_ble_eq_true rfl) kd_Hedge_33 (fun H locs S => ?_)
  refine lv_aload_n hx hb kd_Hedge_36 rfl (lv_at hl 0 rfl) ?_
  refine kn_new X zlay_6 tyX6 tyX6_ok kw104 kw105 kw74 (ci := 6) rfl S (fs := kz_Rows) rfl (Nat.le_of_ble_eq_true rfl) (Nat.le_of_ble_eq_true rfl) kd_Hedge_37 (fun q5 H S => ?_)
  refine lv_dup hx hb kd_Hedge_40 rfl ?_
  refine lv_iconst (v := 5) hx hb kd_Hedge_41 (by decide) ?_
  refine kn_callI (q := q5) (as := [.int 5]) (rest := [.ref q5, .ref h0]) X (k_Rows_5 l base ad w tb D cA) kcd_Rows kini_Rows kw106 kim_Rows rfl ⟨by decide, by decide, rfl⟩ ⟨(Nat.le_of_ble_eq_true rfl), (Nat.le_of_ble_eq_true rfl)⟩ S hl.1 (Nat.le_of_ble_eq_true rfl) kd_Hedge_42 ⟨(Nat.le_of_ble_eq_true rfl), (Nat.le_of_ble_eq_true rfl)⟩ (fun a5 H locs ea T => ?_)
  subst ea
  have S := T
  clear T
  refine kn_putF X hin zlay_3 tyX3 tyX3_ok nmX3 (ci := 3) (v := .ref (a5 0)) rfl S 8 (by decide) kw162 rfl rfl rfl rfl (Nat.le_of_ble_eq_true rfl) kd_Hedge_45 (fun H locs S => ?_)
  refine lv_aload_n hx hb kd_Hedge_48 rfl (lv_at hl 0 rfl) ?_
  refine kn_new X zlay_6 tyX6 tyX6_ok kw104 kw105 kw74 (ci := 6) rfl S (fs := kz_Rows) rfl (Nat.le_of_ble_eq_true rfl) (Nat.le_of_ble_eq_true rfl) kd_Hedge_49 (fun q7 H S => ?_)
  refine lv_dup hx hb kd_Hedge_52 rfl ?_
  refine lv_bipush (v := 8) hx hb kd_Hedge_53 (by decide) ?_
  refine kn_callI (q := q7) (as := [.int 8]) (rest := [.ref q7, .ref h0]) X (k_Rows_8 l base ad w tb D cA) kcd_Rows kini_Rows kw106 kim_Rows rfl ⟨by decide, by decide, rfl⟩ ⟨(Nat.le_of_ble_eq_true rfl), (Nat.le_of_ble_eq_true rfl)⟩ S hl.1 (Nat.le_of_ble_eq_true rfl) kd_Hedge_55 ⟨(Nat.le_of_ble_eq_true rfl), (Nat.le_of_ble_eq_true rfl)⟩ (fun a7 H locs ea T => ?_)
  subst ea
  have S := T
  clear T
  refine kn_putF X hin zlay_3 tyX3 tyX3_ok nmX3 (ci := 3) (v := .ref (a7 0)) rfl S 9 (by decide) kw165 rfl rfl rfl rfl (Nat.le_of_ble_eq_true rfl) kd_Hedge_58 (fun H locs S => ?_)
  refine lv_aload_n hx hb kd_Hedge_61 rfl (lv_at hl 0 rfl) ?_
  refine kn_new X zlay_6 tyX6 tyX6_ok kw104 kw105 kw74 (ci := 6) rfl S (fs := kz_Rows) rfl (Nat.le_of_ble_eq_true rfl) (Nat.le_of_ble_eq_true rfl) kd_Hedge_62 (fun q9 H S => ?_)
  refine lv_dup hx hb kd_Hedge_65 rfl ?_
  refine lv_bipush (v := 8) hx hb kd_Hedge_66 (by decide) ?_
  refine kn_callI (q := q9) (as := [.int 8]) (rest := [.ref q9, .ref h0]) X (k_Rows_8 l base ad w tb D cA) kcd_Rows kini_Rows kw106 kim_Rows rfl ⟨by decide, by decide, rfl⟩ ⟨(Nat.le_of_ble_eq_true rfl), (Nat.le_of_ble_eq_true rfl)⟩ S hl.1 (Nat.le_of_ble_eq_true rfl) kd_Hedge_68 ⟨(Nat.le_of_ble_eq_true rfl), (Nat.le_of_ble_eq_true rfl)⟩ (fun a9 H locs ea T => ?_)
  subst ea
  have S := T
  clear T
  refine kn_putF X hin zlay_3 tyX3 tyX3_ok nmX3 (ci := 3) (v := .ref (a9 0)) rfl S 10 (by decide) kw168 rfl rfl rfl rfl (Nat.le_of_ble_eq_true rfl) kd_Hedge_71 (fun H locs S => ?_)
  refine lv_aload_n hx hb kd_Hedge_74 rfl (lv_at hl 0 rfl) ?_
  refine va_ldcS hx hb X.1.2.2.2 hstr kd_Hedge_75 ?_
  refine kn_len X S hl.1 (Nat.le_of_ble_eq_true rfl) ⟨(Nat.le_of_ble_eq_true rfl), (Nat.le_of_ble_eq_true rfl)⟩ ⟨(Nat.le_of_ble_eq_true rfl), (Nat.le_of_ble_eq_true rfl)⟩ kd_Hedge_77 (fun H locs S => ?_)
  refine kn_newa X 0 (ty := .int) (a0 := (6, .inl fun _ => 0)) (N := 6) rfl kw125 rfl (fun _ _ h => h) S (fun _ => rfl) (by decide) (by decide) (Nat.le_of_ble_eq_true rfl) (Nat.le_of_ble_eq_true rfl) (Nat.le_of_ble_eq_true rfl) kd_Hedge_80 (fun q11 H S => ?_)
  refine kn_putF X hin zlay_3 tyX3 tyX3_ok nmX3 (ci := 3) (v := .ref q11) rfl S 11 (by decide) kw171 rfl rfl rfl rfl (Nat.le_of_ble_eq_true rfl) kd_Hedge_82 (fun H locs S => ?_)
  exact kn_ret X hr hlocks rfl S (fun i => zln [h0, q1, q2, q3, q4, a5 0, a5 1, a7 0, a7 1, a9 0, a9 1, q11] i) rfl (fun h => h) rfl (Nat.le_of_ble_eq_true rfl) (Nat.le_of_ble_eq_true rfl) kd_Hedge_85
