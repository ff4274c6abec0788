theorem s_0 : (.selects "MoveDesk$Judge" ⟨"MoveDesk$Judge", "start", "()V"⟩ ⟨"MoveDesk$Judge", "start", "()V"⟩ : Cond) ∈ bw := ms 0 (by decide +kernel) rfl
theorem s_1 : (.selects "MoveDesk$Judge" ⟨"MoveDesk$Judge", "choicesIn", "(I)I"⟩ ⟨"MoveDesk$Judge", "choicesIn", "(I)I"⟩ : Cond) ∈ bw := ms 1 (by decide +kernel) rfl
theorem s_2 : (.selects "MoveDesk$Judge" ⟨"MoveDesk$Judge", "reach", "(IIJ)V"⟩ ⟨"MoveDesk$Judge", "reach", "(IIJ)V"⟩ : Cond) ∈ bw := ms 2 (by decide +kernel) rfl
theorem s_3 : (.selects "MoveDesk$Judge" ⟨"MoveDesk$Judge", "leave", "(IIJ)V"⟩ ⟨"MoveDesk$Judge", "leave", "(IIJ)V"⟩ : Cond) ∈ bw := ms 3 (by decide +kernel) rfl
theorem s_7 : (.selects "MoveDesk$Judge" ⟨"MoveDesk$Judge", "leaveBy", "(IIJ)V"⟩ ⟨"MoveDesk$Judge", "leaveBy", "(IIJ)V"⟩ : Cond) ∈ bw := ms 7 (by decide +kernel) rfl
theorem s_8 : (.selects "MoveDesk$Judge" ⟨"MoveDesk$Judge", "blame", "(II)V"⟩ ⟨"MoveDesk$Judge", "blame", "(II)V"⟩ : Cond) ∈ bw := ms 8 (by decide +kernel) rfl
theorem s_9 : (.selects "MoveDesk$Judge" ⟨"MoveDesk$Judge", "older", "(J)J"⟩ ⟨"MoveDesk$Judge", "older", "(J)J"⟩ : Cond) ∈ bw := ms 9 (by decide +kernel) rfl
theorem s_10 : (.selects "MoveDesk$Judge" ⟨"MoveDesk$Judge", "goOn", "(IIJ)V"⟩ ⟨"MoveDesk$Judge", "goOn", "(IIJ)V"⟩ : Cond) ∈ bw := ms 10 (by decide +kernel) rfl
theorem m_8 : (.initialized "MoveDesk$Judge" : Cond) ∈ bw := mw 8 (by decide +kernel) rfl
theorem m_28 : (.static ⟨"java/lang/Math", "min", "(II)I"⟩ : Cond) ∈ bw := mw 28 (by decide +kernel) rfl
theorem m_29 : (.code ⟨"java/lang/Math", "min", "(II)I"⟩ prog_15_method_69_code 2 (some .int) : Cond) ∈ bw := mw 29 (by decide +kernel) rfl
theorem m_235 : (.fieldLink "MoveDesk$Judge" 43 "MoveDesk$Judge" "AGE_STEPS" "[I" : Cond) ∈ bw := mw 235 (by decide +kernel) rfl
theorem m_237 : (.fieldLink "MoveDesk$Judge" 46 "MoveDesk$Judge" "AGE_COUNTS" "[I" : Cond) ∈ bw := mw 237 (by decide +kernel) rfl
theorem m_239 : (.fieldLink "MoveDesk$Judge" 35 "MoveDesk$Judge" "code" "LMoveDesk$Code;" : Cond) ∈ bw := mw 239 (by decide +kernel) rfl
theorem m_240 : (.fieldLink "MoveDesk$Judge" 14 "MoveDesk$Judge" "bundle" "LMoveDesk$Bundle;" : Cond) ∈ bw := mw 240 (by decide +kernel) rfl
theorem m_241 : (.fieldLink "MoveDesk$Judge" 18 "MoveDesk$Judge" "choices" "[I" : Cond) ∈ bw := mw 241 (by decide +kernel) rfl
theorem m_242 : (.fieldLink "MoveDesk$Judge" 22 "MoveDesk$Judge" "reached" "[J" : Cond) ∈ bw := mw 242 (by decide +kernel) rfl
theorem m_243 : (.fieldLink "MoveDesk$Judge" 26 "MoveDesk$Judge" "fresh" "[J" : Cond) ∈ bw := mw 243 (by decide +kernel) rfl
theorem m_244 : (.fieldLink "MoveDesk$Judge" 29 "MoveDesk$Judge" "unbegun" "[J" : Cond) ∈ bw := mw 244 (by decide +kernel) rfl
theorem m_245 : (.fieldLink "MoveDesk$Judge" 32 "MoveDesk$Judge" "withResult" "[J" : Cond) ∈ bw := mw 245 (by decide +kernel) rfl
theorem m_246 : (.fieldLink "MoveDesk$Judge" 52 "MoveDesk$Judge" "spreads" "Z" : Cond) ∈ bw := mw 246 (by decide +kernel) rfl
theorem m_247 : (.fieldLink "MoveDesk$Judge" 60 "MoveDesk$Judge" "wrongCycle" "I" : Cond) ∈ bw := mw 247 (by decide +kernel) rfl
theorem m_248 : (.fieldLink "MoveDesk$Judge" 64 "MoveDesk$Judge" "wrongFault" "I" : Cond) ∈ bw := mw 248 (by decide +kernel) rfl
theorem m_345 : (.methodLink "MoveDesk$Judge" 49 ⟨"MoveDesk$Judge", "start", "()V"⟩ : Cond) ∈ bw := mw 345 (by decide +kernel) rfl
theorem m_347 : (.instanceMethod ⟨"MoveDesk$Judge", "start", "()V"⟩ : Cond) ∈ bw := mw 347 (by decide +kernel) rfl
theorem m_348 : (.code ⟨"MoveDesk$Judge", "start", "()V"⟩ prog_4_method_5_code 2 none : Cond) ∈ bw := mw 348 (by decide +kernel) rfl
theorem m_349 : (.methodLink "MoveDesk$Judge" 67 ⟨"MoveDesk$Judge", "choicesIn", "(I)I"⟩ : Cond) ∈ bw := mw 349 (by decide +kernel) rfl
theorem m_351 : (.instanceMethod ⟨"MoveDesk$Judge", "choicesIn", "(I)I"⟩ : Cond) ∈ bw := mw 351 (by decide +kernel) rfl
theorem m_352 : (.code ⟨"MoveDesk$Judge", "choicesIn", "(I)I"⟩ prog_4_method_6_code 4 (some .int) : Cond) ∈ bw := mw 352 (by decide +kernel) rfl
theorem m_353 : (.methodLink "MoveDesk$Judge" 74 ⟨"MoveDesk$Code", "madeWith", "(II)I"⟩ : Cond) ∈ bw := mw 353 (by decide +kernel) rfl
theorem m_360 : (.methodLink "MoveDesk$Judge" 71 ⟨"MoveDesk$Judge", "reach", "(IIJ)V"⟩ : Cond) ∈ bw := mw 360 (by decide +kernel) rfl
theorem m_362 : (.instanceMethod ⟨"MoveDesk$Judge", "reach", "(IIJ)V"⟩ : Cond) ∈ bw := mw 362 (by decide +kernel) rfl
theorem m_363 : (.code ⟨"MoveDesk$Judge", "reach", "(IIJ)V"⟩ prog_4_method_7_code 8 none : Cond) ∈ bw := mw 363 (by decide +kernel) rfl
theorem m_364 : (.constantLong "MoveDesk$Judge" 80 (-1) : Cond) ∈ bw := mw 364 (by decide +kernel) rfl
theorem m_365 : (.methodLink "MoveDesk$Judge" 56 ⟨"MoveDesk$Judge", "leave", "(IIJ)V"⟩ : Cond) ∈ bw := mw 365 (by decide +kernel) rfl
theorem m_367 : (.instanceMethod ⟨"MoveDesk$Judge", "leave", "(IIJ)V"⟩ : Cond) ∈ bw := mw 367 (by decide +kernel) rfl
theorem m_368 : (.code ⟨"MoveDesk$Judge", "leave", "(IIJ)V"⟩ prog_4_method_8_code 6 none : Cond) ∈ bw := mw 368 (by decide +kernel) rfl
theorem m_369 : (.methodLink "MoveDesk$Judge" 82 ⟨"MoveDesk$Bundle", "gather", "(LMoveDesk$Code;II)V"⟩ : Cond) ∈ bw := mw 369 (by decide +kernel) rfl
theorem m_389 : (.methodLink "MoveDesk$Judge" 86 ⟨"MoveDesk$Judge", "leaveBy", "(IIJ)V"⟩ : Cond) ∈ bw := mw 389 (by decide +kernel) rfl
theorem m_391 : (.instanceMethod ⟨"MoveDesk$Judge", "leaveBy", "(IIJ)V"⟩ : Cond) ∈ bw := mw 391 (by decide +kernel) rfl
theorem m_392 : (.code ⟨"MoveDesk$Judge", "leaveBy", "(IIJ)V"⟩ prog_4_method_9_code 8 none : Cond) ∈ bw := mw 392 (by decide +kernel) rfl
theorem m_393 : (.methodLink "MoveDesk$Judge" 92 ⟨"MoveDesk$Bundle", "leastFault", "(IZ)I"⟩ : Cond) ∈ bw := mw 393 (by decide +kernel) rfl
theorem m_403 : (.methodLink "MoveDesk$Judge" 96 ⟨"MoveDesk$Judge", "blame", "(II)V"⟩ : Cond) ∈ bw := mw 403 (by decide +kernel) rfl
theorem m_405 : (.instanceMethod ⟨"MoveDesk$Judge", "blame", "(II)V"⟩ : Cond) ∈ bw := mw 405 (by decide +kernel) rfl
theorem m_406 : (.code ⟨"MoveDesk$Judge", "blame", "(II)V"⟩ prog_4_method_10_code 3 none : Cond) ∈ bw := mw 406 (by decide +kernel) rfl
theorem m_407 : (.methodLink "MoveDesk$Judge" 113 ⟨"java/lang/Math", "min", "(II)I"⟩ : Cond) ∈ bw := mw 407 (by decide +kernel) rfl
theorem m_408 : (.methodLink "MoveDesk$Judge" 106 ⟨"MoveDesk$Judge", "older", "(J)J"⟩ : Cond) ∈ bw := mw 408 (by decide +kernel) rfl
theorem m_410 : (.instanceMethod ⟨"MoveDesk$Judge", "older", "(J)J"⟩ : Cond) ∈ bw := mw 410 (by decide +kernel) rfl
theorem m_411 : (.code ⟨"MoveDesk$Judge", "older", "(J)J"⟩ prog_4_method_11_code 8 (some .long) : Cond) ∈ bw := mw 411 (by decide +kernel) rfl
theorem m_412 : (.methodLink "MoveDesk$Judge" 110 ⟨"MoveDesk$Judge", "goOn", "(IIJ)V"⟩ : Cond) ∈ bw := mw 412 (by decide +kernel) rfl
theorem m_414 : (.instanceMethod ⟨"MoveDesk$Judge", "goOn", "(IIJ)V"⟩ : Cond) ∈ bw := mw 414 (by decide +kernel) rfl
theorem m_415 : (.code ⟨"MoveDesk$Judge", "goOn", "(IIJ)V"⟩ prog_4_method_12_code 7 none : Cond) ∈ bw := mw 415 (by decide +kernel) rfl
theorem m_419 : (.methodLink "MoveDesk$Judge" 124 ⟨"MoveDesk$Code", "constant", "(II)I"⟩ : Cond) ∈ bw := mw 419 (by decide +kernel) rfl
abbrev b_Ju_agesWhere : ByteArray := prog_4_method_2_code
abbrev y_Ju_agesWhere : MethodName := ⟨"MoveDesk$Judge", "agesWhere", "(II)J"⟩
theorem hs_Ju_agesWhere : y_Ju_agesWhere.cls ≠ "java/lang/invoke/MethodHandle" ∧ y_Ju_agesWhere.cls ≠ "java/lang/invoke/VarHandle" ∧ (parseMethodDescriptor y_Ju_agesWhere.desc).map (fun d => d.parameters.length) = some 2 := by decide +kernel
theorem d_Ju_agesWhere_0 : decode b_Ju_agesWhere 0 = .ok (.lconst 0, 1) := by decide +kernel
theorem d_Ju_agesWhere_1 : decode b_Ju_agesWhere 1 = .ok (.lstore_n 2, 1) := by decide +kernel
theorem d_Ju_agesWhere_2 : decode b_Ju_agesWhere 2 = .ok (.iconst 0, 1) := by decide +kernel
theorem d_Ju_agesWhere_3 : decode b_Ju_agesWhere 3 = .ok (.istore 4, 2) := by decide +kernel
theorem d_Ju_agesWhere_5 : decode b_Ju_agesWhere 5 = .ok (.iload 4, 2) := by decide +kernel
theorem d_Ju_agesWhere_7 : decode b_Ju_agesWhere 7 = .ok (.bipush 40, 2) := by decide +kernel
theorem d_Ju_agesWhere_9 : decode b_Ju_agesWhere 9 = .ok (.if_icmp .ge 34, 3) := by decide +kernel
theorem d_Ju_agesWhere_12 : decode b_Ju_agesWhere 12 = .ok (.iload 4, 2) := by decide +kernel
theorem d_Ju_agesWhere_14 : decode b_Ju_agesWhere 14 = .ok (.getstatic 43, 3) := by decide +kernel
theorem d_Ju_agesWhere_17 : decode b_Ju_agesWhere 17 = .ok (.iload_n 0, 1) := by decide +kernel
theorem d_Ju_agesWhere_18 : decode b_Ju_agesWhere 18 = .ok (.iaload, 1) := by decide +kernel
theorem d_Ju_agesWhere_19 : decode b_Ju_agesWhere 19 = .ok (.idiv, 1) := by decide +kernel
theorem d_Ju_agesWhere_20 : decode b_Ju_agesWhere 20 = .ok (.getstatic 46, 3) := by decide +kernel
theorem d_Ju_agesWhere_23 : decode b_Ju_agesWhere 23 = .ok (.iload_n 0, 1) := by decide +kernel
theorem d_Ju_agesWhere_24 : decode b_Ju_agesWhere 24 = .ok (.iaload, 1) := by decide +kernel
theorem d_Ju_agesWhere_25 : decode b_Ju_agesWhere 25 = .ok (.irem, 1) := by decide +kernel
theorem d_Ju_agesWhere_26 : decode b_Ju_agesWhere 26 = .ok (.iload_n 1, 1) := by decide +kernel
theorem d_Ju_agesWhere_27 : decode b_Ju_agesWhere 27 = .ok (.if_icmp .ne 10, 3) := by decide +kernel
theorem d_Ju_agesWhere_30 : decode b_Ju_agesWhere 30 = .ok (.lload_n 2, 1) := by decide +kernel
theorem d_Ju_agesWhere_31 : decode b_Ju_agesWhere 31 = .ok (.lconst 1, 1) := by decide +kernel
theorem d_Ju_agesWhere_32 : decode b_Ju_agesWhere 32 = .ok (.iload 4, 2) := by decide +kernel
theorem d_Ju_agesWhere_34 : decode b_Ju_agesWhere 34 = .ok (.lshl, 1) := by decide +kernel
theorem d_Ju_agesWhere_35 : decode b_Ju_agesWhere 35 = .ok (.lor, 1) := by decide +kernel
theorem d_Ju_agesWhere_36 : decode b_Ju_agesWhere 36 = .ok (.lstore_n 2, 1) := by decide +kernel
theorem d_Ju_agesWhere_37 : decode b_Ju_agesWhere 37 = .ok (.iinc 4 1, 3) := by decide +kernel
theorem d_Ju_agesWhere_40 : decode b_Ju_agesWhere 40 = .ok (.goto (-35), 3) := by decide +kernel
theorem d_Ju_agesWhere_43 : decode b_Ju_agesWhere 43 = .ok (.lload_n 2, 1) := by decide +kernel
theorem d_Ju_agesWhere_44 : decode b_Ju_agesWhere 44 = .ok (.lreturn, 1) := by decide +kernel
abbrev w_co_ta_gu_ju (g : GT) (a_co : Nat) (a_ta : Nat) (a_gu : Nat) (a_so : Nat) (a_cn : Nat) (a_de : Nat) (a_ju : Nat) (a_jb : Nat) (a_ch : Nat) (a_rd : Nat) (a_fr : Nat) (a_ub : Nat) (a_wr : Nat) (r_co : Nat → Int32) (r_ta : Nat → Int32) (r_gu : Nat → Int32) (r_ju : Nat → Int32) : va_W := [kO a_co 1 [.int (r_co 0), .ref a_ta, .ref a_gu, .ref a_so, .ref a_cn, .ref a_de], kI g a_ta 64 r_ta, kI g a_gu 256 r_gu, kO a_ju 2 [.ref a_co, .ref a_jb, .ref a_ch, .ref a_rd, .ref a_fr, .ref a_ub, .ref a_wr, .int (r_ju 7), .int (r_ju 8), .int (r_ju 9)]]
abbrev b_Ju_choicesIn : ByteArray := prog_4_method_6_code
abbrev y_Ju_choicesIn : MethodName := ⟨"MoveDesk$Judge", "choicesIn", "(I)I"⟩
theorem hd_Ju_choicesIn : y_Ju_choicesIn.cls = "MoveDesk$Judge" ∧ y_Ju_choicesIn.cls ≠ "java/lang/invoke/MethodHandle" ∧ y_Ju_choicesIn.cls ≠ "java/lang/invoke/VarHandle" ∧ (parseMethodDescriptor y_Ju_choicesIn.desc).map (fun d => d.parameters.length) = some 1 := by decide +kernel
theorem d_Ju_choicesIn_0 : decode b_Ju_choicesIn 0 = .ok (.iconst 0, 1) := by decide +kernel
theorem d_Ju_choicesIn_1 : decode b_Ju_choicesIn 1 = .ok (.istore_n 2, 1) := by decide +kernel
theorem d_Ju_choicesIn_2 : decode b_Ju_choicesIn 2 = .ok (.iconst 0, 1) := by decide +kernel
theorem d_Ju_choicesIn_3 : decode b_Ju_choicesIn 3 = .ok (.istore_n 3, 1) := by decide +kernel
theorem d_Ju_choicesIn_4 : decode b_Ju_choicesIn 4 = .ok (.iload_n 3, 1) := by decide +kernel
theorem d_Ju_choicesIn_5 : decode b_Ju_choicesIn 5 = .ok (.bipush 16, 2) := by decide +kernel
theorem d_Ju_choicesIn_7 : decode b_Ju_choicesIn 7 = .ok (.if_icmp .ge 23, 3) := by decide +kernel
theorem d_Ju_choicesIn_10 : decode b_Ju_choicesIn 10 = .ok (.iload_n 2, 1) := by decide +kernel
theorem d_Ju_choicesIn_11 : decode b_Ju_choicesIn 11 = .ok (.iconst 1, 1) := by decide +kernel
theorem d_Ju_choicesIn_12 : decode b_Ju_choicesIn 12 = .ok (.aload_n 0, 1) := by decide +kernel
theorem d_Ju_choicesIn_13 : decode b_Ju_choicesIn 13 = .ok (.getfield 35, 3) := by decide +kernel
theorem d_Ju_choicesIn_16 : decode b_Ju_choicesIn 16 = .ok (.iload_n 1, 1) := by decide +kernel
theorem d_Ju_choicesIn_17 : decode b_Ju_choicesIn 17 = .ok (.iload_n 3, 1) := by decide +kernel
theorem d_Ju_choicesIn_18 : decode b_Ju_choicesIn 18 = .ok (.invokevirtual 74, 3) := by decide +kernel
theorem d_Ju_choicesIn_21 : decode b_Ju_choicesIn 21 = .ok (.ishl, 1) := by decide +kernel
theorem d_Ju_choicesIn_22 : decode b_Ju_choicesIn 22 = .ok (.ior, 1) := by decide +kernel
theorem d_Ju_choicesIn_23 : decode b_Ju_choicesIn 23 = .ok (.istore_n 2, 1) := by decide +kernel
theorem d_Ju_choicesIn_24 : decode b_Ju_choicesIn 24 = .ok (.iinc 3 1, 3) := by decide +kernel
theorem d_Ju_choicesIn_27 : decode b_Ju_choicesIn 27 = .ok (.goto (-23), 3) := by decide +kernel
theorem d_Ju_choicesIn_30 : decode b_Ju_choicesIn 30 = .ok (.iload_n 2, 1) := by decide +kernel
theorem d_Ju_choicesIn_31 : decode b_Ju_choicesIn 31 = .ok (.ireturn, 1) := by decide +kernel
abbrev w_ju_rd_fr (g : GT) (a_co : Nat) (a_ju : Nat) (a_jb : Nat) (a_ch : Nat) (a_rd : Nat) (a_fr : Nat) (a_ub : Nat) (a_wr : Nat) (r_ju : Nat → Int32) (r_rd : Nat → Int64) (r_fr : Nat → Int64) : va_W := [kO a_ju 2 [.ref a_co, .ref a_jb, .ref a_ch, .ref a_rd, .ref a_fr, .ref a_ub, .ref a_wr, .int (r_ju 7), .int (r_ju 8), .int (r_ju 9)], kJ g a_rd 576 r_rd, kJ g a_fr 576 r_fr]
abbrev b_Ju_reach : ByteArray := prog_4_method_7_code
abbrev y_Ju_reach : MethodName := ⟨"MoveDesk$Judge", "reach", "(IIJ)V"⟩
theorem hd_Ju_reach : y_Ju_reach.cls = "MoveDesk$Judge" ∧ y_Ju_reach.cls ≠ "java/lang/invoke/MethodHandle" ∧ y_Ju_reach.cls ≠ "java/lang/invoke/VarHandle" ∧ (parseMethodDescriptor y_Ju_reach.desc).map (fun d => d.parameters.length) = some 3 := by decide +kernel
theorem d_Ju_reach_0 : decode b_Ju_reach 0 = .ok (.iload_n 1, 1) := by decide +kernel
theorem d_Ju_reach_1 : decode b_Ju_reach 1 = .ok (.bipush 9, 2) := by decide +kernel
theorem d_Ju_reach_3 : decode b_Ju_reach 3 = .ok (.imul, 1) := by decide +kernel
theorem d_Ju_reach_4 : decode b_Ju_reach 4 = .ok (.iload_n 2, 1) := by decide +kernel
theorem d_Ju_reach_5 : decode b_Ju_reach 5 = .ok (.iadd, 1) := by decide +kernel
theorem d_Ju_reach_6 : decode b_Ju_reach 6 = .ok (.istore 5, 2) := by decide +kernel
theorem d_Ju_reach_8 : decode b_Ju_reach 8 = .ok (.lload_n 3, 1) := by decide +kernel
theorem d_Ju_reach_9 : decode b_Ju_reach 9 = .ok (.aload_n 0, 1) := by decide +kernel
theorem d_Ju_reach_10 : decode b_Ju_reach 10 = .ok (.getfield 22, 3) := by decide +kernel
theorem d_Ju_reach_13 : decode b_Ju_reach 13 = .ok (.iload 5, 2) := by decide +kernel
theorem d_Ju_reach_15 : decode b_Ju_reach 15 = .ok (.laload, 1) := by decide +kernel
theorem d_Ju_reach_16 : decode b_Ju_reach 16 = .ok (.ldc2_w 80, 3) := by decide +kernel
theorem d_Ju_reach_19 : decode b_Ju_reach 19 = .ok (.lxor, 1) := by decide +kernel
theorem d_Ju_reach_20 : decode b_Ju_reach 20 = .ok (.land, 1) := by decide +kernel
theorem d_Ju_reach_21 : decode b_Ju_reach 21 = .ok (.lstore 6, 2) := by decide +kernel
theorem d_Ju_reach_23 : decode b_Ju_reach 23 = .ok (.lload 6, 2) := by decide +kernel
theorem d_Ju_reach_25 : decode b_Ju_reach 25 = .ok (.lconst 0, 1) := by decide +kernel
theorem d_Ju_reach_26 : decode b_Ju_reach 26 = .ok (.lcmp, 1) := by decide +kernel
theorem d_Ju_reach_27 : decode b_Ju_reach 27 = .ok (.ifCond .eq 32, 3) := by decide +kernel
theorem d_Ju_reach_30 : decode b_Ju_reach 30 = .ok (.aload_n 0, 1) := by decide +kernel
theorem d_Ju_reach_31 : decode b_Ju_reach 31 = .ok (.getfield 22, 3) := by decide +kernel
theorem d_Ju_reach_34 : decode b_Ju_reach 34 = .ok (.iload 5, 2) := by decide +kernel
theorem d_Ju_reach_36 : decode b_Ju_reach 36 = .ok (.dup2, 1) := by decide +kernel
theorem d_Ju_reach_37 : decode b_Ju_reach 37 = .ok (.laload, 1) := by decide +kernel
theorem d_Ju_reach_38 : decode b_Ju_reach 38 = .ok (.lload 6, 2) := by decide +kernel
theorem d_Ju_reach_40 : decode b_Ju_reach 40 = .ok (.lor, 1) := by decide +kernel
theorem d_Ju_reach_41 : decode b_Ju_reach 41 = .ok (.lastore, 1) := by decide +kernel
theorem d_Ju_reach_42 : decode b_Ju_reach 42 = .ok (.aload_n 0, 1) := by decide +kernel
theorem d_Ju_reach_43 : decode b_Ju_reach 43 = .ok (.getfield 26, 3) := by decide +kernel
theorem d_Ju_reach_46 : decode b_Ju_reach 46 = .ok (.iload 5, 2) := by decide +kernel
theorem d_Ju_reach_48 : decode b_Ju_reach 48 = .ok (.dup2, 1) := by decide +kernel
theorem d_Ju_reach_49 : decode b_Ju_reach 49 = .ok (.laload, 1) := by decide +kernel
theorem d_Ju_reach_50 : decode b_Ju_reach 50 = .ok (.lload 6, 2) := by decide +kernel
theorem d_Ju_reach_52 : decode b_Ju_reach 52 = .ok (.lor, 1) := by decide +kernel
theorem d_Ju_reach_53 : decode b_Ju_reach 53 = .ok (.lastore, 1) := by decide +kernel
theorem d_Ju_reach_54 : decode b_Ju_reach 54 = .ok (.aload_n 0, 1) := by decide +kernel
theorem d_Ju_reach_55 : decode b_Ju_reach 55 = .ok (.iconst 1, 1) := by decide +kernel
theorem d_Ju_reach_56 : decode b_Ju_reach 56 = .ok (.putfield 52, 3) := by decide +kernel
theorem d_Ju_reach_59 : decode b_Ju_reach 59 = .ok (.return_, 1) := by decide +kernel
abbrev w_co_7_2007 (g : GT) (a_co : Nat) (a_ta : Nat) (a_gu : Nat) (a_so : Nat) (a_cn : Nat) (a_de : Nat) (a_ju : Nat) (a_jb : Nat) (a_ch : Nat) (a_rd : Nat) (a_fr : Nat) (a_ub : Nat) (a_wr : Nat) (r_co : Nat → Int32) (r_ta : Nat → Int32) (r_gu : Nat → Int32) (r_ju : Nat → Int32) (r_ch : Nat → Int32) (r_rd : Nat → Int64) (r_fr : Nat → Int64) : va_W := [kO a_co 1 [.int (r_co 0), .ref a_ta, .ref a_gu, .ref a_so, .ref a_cn, .ref a_de], kI g a_ta 64 r_ta, kI g a_gu 256 r_gu, kO a_ju 2 [.ref a_co, .ref a_jb, .ref a_ch, .ref a_rd, .ref a_fr, .ref a_ub, .ref a_wr, .int (r_ju 7), .int (r_ju 8), .int (r_ju 9)], kI g a_ch 64 r_ch, kJ g a_rd 576 r_rd, kJ g a_fr 576 r_fr]
abbrev b_Ju_start : ByteArray := prog_4_method_5_code
abbrev y_Ju_start : MethodName := ⟨"MoveDesk$Judge", "start", "()V"⟩
theorem hd_Ju_start : y_Ju_start.cls = "MoveDesk$Judge" ∧ y_Ju_start.cls ≠ "java/lang/invoke/MethodHandle" ∧ y_Ju_start.cls ≠ "java/lang/invoke/VarHandle" ∧ (parseMethodDescriptor y_Ju_start.desc).map (fun d => d.parameters.length) = some 0 := by decide +kernel
theorem d_Ju_start_0 : decode b_Ju_start 0 = .ok (.iconst 0, 1) := by decide +kernel
theorem d_Ju_start_1 : decode b_Ju_start 1 = .ok (.istore_n 1, 1) := by decide +kernel
theorem d_Ju_start_2 : decode b_Ju_start 2 = .ok (.iload_n 1, 1) := by decide +kernel
theorem d_Ju_start_3 : decode b_Ju_start 3 = .ok (.sipush 576, 3) := by decide +kernel
theorem d_Ju_start_6 : decode b_Ju_start 6 = .ok (.if_icmp .ge 23, 3) := by decide +kernel
theorem d_Ju_start_9 : decode b_Ju_start 9 = .ok (.aload_n 0, 1) := by decide +kernel
theorem d_Ju_start_10 : decode b_Ju_start 10 = .ok (.getfield 22, 3) := by decide +kernel
theorem d_Ju_start_13 : decode b_Ju_start 13 = .ok (.iload_n 1, 1) := by decide +kernel
theorem d_Ju_start_14 : decode b_Ju_start 14 = .ok (.lconst 0, 1) := by decide +kernel
theorem d_Ju_start_15 : decode b_Ju_start 15 = .ok (.lastore, 1) := by decide +kernel
theorem d_Ju_start_16 : decode b_Ju_start 16 = .ok (.aload_n 0, 1) := by decide +kernel
theorem d_Ju_start_17 : decode b_Ju_start 17 = .ok (.getfield 26, 3) := by decide +kernel
theorem d_Ju_start_20 : decode b_Ju_start 20 = .ok (.iload_n 1, 1) := by decide +kernel
theorem d_Ju_start_21 : decode b_Ju_start 21 = .ok (.lconst 0, 1) := by decide +kernel
theorem d_Ju_start_22 : decode b_Ju_start 22 = .ok (.lastore, 1) := by decide +kernel
theorem d_Ju_start_23 : decode b_Ju_start 23 = .ok (.iinc 1 1, 3) := by decide +kernel
theorem d_Ju_start_26 : decode b_Ju_start 26 = .ok (.goto (-24), 3) := by decide +kernel
theorem d_Ju_start_29 : decode b_Ju_start 29 = .ok (.iconst 0, 1) := by decide +kernel
theorem d_Ju_start_30 : decode b_Ju_start 30 = .ok (.istore_n 1, 1) := by decide +kernel
theorem d_Ju_start_31 : decode b_Ju_start 31 = .ok (.iload_n 1, 1) := by decide +kernel
theorem d_Ju_start_32 : decode b_Ju_start 32 = .ok (.bipush 64, 2) := by decide +kernel
theorem d_Ju_start_34 : decode b_Ju_start 34 = .ok (.if_icmp .ge 20, 3) := by decide +kernel
theorem d_Ju_start_37 : decode b_Ju_start 37 = .ok (.aload_n 0, 1) := by decide +kernel
theorem d_Ju_start_38 : decode b_Ju_start 38 = .ok (.getfield 18, 3) := by decide +kernel
theorem d_Ju_start_41 : decode b_Ju_start 41 = .ok (.iload_n 1, 1) := by decide +kernel
theorem d_Ju_start_42 : decode b_Ju_start 42 = .ok (.aload_n 0, 1) := by decide +kernel
theorem d_Ju_start_43 : decode b_Ju_start 43 = .ok (.iload_n 1, 1) := by decide +kernel
theorem d_Ju_start_44 : decode b_Ju_start 44 = .ok (.invokevirtual 67, 3) := by decide +kernel
theorem d_Ju_start_47 : decode b_Ju_start 47 = .ok (.iastore, 1) := by decide +kernel
theorem d_Ju_start_48 : decode b_Ju_start 48 = .ok (.iinc 1 1, 3) := by decide +kernel
theorem d_Ju_start_51 : decode b_Ju_start 51 = .ok (.goto (-20), 3) := by decide +kernel
theorem d_Ju_start_54 : decode b_Ju_start 54 = .ok (.aload_n 0, 1) := by decide +kernel
theorem d_Ju_start_55 : decode b_Ju_start 55 = .ok (.iconst (-1), 1) := by decide +kernel
theorem d_Ju_start_56 : decode b_Ju_start 56 = .ok (.putfield 60, 3) := by decide +kernel
theorem d_Ju_start_59 : decode b_Ju_start 59 = .ok (.aload_n 0, 1) := by decide +kernel
theorem d_Ju_start_60 : decode b_Ju_start 60 = .ok (.iconst 0, 1) := by decide +kernel
theorem d_Ju_start_61 : decode b_Ju_start 61 = .ok (.putfield 64, 3) := by decide +kernel
theorem d_Ju_start_64 : decode b_Ju_start 64 = .ok (.aload_n 0, 1) := by decide +kernel
theorem d_Ju_start_65 : decode b_Ju_start 65 = .ok (.iconst 0, 1) := by decide +kernel
theorem d_Ju_start_66 : decode b_Ju_start 66 = .ok (.iconst 0, 1) := by decide +kernel
theorem d_Ju_start_67 : decode b_Ju_start 67 = .ok (.lconst 1, 1) := by decide +kernel
theorem d_Ju_start_68 : decode b_Ju_start 68 = .ok (.invokevirtual 71, 3) := by decide +kernel
theorem d_Ju_start_71 : decode b_Ju_start 71 = .ok (.return_, 1) := by decide +kernel
abbrev w_ju (g : GT) (a_co : Nat) (a_ju : Nat) (a_jb : Nat) (a_ch : Nat) (a_rd : Nat) (a_fr : Nat) (a_ub : Nat) (a_wr : Nat) (r_ju : Nat → Int32) : va_W := [kO a_ju 2 [.ref a_co, .ref a_jb, .ref a_ch, .ref a_rd, .ref a_fr, .ref a_ub, .ref a_wr, .int (r_ju 7), .int (r_ju 8), .int (r_ju 9)]]
abbrev b_Ju_blame : ByteArray := prog_4_method_10_code
abbrev y_Ju_blame : MethodName := ⟨"MoveDesk$Judge", "blame", "(II)V"⟩
theorem hd_Ju_blame : y_Ju_blame.cls = "MoveDesk$Judge" ∧ y_Ju_blame.cls ≠ "java/lang/invoke/MethodHandle" ∧ y_Ju_blame.cls ≠ "java/lang/invoke/VarHandle" ∧ (parseMethodDescriptor y_Ju_blame.desc).map (fun d => d.parameters.length) = some 2 := by decide +kernel
theorem d_Ju_blame_0 : decode b_Ju_blame 0 = .ok (.aload_n 0, 1) := by decide +kernel
theorem d_Ju_blame_1 : decode b_Ju_blame 1 = .ok (.getfield 60, 3) := by decide +kernel
theorem d_Ju_blame_4 : decode b_Ju_blame 4 = .ok (.iconst (-1), 1) := by decide +kernel
theorem d_Ju_blame_5 : decode b_Ju_blame 5 = .ok (.if_icmp .eq 11, 3) := by decide +kernel
theorem d_Ju_blame_8 : decode b_Ju_blame 8 = .ok (.iload_n 1, 1) := by decide +kernel
theorem d_Ju_blame_9 : decode b_Ju_blame 9 = .ok (.aload_n 0, 1) := by decide +kernel
theorem d_Ju_blame_10 : decode b_Ju_blame 10 = .ok (.getfield 60, 3) := by decide +kernel
theorem d_Ju_blame_13 : decode b_Ju_blame 13 = .ok (.if_icmp .ge 16, 3) := by decide +kernel
theorem d_Ju_blame_16 : decode b_Ju_blame 16 = .ok (.aload_n 0, 1) := by decide +kernel
theorem d_Ju_blame_17 : decode b_Ju_blame 17 = .ok (.iload_n 1, 1) := by decide +kernel
theorem d_Ju_blame_18 : decode b_Ju_blame 18 = .ok (.putfield 60, 3) := by decide +kernel
theorem d_Ju_blame_21 : decode b_Ju_blame 21 = .ok (.aload_n 0, 1) := by decide +kernel
theorem d_Ju_blame_22 : decode b_Ju_blame 22 = .ok (.iload_n 2, 1) := by decide +kernel
theorem d_Ju_blame_23 : decode b_Ju_blame 23 = .ok (.putfield 64, 3) := by decide +kernel
theorem d_Ju_blame_26 : decode b_Ju_blame 26 = .ok (.goto 23, 3) := by decide +kernel
theorem d_Ju_blame_29 : decode b_Ju_blame 29 = .ok (.iload_n 1, 1) := by decide +kernel
theorem d_Ju_blame_30 : decode b_Ju_blame 30 = .ok (.aload_n 0, 1) := by decide +kernel
theorem d_Ju_blame_31 : decode b_Ju_blame 31 = .ok (.getfield 60, 3) := by decide +kernel
theorem d_Ju_blame_34 : decode b_Ju_blame 34 = .ok (.if_icmp .ne 15, 3) := by decide +kernel
theorem d_Ju_blame_37 : decode b_Ju_blame 37 = .ok (.aload_n 0, 1) := by decide +kernel
theorem d_Ju_blame_38 : decode b_Ju_blame 38 = .ok (.aload_n 0, 1) := by decide +kernel
theorem d_Ju_blame_39 : decode b_Ju_blame 39 = .ok (.getfield 64, 3) := by decide +kernel
theorem d_Ju_blame_42 : decode b_Ju_blame 42 = .ok (.iload_n 2, 1) := by decide +kernel
theorem d_Ju_blame_43 : decode b_Ju_blame 43 = .ok (.invokestatic 113, 3) := by decide +kernel
theorem d_Ju_blame_46 : decode b_Ju_blame 46 = .ok (.putfield 64, 3) := by decide +kernel
theorem d_Ju_blame_49 : decode b_Ju_blame 49 = .ok (.return_, 1) := by decide +kernel
abbrev w_ju_jb_ub_wr (g : GT) (a_co : Nat) (a_ju : Nat) (a_jb : Nat) (a_ch : Nat) (a_rd : Nat) (a_fr : Nat) (a_ub : Nat) (a_wr : Nat) (r_ju : Nat → Int32) (r_jb : Nat → Int32) (r_ub : Nat → Int64) (r_wr : Nat → Int64) : va_W := [kO a_ju 2 [.ref a_co, .ref a_jb, .ref a_ch, .ref a_rd, .ref a_fr, .ref a_ub, .ref a_wr, .int (r_ju 7), .int (r_ju 8), .int (r_ju 9)], kO a_jb 0 [.int (r_jb 0), .int (r_jb 1), .int (r_jb 2), .int (r_jb 3), .int (r_jb 4), .int (r_jb 5), .int (r_jb 6), .int (r_jb 7)], kJ g a_ub 3 r_ub, kJ g a_wr 3 r_wr]
abbrev b_Ju_older : ByteArray := prog_4_method_11_code
abbrev y_Ju_older : MethodName := ⟨"MoveDesk$Judge", "older", "(J)J"⟩
theorem hd_Ju_older : y_Ju_older.cls = "MoveDesk$Judge" ∧ y_Ju_older.cls ≠ "java/lang/invoke/MethodHandle" ∧ y_Ju_older.cls ≠ "java/lang/invoke/VarHandle" ∧ (parseMethodDescriptor y_Ju_older.desc).map (fun d => d.parameters.length) = some 1 := by decide +kernel
theorem d_Ju_older_0 : decode b_Ju_older 0 = .ok (.lload_n 1, 1) := by decide +kernel
theorem d_Ju_older_1 : decode b_Ju_older 1 = .ok (.lstore_n 3, 1) := by decide +kernel
theorem d_Ju_older_2 : decode b_Ju_older 2 = .ok (.iconst 0, 1) := by decide +kernel
theorem d_Ju_older_3 : decode b_Ju_older 3 = .ok (.istore 5, 2) := by decide +kernel
theorem d_Ju_older_5 : decode b_Ju_older 5 = .ok (.iload 5, 2) := by decide +kernel
theorem d_Ju_older_7 : decode b_Ju_older 7 = .ok (.iconst 3, 1) := by decide +kernel
theorem d_Ju_older_8 : decode b_Ju_older 8 = .ok (.if_icmp .ge 66, 3) := by decide +kernel
theorem d_Ju_older_11 : decode b_Ju_older 11 = .ok (.aload_n 0, 1) := by decide +kernel
theorem d_Ju_older_12 : decode b_Ju_older 12 = .ok (.getfield 32, 3) := by decide +kernel
theorem d_Ju_older_15 : decode b_Ju_older 15 = .ok (.iload 5, 2) := by decide +kernel
theorem d_Ju_older_17 : decode b_Ju_older 17 = .ok (.laload, 1) := by decide +kernel
theorem d_Ju_older_18 : decode b_Ju_older 18 = .ok (.lstore 6, 2) := by decide +kernel
theorem d_Ju_older_20 : decode b_Ju_older 20 = .ok (.aload_n 0, 1) := by decide +kernel
theorem d_Ju_older_21 : decode b_Ju_older 21 = .ok (.getfield 14, 3) := by decide +kernel
theorem d_Ju_older_24 : decode b_Ju_older 24 = .ok (.getfield 118, 3) := by decide +kernel
theorem d_Ju_older_27 : decode b_Ju_older 27 = .ok (.iload 5, 2) := by decide +kernel
theorem d_Ju_older_29 : decode b_Ju_older 29 = .ok (.ishr, 1) := by decide +kernel
theorem d_Ju_older_30 : decode b_Ju_older 30 = .ok (.iconst 1, 1) := by decide +kernel
theorem d_Ju_older_31 : decode b_Ju_older 31 = .ok (.iand, 1) := by decide +kernel
theorem d_Ju_older_32 : decode b_Ju_older 32 = .ok (.ifCond .ne 15, 3) := by decide +kernel
theorem d_Ju_older_35 : decode b_Ju_older 35 = .ok (.lload 6, 2) := by decide +kernel
theorem d_Ju_older_37 : decode b_Ju_older 37 = .ok (.aload_n 0, 1) := by decide +kernel
theorem d_Ju_older_38 : decode b_Ju_older 38 = .ok (.getfield 29, 3) := by decide +kernel
theorem d_Ju_older_41 : decode b_Ju_older 41 = .ok (.iload 5, 2) := by decide +kernel
theorem d_Ju_older_43 : decode b_Ju_older 43 = .ok (.laload, 1) := by decide +kernel
theorem d_Ju_older_44 : decode b_Ju_older 44 = .ok (.lor, 1) := by decide +kernel
theorem d_Ju_older_45 : decode b_Ju_older 45 = .ok (.lstore 6, 2) := by decide +kernel
theorem d_Ju_older_47 : decode b_Ju_older 47 = .ok (.lload_n 3, 1) := by decide +kernel
theorem d_Ju_older_48 : decode b_Ju_older 48 = .ok (.lload 6, 2) := by decide +kernel
theorem d_Ju_older_50 : decode b_Ju_older 50 = .ok (.land, 1) := by decide +kernel
theorem d_Ju_older_51 : decode b_Ju_older 51 = .ok (.lload_n 3, 1) := by decide +kernel
theorem d_Ju_older_52 : decode b_Ju_older 52 = .ok (.lload 6, 2) := by decide +kernel
theorem d_Ju_older_54 : decode b_Ju_older 54 = .ok (.ldc2_w 80, 3) := by decide +kernel
theorem d_Ju_older_57 : decode b_Ju_older 57 = .ok (.lxor, 1) := by decide +kernel
theorem d_Ju_older_58 : decode b_Ju_older 58 = .ok (.land, 1) := by decide +kernel
theorem d_Ju_older_59 : decode b_Ju_older 59 = .ok (.getstatic 43, 3) := by decide +kernel
theorem d_Ju_older_62 : decode b_Ju_older 62 = .ok (.iload 5, 2) := by decide +kernel
theorem d_Ju_older_64 : decode b_Ju_older 64 = .ok (.iaload, 1) := by decide +kernel
theorem d_Ju_older_65 : decode b_Ju_older 65 = .ok (.lshl, 1) := by decide +kernel
theorem d_Ju_older_66 : decode b_Ju_older 66 = .ok (.lor, 1) := by decide +kernel
theorem d_Ju_older_67 : decode b_Ju_older 67 = .ok (.lstore_n 3, 1) := by decide +kernel
theorem d_Ju_older_68 : decode b_Ju_older 68 = .ok (.iinc 5 1, 3) := by decide +kernel
theorem d_Ju_older_71 : decode b_Ju_older 71 = .ok (.goto (-66), 3) := by decide +kernel
theorem d_Ju_older_74 : decode b_Ju_older 74 = .ok (.lload_n 3, 1) := by decide +kernel
theorem d_Ju_older_75 : decode b_Ju_older 75 = .ok (.lreturn, 1) := by decide +kernel
abbrev w_co_cn_ju_jb_rd_fr (g : GT) (a_co : Nat) (a_ta : Nat) (a_gu : Nat) (a_so : Nat) (a_cn : Nat) (a_de : Nat) (a_ju : Nat) (a_jb : Nat) (a_ch : Nat) (a_rd : Nat) (a_fr : Nat) (a_ub : Nat) (a_wr : Nat) (r_co : Nat → Int32) (r_cn : Nat → Int32) (r_ju : Nat → Int32) (r_jb : Nat → Int32) (r_rd : Nat → Int64) (r_fr : Nat → Int64) : va_W := [kO a_co 1 [.int (r_co 0), .ref a_ta, .ref a_gu, .ref a_so, .ref a_cn, .ref a_de], kI g a_cn 256 r_cn, kO a_ju 2 [.ref a_co, .ref a_jb, .ref a_ch, .ref a_rd, .ref a_fr, .ref a_ub, .ref a_wr, .int (r_ju 7), .int (r_ju 8), .int (r_ju 9)], kO a_jb 0 [.int (r_jb 0), .int (r_jb 1), .int (r_jb 2), .int (r_jb 3), .int (r_jb 4), .int (r_jb 5), .int (r_jb 6), .int (r_jb 7)], kJ g a_rd 576 r_rd, kJ g a_fr 576 r_fr]
abbrev b_Ju_goOn : ByteArray := prog_4_method_12_code
abbrev y_Ju_goOn : MethodName := ⟨"MoveDesk$Judge", "goOn", "(IIJ)V"⟩
theorem hd_Ju_goOn : y_Ju_goOn.cls = "MoveDesk$Judge" ∧ y_Ju_goOn.cls ≠ "java/lang/invoke/MethodHandle" ∧ y_Ju_goOn.cls ≠ "java/lang/invoke/VarHandle" ∧ (parseMethodDescriptor y_Ju_goOn.desc).map (fun d => d.parameters.length) = some 3 := by decide +kernel
theorem d_Ju_goOn_0 : decode b_Ju_goOn 0 = .ok (.iload_n 1, 1) := by decide +kernel
theorem d_Ju_goOn_1 : decode b_Ju_goOn 1 = .ok (.iconst 1, 1) := by decide +kernel
theorem d_Ju_goOn_2 : decode b_Ju_goOn 2 = .ok (.iadd, 1) := by decide +kernel
theorem d_Ju_goOn_3 : decode b_Ju_goOn 3 = .ok (.invokestatic 121, 3) := by decide +kernel
theorem d_Ju_goOn_6 : decode b_Ju_goOn 6 = .ok (.istore 5, 2) := by decide +kernel
theorem d_Ju_goOn_8 : decode b_Ju_goOn 8 = .ok (.iload_n 2, 1) := by decide +kernel
theorem d_Ju_goOn_9 : decode b_Ju_goOn 9 = .ok (.iconst 4, 1) := by decide +kernel
theorem d_Ju_goOn_10 : decode b_Ju_goOn 10 = .ok (.if_icmp .le 37, 3) := by decide +kernel
theorem d_Ju_goOn_13 : decode b_Ju_goOn 13 = .ok (.iload_n 1, 1) := by decide +kernel
theorem d_Ju_goOn_14 : decode b_Ju_goOn 14 = .ok (.iconst 2, 1) := by decide +kernel
theorem d_Ju_goOn_15 : decode b_Ju_goOn 15 = .ok (.isub, 1) := by decide +kernel
theorem d_Ju_goOn_16 : decode b_Ju_goOn 16 = .ok (.invokestatic 121, 3) := by decide +kernel
theorem d_Ju_goOn_19 : decode b_Ju_goOn 19 = .ok (.istore 6, 2) := by decide +kernel
theorem d_Ju_goOn_21 : decode b_Ju_goOn 21 = .ok (.aload_n 0, 1) := by decide +kernel
theorem d_Ju_goOn_22 : decode b_Ju_goOn 22 = .ok (.aload_n 0, 1) := by decide +kernel
theorem d_Ju_goOn_23 : decode b_Ju_goOn 23 = .ok (.getfield 35, 3) := by decide +kernel
theorem d_Ju_goOn_26 : decode b_Ju_goOn 26 = .ok (.iload 6, 2) := by decide +kernel
theorem d_Ju_goOn_28 : decode b_Ju_goOn 28 = .ok (.iload_n 2, 1) := by decide +kernel
theorem d_Ju_goOn_29 : decode b_Ju_goOn 29 = .ok (.iconst 1, 1) := by decide +kernel
theorem d_Ju_goOn_30 : decode b_Ju_goOn 30 = .ok (.isub, 1) := by decide +kernel
theorem d_Ju_goOn_31 : decode b_Ju_goOn 31 = .ok (.iconst 4, 1) := by decide +kernel
theorem d_Ju_goOn_32 : decode b_Ju_goOn 32 = .ok (.isub, 1) := by decide +kernel
theorem d_Ju_goOn_33 : decode b_Ju_goOn 33 = .ok (.invokevirtual 124, 3) := by decide +kernel
theorem d_Ju_goOn_36 : decode b_Ju_goOn 36 = .ok (.invokestatic 121, 3) := by decide +kernel
theorem d_Ju_goOn_39 : decode b_Ju_goOn 39 = .ok (.iconst 0, 1) := by decide +kernel
theorem d_Ju_goOn_40 : decode b_Ju_goOn 40 = .ok (.lload_n 3, 1) := by decide +kernel
theorem d_Ju_goOn_41 : decode b_Ju_goOn 41 = .ok (.invokevirtual 71, 3) := by decide +kernel
theorem d_Ju_goOn_44 : decode b_Ju_goOn 44 = .ok (.goto 51, 3) := by decide +kernel
theorem d_Ju_goOn_47 : decode b_Ju_goOn 47 = .ok (.iload_n 2, 1) := by decide +kernel
theorem d_Ju_goOn_48 : decode b_Ju_goOn 48 = .ok (.ifCond .le 16, 3) := by decide +kernel
theorem d_Ju_goOn_51 : decode b_Ju_goOn 51 = .ok (.aload_n 0, 1) := by decide +kernel
theorem d_Ju_goOn_52 : decode b_Ju_goOn 52 = .ok (.iload 5, 2) := by decide +kernel
theorem d_Ju_goOn_54 : decode b_Ju_goOn 54 = .ok (.iload_n 2, 1) := by decide +kernel
theorem d_Ju_goOn_55 : decode b_Ju_goOn 55 = .ok (.iconst 4, 1) := by decide +kernel
theorem d_Ju_goOn_56 : decode b_Ju_goOn 56 = .ok (.iadd, 1) := by decide +kernel
theorem d_Ju_goOn_57 : decode b_Ju_goOn 57 = .ok (.lload_n 3, 1) := by decide +kernel
theorem d_Ju_goOn_58 : decode b_Ju_goOn 58 = .ok (.invokevirtual 71, 3) := by decide +kernel
theorem d_Ju_goOn_61 : decode b_Ju_goOn 61 = .ok (.goto 34, 3) := by decide +kernel
theorem d_Ju_goOn_64 : decode b_Ju_goOn 64 = .ok (.aload_n 0, 1) := by decide +kernel
theorem d_Ju_goOn_65 : decode b_Ju_goOn 65 = .ok (.iload 5, 2) := by decide +kernel
theorem d_Ju_goOn_67 : decode b_Ju_goOn 67 = .ok (.aload_n 0, 1) := by decide +kernel
theorem d_Ju_goOn_68 : decode b_Ju_goOn 68 = .ok (.getfield 14, 3) := by decide +kernel
theorem d_Ju_goOn_71 : decode b_Ju_goOn 71 = .ok (.getfield 127, 3) := by decide +kernel
theorem d_Ju_goOn_74 : decode b_Ju_goOn 74 = .ok (.iconst (-1), 1) := by decide +kernel
theorem d_Ju_goOn_75 : decode b_Ju_goOn 75 = .ok (.if_icmp .ne 7, 3) := by decide +kernel
theorem d_Ju_goOn_78 : decode b_Ju_goOn 78 = .ok (.iconst 0, 1) := by decide +kernel
theorem d_Ju_goOn_79 : decode b_Ju_goOn 79 = .ok (.goto 12, 3) := by decide +kernel
theorem d_Ju_goOn_82 : decode b_Ju_goOn 82 = .ok (.iconst 1, 1) := by decide +kernel
theorem d_Ju_goOn_83 : decode b_Ju_goOn 83 = .ok (.aload_n 0, 1) := by decide +kernel
theorem d_Ju_goOn_84 : decode b_Ju_goOn 84 = .ok (.getfield 14, 3) := by decide +kernel
theorem d_Ju_goOn_87 : decode b_Ju_goOn 87 = .ok (.getfield 127, 3) := by decide +kernel
theorem d_Ju_goOn_90 : decode b_Ju_goOn 90 = .ok (.iadd, 1) := by decide +kernel
theorem d_Ju_goOn_91 : decode b_Ju_goOn 91 = .ok (.lload_n 3, 1) := by decide +kernel
theorem d_Ju_goOn_92 : decode b_Ju_goOn 92 = .ok (.invokevirtual 71, 3) := by decide +kernel
theorem d_Ju_goOn_95 : decode b_Ju_goOn 95 = .ok (.return_, 1) := by decide +kernel
abbrev w_co_8_94a6 (g : GT) (a_co : Nat) (a_ta : Nat) (a_gu : Nat) (a_so : Nat) (a_cn : Nat) (a_de : Nat) (a_ju : Nat) (a_jb : Nat) (a_ch : Nat) (a_rd : Nat) (a_fr : Nat) (a_ub : Nat) (a_wr : Nat) (r_co : Nat → Int32) (r_cn : Nat → Int32) (r_ju : Nat → Int32) (r_jb : Nat → Int32) (r_rd : Nat → Int64) (r_fr : Nat → Int64) (r_ub : Nat → Int64) (r_wr : Nat → Int64) : va_W := [kO a_co 1 [.int (r_co 0), .ref a_ta, .ref a_gu, .ref a_so, .ref a_cn, .ref a_de], kI g a_cn 256 r_cn, kO a_ju 2 [.ref a_co, .ref a_jb, .ref a_ch, .ref a_rd, .ref a_fr, .ref a_ub, .ref a_wr, .int (r_ju 7), .int (r_ju 8), .int (r_ju 9)], kO a_jb 0 [.int (r_jb 0), .int (r_jb 1), .int (r_jb 2), .int (r_jb 3), .int (r_jb 4), .int (r_jb 5), .int (r_jb 6), .int (r_jb 7)], kJ g a_rd 576 r_rd, kJ g a_fr 576 r_fr, kJ g a_ub 3 r_ub, kJ g a_wr 3 r_wr]
abbrev b_Ju_leaveBy : ByteArray := prog_4_method_9_code
abbrev y_Ju_leaveBy : MethodName := ⟨"MoveDesk$Judge", "leaveBy", "(IIJ)V"⟩
theorem hd_Ju_leaveBy : y_Ju_leaveBy.cls = "MoveDesk$Judge" ∧ y_Ju_leaveBy.cls ≠ "java/lang/invoke/MethodHandle" ∧ y_Ju_leaveBy.cls ≠ "java/lang/invoke/VarHandle" ∧ (parseMethodDescriptor y_Ju_leaveBy.desc).map (fun d => d.parameters.length) = some 3 := by decide +kernel
theorem d_Ju_leaveBy_0 : decode b_Ju_leaveBy 0 = .ok (.lload_n 3, 1) := by decide +kernel
theorem d_Ju_leaveBy_1 : decode b_Ju_leaveBy 1 = .ok (.lstore 5, 2) := by decide +kernel
theorem d_Ju_leaveBy_3 : decode b_Ju_leaveBy 3 = .ok (.iconst 0, 1) := by decide +kernel
theorem d_Ju_leaveBy_4 : decode b_Ju_leaveBy 4 = .ok (.istore 7, 2) := by decide +kernel
theorem d_Ju_leaveBy_6 : decode b_Ju_leaveBy 6 = .ok (.iload 7, 2) := by decide +kernel
theorem d_Ju_leaveBy_8 : decode b_Ju_leaveBy 8 = .ok (.iconst 3, 1) := by decide +kernel
theorem d_Ju_leaveBy_9 : decode b_Ju_leaveBy 9 = .ok (.if_icmp .ge 36, 3) := by decide +kernel
theorem d_Ju_leaveBy_12 : decode b_Ju_leaveBy 12 = .ok (.aload_n 0, 1) := by decide +kernel
theorem d_Ju_leaveBy_13 : decode b_Ju_leaveBy 13 = .ok (.getfield 14, 3) := by decide +kernel
theorem d_Ju_leaveBy_16 : decode b_Ju_leaveBy 16 = .ok (.getfield 89, 3) := by decide +kernel
theorem d_Ju_leaveBy_19 : decode b_Ju_leaveBy 19 = .ok (.iload 7, 2) := by decide +kernel
theorem d_Ju_leaveBy_21 : decode b_Ju_leaveBy 21 = .ok (.ishr, 1) := by decide +kernel
theorem d_Ju_leaveBy_22 : decode b_Ju_leaveBy 22 = .ok (.iconst 1, 1) := by decide +kernel
theorem d_Ju_leaveBy_23 : decode b_Ju_leaveBy 23 = .ok (.iand, 1) := by decide +kernel
theorem d_Ju_leaveBy_24 : decode b_Ju_leaveBy 24 = .ok (.ifCond .eq 15, 3) := by decide +kernel
theorem d_Ju_leaveBy_27 : decode b_Ju_leaveBy 27 = .ok (.lload 5, 2) := by decide +kernel
theorem d_Ju_leaveBy_29 : decode b_Ju_leaveBy 29 = .ok (.aload_n 0, 1) := by decide +kernel
theorem d_Ju_leaveBy_30 : decode b_Ju_leaveBy 30 = .ok (.getfield 32, 3) := by decide +kernel
theorem d_Ju_leaveBy_33 : decode b_Ju_leaveBy 33 = .ok (.iload 7, 2) := by decide +kernel
theorem d_Ju_leaveBy_35 : decode b_Ju_leaveBy 35 = .ok (.laload, 1) := by decide +kernel
theorem d_Ju_leaveBy_36 : decode b_Ju_leaveBy 36 = .ok (.land, 1) := by decide +kernel
theorem d_Ju_leaveBy_37 : decode b_Ju_leaveBy 37 = .ok (.lstore 5, 2) := by decide +kernel
theorem d_Ju_leaveBy_39 : decode b_Ju_leaveBy 39 = .ok (.iinc 7 1, 3) := by decide +kernel
theorem d_Ju_leaveBy_42 : decode b_Ju_leaveBy 42 = .ok (.goto (-36), 3) := by decide +kernel
theorem d_Ju_leaveBy_45 : decode b_Ju_leaveBy 45 = .ok (.lload 5, 2) := by decide +kernel
theorem d_Ju_leaveBy_47 : decode b_Ju_leaveBy 47 = .ok (.lload_n 3, 1) := by decide +kernel
theorem d_Ju_leaveBy_48 : decode b_Ju_leaveBy 48 = .ok (.lcmp, 1) := by decide +kernel
theorem d_Ju_leaveBy_49 : decode b_Ju_leaveBy 49 = .ok (.ifCond .eq 25, 3) := by decide +kernel
theorem d_Ju_leaveBy_52 : decode b_Ju_leaveBy 52 = .ok (.aload_n 0, 1) := by decide +kernel
theorem d_Ju_leaveBy_53 : decode b_Ju_leaveBy 53 = .ok (.iload_n 1, 1) := by decide +kernel
theorem d_Ju_leaveBy_54 : decode b_Ju_leaveBy 54 = .ok (.aload_n 0, 1) := by decide +kernel
theorem d_Ju_leaveBy_55 : decode b_Ju_leaveBy 55 = .ok (.getfield 14, 3) := by decide +kernel
theorem d_Ju_leaveBy_58 : decode b_Ju_leaveBy 58 = .ok (.iconst 0, 1) := by decide +kernel
theorem d_Ju_leaveBy_59 : decode b_Ju_leaveBy 59 = .ok (.iload_n 2, 1) := by decide +kernel
theorem d_Ju_leaveBy_60 : decode b_Ju_leaveBy 60 = .ok (.ifCond .eq 7, 3) := by decide +kernel
theorem d_Ju_leaveBy_63 : decode b_Ju_leaveBy 63 = .ok (.iconst 1, 1) := by decide +kernel
theorem d_Ju_leaveBy_64 : decode b_Ju_leaveBy 64 = .ok (.goto 4, 3) := by decide +kernel
theorem d_Ju_leaveBy_67 : decode b_Ju_leaveBy 67 = .ok (.iconst 0, 1) := by decide +kernel
theorem d_Ju_leaveBy_68 : decode b_Ju_leaveBy 68 = .ok (.invokevirtual 92, 3) := by decide +kernel
theorem d_Ju_leaveBy_71 : decode b_Ju_leaveBy 71 = .ok (.invokevirtual 96, 3) := by decide +kernel
theorem d_Ju_leaveBy_74 : decode b_Ju_leaveBy 74 = .ok (.lload 5, 2) := by decide +kernel
theorem d_Ju_leaveBy_76 : decode b_Ju_leaveBy 76 = .ok (.lconst 0, 1) := by decide +kernel
theorem d_Ju_leaveBy_77 : decode b_Ju_leaveBy 77 = .ok (.lcmp, 1) := by decide +kernel
theorem d_Ju_leaveBy_78 : decode b_Ju_leaveBy 78 = .ok (.ifCond .ne 4, 3) := by decide +kernel
theorem d_Ju_leaveBy_81 : decode b_Ju_leaveBy 81 = .ok (.return_, 1) := by decide +kernel
theorem d_Ju_leaveBy_82 : decode b_Ju_leaveBy 82 = .ok (.aload_n 0, 1) := by decide +kernel
theorem d_Ju_leaveBy_83 : decode b_Ju_leaveBy 83 = .ok (.getfield 14, 3) := by decide +kernel
theorem d_Ju_leaveBy_86 : decode b_Ju_leaveBy 86 = .ok (.bipush 7, 2) := by decide +kernel
theorem d_Ju_leaveBy_88 : decode b_Ju_leaveBy 88 = .ok (.iload_n 2, 1) := by decide +kernel
theorem d_Ju_leaveBy_89 : decode b_Ju_leaveBy 89 = .ok (.ifCond .eq 7, 3) := by decide +kernel
theorem d_Ju_leaveBy_92 : decode b_Ju_leaveBy 92 = .ok (.iconst 1, 1) := by decide +kernel
theorem d_Ju_leaveBy_93 : decode b_Ju_leaveBy 93 = .ok (.goto 4, 3) := by decide +kernel
theorem d_Ju_leaveBy_96 : decode b_Ju_leaveBy 96 = .ok (.iconst 0, 1) := by decide +kernel
theorem d_Ju_leaveBy_97 : decode b_Ju_leaveBy 97 = .ok (.invokevirtual 92, 3) := by decide +kernel
theorem d_Ju_leaveBy_100 : decode b_Ju_leaveBy 100 = .ok (.istore 7, 2) := by decide +kernel
theorem d_Ju_leaveBy_102 : decode b_Ju_leaveBy 102 = .ok (.iload 7, 2) := by decide +kernel
theorem d_Ju_leaveBy_104 : decode b_Ju_leaveBy 104 = .ok (.ifCond .ne 16, 3) := by decide +kernel
theorem d_Ju_leaveBy_107 : decode b_Ju_leaveBy 107 = .ok (.aload_n 0, 1) := by decide +kernel
theorem d_Ju_leaveBy_108 : decode b_Ju_leaveBy 108 = .ok (.getfield 14, 3) := by decide +kernel
theorem d_Ju_leaveBy_111 : decode b_Ju_leaveBy 111 = .ok (.getfield 100, 3) := by decide +kernel
theorem d_Ju_leaveBy_114 : decode b_Ju_leaveBy 114 = .ok (.ifCond .eq 6, 3) := by decide +kernel
theorem d_Ju_leaveBy_117 : decode b_Ju_leaveBy 117 = .ok (.iconst 5, 1) := by decide +kernel
theorem d_Ju_leaveBy_118 : decode b_Ju_leaveBy 118 = .ok (.istore 7, 2) := by decide +kernel
theorem d_Ju_leaveBy_120 : decode b_Ju_leaveBy 120 = .ok (.iload 7, 2) := by decide +kernel
theorem d_Ju_leaveBy_122 : decode b_Ju_leaveBy 122 = .ok (.ifCond .eq 13, 3) := by decide +kernel
theorem d_Ju_leaveBy_125 : decode b_Ju_leaveBy 125 = .ok (.aload_n 0, 1) := by decide +kernel
theorem d_Ju_leaveBy_126 : decode b_Ju_leaveBy 126 = .ok (.iload_n 1, 1) := by decide +kernel
theorem d_Ju_leaveBy_127 : decode b_Ju_leaveBy 127 = .ok (.iload 7, 2) := by decide +kernel
theorem d_Ju_leaveBy_129 : decode b_Ju_leaveBy 129 = .ok (.invokevirtual 96, 3) := by decide +kernel
theorem d_Ju_leaveBy_132 : decode b_Ju_leaveBy 132 = .ok (.goto 25, 3) := by decide +kernel
theorem d_Ju_leaveBy_135 : decode b_Ju_leaveBy 135 = .ok (.aload_n 0, 1) := by decide +kernel
theorem d_Ju_leaveBy_136 : decode b_Ju_leaveBy 136 = .ok (.getfield 14, 3) := by decide +kernel
theorem d_Ju_leaveBy_139 : decode b_Ju_leaveBy 139 = .ok (.getfield 103, 3) := by decide +kernel
theorem d_Ju_leaveBy_142 : decode b_Ju_leaveBy 142 = .ok (.ifCond .ne 15, 3) := by decide +kernel
theorem d_Ju_leaveBy_145 : decode b_Ju_leaveBy 145 = .ok (.aload_n 0, 1) := by decide +kernel
theorem d_Ju_leaveBy_146 : decode b_Ju_leaveBy 146 = .ok (.iload_n 1, 1) := by decide +kernel
theorem d_Ju_leaveBy_147 : decode b_Ju_leaveBy 147 = .ok (.iload_n 2, 1) := by decide +kernel
theorem d_Ju_leaveBy_148 : decode b_Ju_leaveBy 148 = .ok (.aload_n 0, 1) := by decide +kernel
theorem d_Ju_leaveBy_149 : decode b_Ju_leaveBy 149 = .ok (.lload 5, 2) := by decide +kernel
theorem d_Ju_leaveBy_151 : decode b_Ju_leaveBy 151 = .ok (.invokevirtual 106, 3) := by decide +kernel
theorem d_Ju_leaveBy_154 : decode b_Ju_leaveBy 154 = .ok (.invokevirtual 110, 3) := by decide +kernel
theorem d_Ju_leaveBy_157 : decode b_Ju_leaveBy 157 = .ok (.return_, 1) := by decide +kernel
abbrev w_co_11_2f7c (g : GT) (a_co : Nat) (a_ta : Nat) (a_gu : Nat) (a_so : Nat) (a_cn : Nat) (a_de : Nat) (a_ju : Nat) (a_jb : Nat) (a_ch : Nat) (a_rd : Nat) (a_fr : Nat) (a_ub : Nat) (a_wr : Nat) (r_co : Nat → Int32) (r_so : Nat → Int32) (r_cn : Nat → Int32) (r_de : Nat → Int32) (r_ju : Nat → Int32) (r_jb : Nat → Int32) (r_ch : Nat → Int32) (r_rd : Nat → Int64) (r_fr : Nat → Int64) (r_ub : Nat → Int64) (r_wr : Nat → Int64) : va_W := [kO a_co 1 [.int (r_co 0), .ref a_ta, .ref a_gu, .ref a_so, .ref a_cn, .ref a_de], kI g a_so 256 r_so, kI g a_cn 256 r_cn, kI g a_de 256 r_de, kO a_ju 2 [.ref a_co, .ref a_jb, .ref a_ch, .ref a_rd, .ref a_fr, .ref a_ub, .ref a_wr, .int (r_ju 7), .int (r_ju 8), .int (r_ju 9)], kO a_jb 0 [.int (r_jb 0), .int (r_jb 1), .int (r_jb 2), .int (r_jb 3), .int (r_jb 4), .int (r_jb 5), .int (r_jb 6), .int (r_jb 7)], kI g a_ch 64 r_ch, kJ g a_rd 576 r_rd, kJ g a_fr 576 r_fr, kJ g a_ub 3 r_ub, kJ g a_wr 3 r_wr]
abbrev b_Ju_leave : ByteArray := prog_4_method_8_code
abbrev y_Ju_leave : MethodName := ⟨"MoveDesk$Judge", "leave", "(IIJ)V"⟩
theorem hd_Ju_leave : y_Ju_leave.cls = "MoveDesk$Judge" ∧ y_Ju_leave.cls ≠ "java/lang/invoke/MethodHandle" ∧ y_Ju_leave.cls ≠ "java/lang/invoke/VarHandle" ∧ (parseMethodDescriptor y_Ju_leave.desc).map (fun d => d.parameters.length) = some 3 := by decide +kernel
theorem d_Ju_leave_0 : decode b_Ju_leave 0 = .ok (.iconst 0, 1) := by decide +kernel
theorem d_Ju_leave_1 : decode b_Ju_leave 1 = .ok (.istore 5, 2) := by decide +kernel
theorem d_Ju_leave_3 : decode b_Ju_leave 3 = .ok (.iload 5, 2) := by decide +kernel
theorem d_Ju_leave_5 : decode b_Ju_leave 5 = .ok (.bipush 16, 2) := by decide +kernel
theorem d_Ju_leave_7 : decode b_Ju_leave 7 = .ok (.if_icmp .ge 44, 3) := by decide +kernel
theorem d_Ju_leave_10 : decode b_Ju_leave 10 = .ok (.aload_n 0, 1) := by decide +kernel
theorem d_Ju_leave_11 : decode b_Ju_leave 11 = .ok (.getfield 18, 3) := by decide +kernel
theorem d_Ju_leave_14 : decode b_Ju_leave 14 = .ok (.iload_n 1, 1) := by decide +kernel
theorem d_Ju_leave_15 : decode b_Ju_leave 15 = .ok (.iaload, 1) := by decide +kernel
theorem d_Ju_leave_16 : decode b_Ju_leave 16 = .ok (.iload 5, 2) := by decide +kernel
theorem d_Ju_leave_18 : decode b_Ju_leave 18 = .ok (.ishr, 1) := by decide +kernel
theorem d_Ju_leave_19 : decode b_Ju_leave 19 = .ok (.iconst 1, 1) := by decide +kernel
theorem d_Ju_leave_20 : decode b_Ju_leave 20 = .ok (.iand, 1) := by decide +kernel
theorem d_Ju_leave_21 : decode b_Ju_leave 21 = .ok (.ifCond .eq 24, 3) := by decide +kernel
theorem d_Ju_leave_24 : decode b_Ju_leave 24 = .ok (.aload_n 0, 1) := by decide +kernel
theorem d_Ju_leave_25 : decode b_Ju_leave 25 = .ok (.getfield 14, 3) := by decide +kernel
theorem d_Ju_leave_28 : decode b_Ju_leave 28 = .ok (.aload_n 0, 1) := by decide +kernel
theorem d_Ju_leave_29 : decode b_Ju_leave 29 = .ok (.getfield 35, 3) := by decide +kernel
theorem d_Ju_leave_32 : decode b_Ju_leave 32 = .ok (.iload_n 1, 1) := by decide +kernel
theorem d_Ju_leave_33 : decode b_Ju_leave 33 = .ok (.iload 5, 2) := by decide +kernel
theorem d_Ju_leave_35 : decode b_Ju_leave 35 = .ok (.invokevirtual 82, 3) := by decide +kernel
theorem d_Ju_leave_38 : decode b_Ju_leave 38 = .ok (.aload_n 0, 1) := by decide +kernel
theorem d_Ju_leave_39 : decode b_Ju_leave 39 = .ok (.iload_n 1, 1) := by decide +kernel
theorem d_Ju_leave_40 : decode b_Ju_leave 40 = .ok (.iload_n 2, 1) := by decide +kernel
theorem d_Ju_leave_41 : decode b_Ju_leave 41 = .ok (.lload_n 3, 1) := by decide +kernel
theorem d_Ju_leave_42 : decode b_Ju_leave 42 = .ok (.invokevirtual 86, 3) := by decide +kernel
theorem d_Ju_leave_45 : decode b_Ju_leave 45 = .ok (.iinc 5 1, 3) := by decide +kernel
theorem d_Ju_leave_48 : decode b_Ju_leave 48 = .ok (.goto (-45), 3) := by decide +kernel
theorem d_Ju_leave_51 : decode b_Ju_leave 51 = .ok (.return_, 1) := by decide +kernel
abbrev w_co_13_550d (g : GT) (a_co : Nat) (a_ta : Nat) (a_gu : Nat) (a_so : Nat) (a_cn : Nat) (a_de : Nat) (a_ju : Nat) (a_jb : Nat) (a_ch : Nat) (a_rd : Nat) (a_fr : Nat) (a_ub : Nat) (a_wr : Nat) (r_co : Nat → Int32) (r_ta : Nat → Int32) (r_gu : Nat → Int32) (r_so : Nat → Int32) (r_cn : Nat → Int32) (r_de : Nat → Int32) (r_ju : Nat → Int32) (r_jb : Nat → Int32) (r_ch : Nat → Int32) (r_rd : Nat → Int64) (r_fr : Nat → Int64) (r_ub : Nat → Int64) (r_wr : Nat → Int64) : va_W := [kO a_co 1 [.int (r_co 0), .ref a_ta, .ref a_gu, .ref a_so, .ref a_cn, .ref a_de], kI g a_ta 64 r_ta, kI g a_gu 256 r_gu, kI g a_so 256 r_so, kI g a_cn 256 r_cn, kI g a_de 256 r_de, kO a_ju 2 [.ref a_co, .ref a_jb, .ref a_ch, .ref a_rd, .ref a_fr, .ref a_ub, .ref a_wr, .int (r_ju 7), .int (r_ju 8), .int (r_ju 9)], kO a_jb 0 [.int (r_jb 0), .int (r_jb 1), .int (r_jb 2), .int (r_jb 3), .int (r_jb 4), .int (r_jb 5), .int (r_jb 6), .int (r_jb 7)], kI g a_ch 64 r_ch, kJ g a_rd 576 r_rd, kJ g a_fr 576 r_fr, kJ g a_ub 3 r_ub, kJ g a_wr 3 r_wr]
abbrev b_Ju_leastWrongCycle : ByteArray := prog_4_method_3_code
abbrev y_Ju_leastWrongCycle : MethodName := ⟨"MoveDesk$Judge", "leastWrongCycle", "()I"⟩
theorem hd_Ju_leastWrongCycle : y_Ju_leastWrongCycle.cls = "MoveDesk$Judge" ∧ y_Ju_leastWrongCycle.cls ≠ "java/lang/invoke/MethodHandle" ∧ y_Ju_leastWrongCycle.cls ≠ "java/lang/invoke/VarHandle" ∧ (parseMethodDescriptor y_Ju_leastWrongCycle.desc).map (fun d => d.parameters.length) = some 0 := by decide +kernel
theorem d_Ju_leastWrongCycle_0 : decode b_Ju_leastWrongCycle 0 = .ok (.aload_n 0, 1) := by decide +kernel
theorem d_Ju_leastWrongCycle_1 : decode b_Ju_leastWrongCycle 1 = .ok (.invokevirtual 49, 3) := by decide +kernel
theorem d_Ju_leastWrongCycle_4 : decode b_Ju_leastWrongCycle 4 = .ok (.iconst 0, 1) := by decide +kernel
theorem d_Ju_leastWrongCycle_5 : decode b_Ju_leastWrongCycle 5 = .ok (.istore_n 1, 1) := by decide +kernel
theorem d_Ju_leastWrongCycle_6 : decode b_Ju_leastWrongCycle 6 = .ok (.aload_n 0, 1) := by decide +kernel
theorem d_Ju_leastWrongCycle_7 : decode b_Ju_leastWrongCycle 7 = .ok (.getfield 52, 3) := by decide +kernel
theorem d_Ju_leastWrongCycle_10 : decode b_Ju_leastWrongCycle 10 = .ok (.ifCond .eq 69, 3) := by decide +kernel
theorem d_Ju_leastWrongCycle_13 : decode b_Ju_leastWrongCycle 13 = .ok (.iload_n 1, 1) := by decide +kernel
theorem d_Ju_leastWrongCycle_14 : decode b_Ju_leastWrongCycle 14 = .ok (.sipush 23041, 3) := by decide +kernel
theorem d_Ju_leastWrongCycle_17 : decode b_Ju_leastWrongCycle 17 = .ok (.if_icmp .ge 62, 3) := by decide +kernel
theorem d_Ju_leastWrongCycle_20 : decode b_Ju_leastWrongCycle 20 = .ok (.aload_n 0, 1) := by decide +kernel
theorem d_Ju_leastWrongCycle_21 : decode b_Ju_leastWrongCycle 21 = .ok (.iconst 0, 1) := by decide +kernel
theorem d_Ju_leastWrongCycle_22 : decode b_Ju_leastWrongCycle 22 = .ok (.putfield 52, 3) := by decide +kernel
theorem d_Ju_leastWrongCycle_25 : decode b_Ju_leastWrongCycle 25 = .ok (.iconst 0, 1) := by decide +kernel
theorem d_Ju_leastWrongCycle_26 : decode b_Ju_leastWrongCycle 26 = .ok (.istore_n 2, 1) := by decide +kernel
theorem d_Ju_leastWrongCycle_27 : decode b_Ju_leastWrongCycle 27 = .ok (.iload_n 2, 1) := by decide +kernel
theorem d_Ju_leastWrongCycle_28 : decode b_Ju_leastWrongCycle 28 = .ok (.sipush 576, 3) := by decide +kernel
theorem d_Ju_leastWrongCycle_31 : decode b_Ju_leastWrongCycle 31 = .ok (.if_icmp .ge 42, 3) := by decide +kernel
theorem d_Ju_leastWrongCycle_34 : decode b_Ju_leastWrongCycle 34 = .ok (.aload_n 0, 1) := by decide +kernel
theorem d_Ju_leastWrongCycle_35 : decode b_Ju_leastWrongCycle 35 = .ok (.getfield 26, 3) := by decide +kernel
theorem d_Ju_leastWrongCycle_38 : decode b_Ju_leastWrongCycle 38 = .ok (.iload_n 2, 1) := by decide +kernel
theorem d_Ju_leastWrongCycle_39 : decode b_Ju_leastWrongCycle 39 = .ok (.laload, 1) := by decide +kernel
theorem d_Ju_leastWrongCycle_40 : decode b_Ju_leastWrongCycle 40 = .ok (.lstore_n 3, 1) := by decide +kernel
theorem d_Ju_leastWrongCycle_41 : decode b_Ju_leastWrongCycle 41 = .ok (.lload_n 3, 1) := by decide +kernel
theorem d_Ju_leastWrongCycle_42 : decode b_Ju_leastWrongCycle 42 = .ok (.lconst 0, 1) := by decide +kernel
theorem d_Ju_leastWrongCycle_43 : decode b_Ju_leastWrongCycle 43 = .ok (.lcmp, 1) := by decide +kernel
theorem d_Ju_leastWrongCycle_44 : decode b_Ju_leastWrongCycle 44 = .ok (.ifCond .eq 23, 3) := by decide +kernel
theorem d_Ju_leastWrongCycle_47 : decode b_Ju_leastWrongCycle 47 = .ok (.aload_n 0, 1) := by decide +kernel
theorem d_Ju_leastWrongCycle_48 : decode b_Ju_leastWrongCycle 48 = .ok (.getfield 26, 3) := by decide +kernel
theorem d_Ju_leastWrongCycle_51 : decode b_Ju_leastWrongCycle 51 = .ok (.iload_n 2, 1) := by decide +kernel
theorem d_Ju_leastWrongCycle_52 : decode b_Ju_leastWrongCycle 52 = .ok (.lconst 0, 1) := by decide +kernel
theorem d_Ju_leastWrongCycle_53 : decode b_Ju_leastWrongCycle 53 = .ok (.lastore, 1) := by decide +kernel
theorem d_Ju_leastWrongCycle_54 : decode b_Ju_leastWrongCycle 54 = .ok (.aload_n 0, 1) := by decide +kernel
theorem d_Ju_leastWrongCycle_55 : decode b_Ju_leastWrongCycle 55 = .ok (.iload_n 2, 1) := by decide +kernel
theorem d_Ju_leastWrongCycle_56 : decode b_Ju_leastWrongCycle 56 = .ok (.bipush 9, 2) := by decide +kernel
theorem d_Ju_leastWrongCycle_58 : decode b_Ju_leastWrongCycle 58 = .ok (.idiv, 1) := by decide +kernel
theorem d_Ju_leastWrongCycle_59 : decode b_Ju_leastWrongCycle 59 = .ok (.iload_n 2, 1) := by decide +kernel
theorem d_Ju_leastWrongCycle_60 : decode b_Ju_leastWrongCycle 60 = .ok (.bipush 9, 2) := by decide +kernel
theorem d_Ju_leastWrongCycle_62 : decode b_Ju_leastWrongCycle 62 = .ok (.irem, 1) := by decide +kernel
theorem d_Ju_leastWrongCycle_63 : decode b_Ju_leastWrongCycle 63 = .ok (.lload_n 3, 1) := by decide +kernel
theorem d_Ju_leastWrongCycle_64 : decode b_Ju_leastWrongCycle 64 = .ok (.invokevirtual 56, 3) := by decide +kernel
theorem d_Ju_leastWrongCycle_67 : decode b_Ju_leastWrongCycle 67 = .ok (.iinc 2 1, 3) := by decide +kernel
theorem d_Ju_leastWrongCycle_70 : decode b_Ju_leastWrongCycle 70 = .ok (.goto (-43), 3) := by decide +kernel
theorem d_Ju_leastWrongCycle_73 : decode b_Ju_leastWrongCycle 73 = .ok (.iinc 1 1, 3) := by decide +kernel
theorem d_Ju_leastWrongCycle_76 : decode b_Ju_leastWrongCycle 76 = .ok (.goto (-70), 3) := by decide +kernel
theorem d_Ju_leastWrongCycle_79 : decode b_Ju_leastWrongCycle 79 = .ok (.aload_n 0, 1) := by decide +kernel
theorem d_Ju_leastWrongCycle_80 : decode b_Ju_leastWrongCycle 80 = .ok (.getfield 60, 3) := by decide +kernel
theorem d_Ju_leastWrongCycle_83 : decode b_Ju_leastWrongCycle 83 = .ok (.ireturn, 1) := by decide +kernel
abbrev b_Ju_leastFault : ByteArray := prog_4_method_4_code
abbrev y_Ju_leastFault : MethodName := ⟨"MoveDesk$Judge", "leastFault", "()I"⟩
theorem hd_Ju_leastFault : y_Ju_leastFault.cls = "MoveDesk$Judge" ∧ y_Ju_leastFault.cls ≠ "java/lang/invoke/MethodHandle" ∧ y_Ju_leastFault.cls ≠ "java/lang/invoke/VarHandle" ∧ (parseMethodDescriptor y_Ju_leastFault.desc).map (fun d => d.parameters.length) = some 0 := by decide +kernel
theorem d_Ju_leastFault_0 : decode b_Ju_leastFault 0 = .ok (.aload_n 0, 1) := by decide +kernel
theorem d_Ju_leastFault_1 : decode b_Ju_leastFault 1 = .ok (.getfield 64, 3) := by decide +kernel
theorem d_Ju_leastFault_4 : decode b_Ju_leastFault 4 = .ok (.ireturn, 1) := by decide +kernel
def f_Ju_agesWhere_37 (rec_5 : Int32 → Int32 → Int64 → Int32 → Option (Int64))  (v0 : Int32) (v1 : Int32) (v2 : Int64) (v4 : Int32) : Option (Int64) :=
  nm (v4 + 1) fun x1 =>
  rec_5 v0 v1 v2 x1
def f_Ju_agesWhere_5 : Nat → Int32 → Int32 → Int64 → Int32 → Option (Int64)
  | 0, _, _, _, _ => none
  | n + 1, v0, v1, v2, v4 =>
    if (40 : Int32) ≤ v4 then
      some (v2)
    else
      ck v0 3 <|
      nz (asV v0.toNatClampNeg) <|
      ck v0 3 <|
      nz (acV v0.toNatClampNeg) <|
      if (v4 / (asV v0.toNatClampNeg)) - (v4 / (asV v0.toNatClampNeg)) / (acV v0.toNatClampNeg) * (acV v0.toNatClampNeg) = v1 then
        nm (v2 ||| ((1 : Int64) <<< (v4.toInt64 &&& 63)) : Int64) fun x7 =>
        f_Ju_agesWhere_37 (f_Ju_agesWhere_5 n) v0 v1 x7 v4
      else
        f_Ju_agesWhere_37 (f_Ju_agesWhere_5 n) v0 v1 v2 v4
def f_Ju_agesWhere  (v0 : Int32) (v1 : Int32) : Option (Int64) :=
  f_Ju_agesWhere_5 5000 v0 v1 0 0
def f_Ju_choicesIn_4 : Nat → (Nat → Int32) → (Nat → Int32) → (Nat → Int32) → (Nat → Int32) → Int32 → Int32 → Int32 → Option (Int32)
  | 0, _, _, _, _, _, _, _ => none
  | n + 1, r_co, r_ta, r_gu, r_ju, v1, v2, v3 =>
    if (16 : Int32) ≤ v3 then
      some (v2)
    else
      (f_Co_madeWith r_co r_ta r_gu v1 v3).bind fun y2 =>
      nm (v2 ||| ((1 : Int32) <<< (y2 &&& 31)) : Int32) fun x3 =>
      nm (v3 + 1) fun x4 =>
      f_Ju_choicesIn_4 n r_co r_ta r_gu r_ju v1 x3 x4
def f_Ju_choicesIn (r_co : Nat → Int32) (r_ta : Nat → Int32) (r_gu : Nat → Int32) (r_ju : Nat → Int32) (v1 : Int32) : Option (Int32) :=
  f_Ju_choicesIn_4 5000 r_co r_ta r_gu r_ju v1 0 0
def f_Ju_reach (r_ju : Nat → Int32) (r_rd : Nat → Int64) (r_fr : Nat → Int64) (v1 : Int32) (v2 : Int32) (v3 : Int64) : Option ((Nat → Int32) × (Nat → Int64) × (Nat → Int64)) :=
  nm ((v1 * (9 : Int32)) + v2 : Int32) fun x1 =>
  ck x1 576 <|
  nm (v3 &&& ((r_rd x1.toNatClampNeg) ^^^ (-1 : Int64)) : Int64) fun x3 =>
  if lg_cmp x3 (0 : Int64) = 0 then
    some (r_ju, r_rd, r_fr)
  else
    ck x1 576 <|
    ck x1 576 <|
    ck x1 576 <|
    ck x1 576 <|
    some (upd r_ju 7 1, vp_updL r_rd x1.toNatClampNeg ((r_rd x1.toNatClampNeg) ||| x3), vp_updL r_fr x1.toNatClampNeg ((r_fr x1.toNatClampNeg) ||| x3))
def f_Ju_start_31 : Nat → (Nat → Int32) → (Nat → Int32) → (Nat → Int32) → (Nat → Int32) → (Nat → Int32) → (Nat → Int64) → (Nat → Int64) → Int32 → Option ((Nat → Int32) × (Nat → Int32) × (Nat → Int64) × (Nat → Int64))
  | 0, _, _, _, _, _, _, _, _ => none
  | n + 1, r_co, r_ta, r_gu, r_ju, r_ch, r_rd, r_fr, v1 =>
    if (64 : Int32) ≤ v1 then
      (f_Ju_reach (upd (upd r_ju 8 (-1)) 9 0) r_rd r_fr (0 : Int32) (0 : Int32) (1 : Int64)).bind fun y2 =>
      some (y2.1, r_ch, y2.2.1, y2.2.2)
    else
      (f_Ju_choicesIn r_co r_ta r_gu r_ju v1).bind fun y3 =>
      ck v1 64 <|
      nm (v1 + 1) fun x5 =>
      f_Ju_start_31 n r_co r_ta r_gu r_ju (upd r_ch v1.toNatClampNeg y3) r_rd r_fr x5
def f_Ju_start_2 : Nat → (Nat → Int32) → (Nat → Int32) → (Nat → Int32) → (Nat → Int32) → (Nat → Int32) → (Nat → Int64) → (Nat → Int64) → Int32 → Option ((Nat → Int32) × (Nat → Int32) × (Nat → Int64) × (Nat → Int64))
  | 0, _, _, _, _, _, _, _, _ => none
  | n + 1, r_co, r_ta, r_gu, r_ju, r_ch, r_rd, r_fr, v1 =>
    if (576 : Int32) ≤ v1 then
      f_Ju_start_31 5000 r_co r_ta r_gu r_ju r_ch r_rd r_fr 0
    else
      ck v1 576 <|
      ck v1 576 <|
      nm (v1 + 1) fun x4 =>
      f_Ju_start_2 n r_co r_ta r_gu r_ju r_ch (vp_updL r_rd v1.toNatClampNeg (0 : Int64)) (vp_updL r_fr v1.toNatClampNeg (0 : Int64)) x4
def f_Ju_start (r_co : Nat → Int32) (r_ta : Nat → Int32) (r_gu : Nat → Int32) (r_ju : Nat → Int32) (r_ch : Nat → Int32) (r_rd : Nat → Int64) (r_fr : Nat → Int64)  : Option ((Nat → Int32) × (Nat → Int32) × (Nat → Int64) × (Nat → Int64)) :=
  f_Ju_start_2 5000 r_co r_ta r_gu r_ju r_ch r_rd r_fr 0
def f_Ju_blame_16 (r_ju : Nat → Int32) (v1 : Int32) (v2 : Int32) : Option ((Nat → Int32)) :=
  some (upd (upd r_ju 8 v1) 9 v2)
def f_Ju_blame (r_ju : Nat → Int32) (v1 : Int32) (v2 : Int32) : Option ((Nat → Int32)) :=
  if (r_ju 8) = (-1 : Int32) then
    f_Ju_blame_16 r_ju v1 v2
  else
    if (r_ju 8) ≤ v1 then
      if v1 = (r_ju 8) then
        nm (if v2 < (r_ju 9) then v2 else (r_ju 9)) fun x4 =>
        some (upd r_ju 9 x4)
      else
        some (r_ju)
    else
      f_Ju_blame_16 r_ju v1 v2
def f_Ju_older_47 (rec_5 : (Nat → Int32) → (Nat → Int32) → (Nat → Int64) → (Nat → Int64) → Int64 → Int32 → Option (Int64)) (r_ju : Nat → Int32) (r_jb : Nat → Int32) (r_ub : Nat → Int64) (r_wr : Nat → Int64) (v3 : Int64) (v5 : Int32) (v6 : Int64) : Option (Int64) :=
  ck v5 3 <|
  nm ((v3 &&& v6) ||| ((v3 &&& (v6 ^^^ (-1 : Int64))) <<< ((asV v5.toNatClampNeg).toInt64 &&& 63)) : Int64) fun x2 =>
  nm (v5 + 1) fun x3 =>
  rec_5 r_ju r_jb r_ub r_wr x2 x3
def f_Ju_older_5 : Nat → (Nat → Int32) → (Nat → Int32) → (Nat → Int64) → (Nat → Int64) → Int64 → Int32 → Option (Int64)
  | 0, _, _, _, _, _, _ => none
  | n + 1, r_ju, r_jb, r_ub, r_wr, v3, v5 =>
    if (3 : Int32) ≤ v5 then
      some (v3)
    else
      ck v5 3 <|
      nm (r_wr v5.toNatClampNeg : Int64) fun x3 =>
      if ((r_jb 4) >>> (v5 &&& 31)) &&& (1 : Int32) = 0 then
        ck v5 3 <|
        nm (x3 ||| (r_ub v5.toNatClampNeg) : Int64) fun x6 =>
        f_Ju_older_47 (f_Ju_older_5 n) r_ju r_jb r_ub r_wr v3 v5 x6
      else
        f_Ju_older_47 (f_Ju_older_5 n) r_ju r_jb r_ub r_wr v3 v5 x3
def f_Ju_older (r_ju : Nat → Int32) (r_jb : Nat → Int32) (r_ub : Nat → Int64) (r_wr : Nat → Int64) (v1 : Int64) : Option (Int64) :=
  f_Ju_older_5 5000 r_ju r_jb r_ub r_wr v1 0
def f_Ju_goOn (r_co : Nat → Int32) (r_cn : Nat → Int32) (r_ju : Nat → Int32) (r_jb : Nat → Int32) (r_rd : Nat → Int64) (r_fr : Nat → Int64) (v1 : Int32) (v2 : Int32) (v3 : Int64) : Option ((Nat → Int32) × (Nat → Int64) × (Nat → Int64)) :=
  (f_Md_wrapCycle (v1 + (1 : Int32))).bind fun y1 =>
  if v2 ≤ (4 : Int32) then
    if v2 ≤ 0 then
      if (r_jb 5) = (-1 : Int32) then
        (f_Ju_reach r_ju r_rd r_fr y1 (0 : Int32) v3).bind fun y6 =>
        some (y6.1, y6.2.1, y6.2.2)
      else
        (f_Ju_reach r_ju r_rd r_fr y1 ((1 : Int32) + (r_jb 5)) v3).bind fun y5 =>
        some (y5.1, y5.2.1, y5.2.2)
    else
      (f_Ju_reach r_ju r_rd r_fr y1 (v2 + (4 : Int32)) v3).bind fun y7 =>
      some (y7.1, y7.2.1, y7.2.2)
  else
    (f_Md_wrapCycle (v1 - (2 : Int32))).bind fun y8 =>
    (f_Co_constant r_co r_cn y8 ((v2 - (1 : Int32)) - (4 : Int32))).bind fun y9 =>
    (f_Md_wrapCycle y9).bind fun y10 =>
    (f_Ju_reach r_ju r_rd r_fr y10 (0 : Int32) v3).bind fun y11 =>
    some (y11.1, y11.2.1, y11.2.2)
def f_Ju_leaveBy_39 (rec_6 : (Nat → Int32) → (Nat → Int32) → (Nat → Int32) → (Nat → Int32) → (Nat → Int64) → (Nat → Int64) → (Nat → Int64) → (Nat → Int64) → Int32 → Int32 → Int64 → Int64 → Int32 → Option ((Nat → Int32) × (Nat → Int64) × (Nat → Int64))) (r_co : Nat → Int32) (r_cn : Nat → Int32) (r_ju : Nat → Int32) (r_jb : Nat → Int32) (r_rd : Nat → Int64) (r_fr : Nat → Int64) (r_ub : Nat → Int64) (r_wr : Nat → Int64) (v1 : Int32) (v2 : Int32) (v3 : Int64) (v5 : Int64) (v7 : Int32) : Option ((Nat → Int32) × (Nat → Int64) × (Nat → Int64)) :=
  nm (v7 + 1) fun x1 =>
  rec_6 r_co r_cn r_ju r_jb r_rd r_fr r_ub r_wr v1 v2 v3 v5 x1
def f_Ju_leaveBy_120 (r_co : Nat → Int32) (r_cn : Nat → Int32) (r_ju : Nat → Int32) (r_jb : Nat → Int32) (r_rd : Nat → Int64) (r_fr : Nat → Int64) (r_ub : Nat → Int64) (r_wr : Nat → Int64) (v1 : Int32) (v2 : Int32) (v5 : Int64) (v7 : Int32) : Option ((Nat → Int32) × (Nat → Int64) × (Nat → Int64)) :=
  if v7 = 0 then
    if (r_jb 7) = 0 then
      (f_Ju_older r_ju r_jb r_ub r_wr v5).bind fun y3 =>
      (f_Ju_goOn r_co r_cn r_ju r_jb r_rd r_fr v1 v2 y3).bind fun y4 =>
      some (y4.1, y4.2.1, y4.2.2)
    else
      some (r_ju, r_rd, r_fr)
  else
    (f_Ju_blame r_ju v1 v7).bind fun y5 =>
    some (y5, r_rd, r_fr)
def f_Ju_leaveBy_102 (r_co : Nat → Int32) (r_cn : Nat → Int32) (r_ju : Nat → Int32) (r_jb : Nat → Int32) (r_rd : Nat → Int64) (r_fr : Nat → Int64) (r_ub : Nat → Int64) (r_wr : Nat → Int64) (v1 : Int32) (v2 : Int32) (v5 : Int64) (v7 : Int32) : Option ((Nat → Int32) × (Nat → Int64) × (Nat → Int64)) :=
  if v7 = 0 then
    if (r_jb 6) = 0 then
      f_Ju_leaveBy_120 r_co r_cn r_ju r_jb r_rd r_fr r_ub r_wr v1 v2 v5 v7
    else
      f_Ju_leaveBy_120 r_co r_cn r_ju r_jb r_rd r_fr r_ub r_wr v1 v2 v5 5
  else
    f_Ju_leaveBy_120 r_co r_cn r_ju r_jb r_rd r_fr r_ub r_wr v1 v2 v5 v7
def f_Ju_leaveBy_74 (r_co : Nat → Int32) (r_cn : Nat → Int32) (r_ju : Nat → Int32) (r_jb : Nat → Int32) (r_rd : Nat → Int64) (r_fr : Nat → Int64) (r_ub : Nat → Int64) (r_wr : Nat → Int64) (v1 : Int32) (v2 : Int32) (v5 : Int64) : Option ((Nat → Int32) × (Nat → Int64) × (Nat → Int64)) :=
  if lg_cmp v5 (0 : Int64) = 0 then
    some (r_ju, r_rd, r_fr)
  else
    if v2 = 0 then
      (f_Bu_leastFault r_jb (7 : Int32) (0 : Int32)).bind fun y3 =>
      f_Ju_leaveBy_102 r_co r_cn r_ju r_jb r_rd r_fr r_ub r_wr v1 v2 v5 y3
    else
      (f_Bu_leastFault r_jb (7 : Int32) (1 : Int32)).bind fun y4 =>
      f_Ju_leaveBy_102 r_co r_cn r_ju r_jb r_rd r_fr r_ub r_wr v1 v2 v5 y4
def f_Ju_leaveBy_6 : Nat → (Nat → Int32) → (Nat → Int32) → (Nat → Int32) → (Nat → Int32) → (Nat → Int64) → (Nat → Int64) → (Nat → Int64) → (Nat → Int64) → Int32 → Int32 → Int64 → Int64 → Int32 → Option ((Nat → Int32) × (Nat → Int64) × (Nat → Int64))
  | 0, _, _, _, _, _, _, _, _, _, _, _, _, _ => none
  | n + 1, r_co, r_cn, r_ju, r_jb, r_rd, r_fr, r_ub, r_wr, v1, v2, v3, v5, v7 =>
    if (3 : Int32) ≤ v7 then
      if lg_cmp v5 v3 = 0 then
        f_Ju_leaveBy_74 r_co r_cn r_ju r_jb r_rd r_fr r_ub r_wr v1 v2 v5
      else
        if v2 = 0 then
          (f_Bu_leastFault r_jb (0 : Int32) (0 : Int32)).bind fun y4 =>
          (f_Ju_blame r_ju v1 y4).bind fun y5 =>
          f_Ju_leaveBy_74 r_co r_cn y5 r_jb r_rd r_fr r_ub r_wr v1 v2 v5
        else
          (f_Bu_leastFault r_jb (0 : Int32) (1 : Int32)).bind fun y6 =>
          (f_Ju_blame r_ju v1 y6).bind fun y7 =>
          f_Ju_leaveBy_74 r_co r_cn y7 r_jb r_rd r_fr r_ub r_wr v1 v2 v5
    else
      if ((r_jb 3) >>> (v7 &&& 31)) &&& (1 : Int32) = 0 then
        f_Ju_leaveBy_39 (f_Ju_leaveBy_6 n) r_co r_cn r_ju r_jb r_rd r_fr r_ub r_wr v1 v2 v3 v5 v7
      else
        ck v7 3 <|
        nm (v5 &&& (r_wr v7.toNatClampNeg) : Int64) fun x10 =>
        f_Ju_leaveBy_39 (f_Ju_leaveBy_6 n) r_co r_cn r_ju r_jb r_rd r_fr r_ub r_wr v1 v2 v3 x10 v7
def f_Ju_leaveBy (r_co : Nat → Int32) (r_cn : Nat → Int32) (r_ju : Nat → Int32) (r_jb : Nat → Int32) (r_rd : Nat → Int64) (r_fr : Nat → Int64) (r_ub : Nat → Int64) (r_wr : Nat → Int64) (v1 : Int32) (v2 : Int32) (v3 : Int64) : Option ((Nat → Int32) × (Nat → Int64) × (Nat → Int64)) :=
  f_Ju_leaveBy_6 5000 r_co r_cn r_ju r_jb r_rd r_fr r_ub r_wr v1 v2 v3 v3 0
def f_Ju_leave_45 (rec_3 : (Nat → Int32) → (Nat → Int32) → (Nat → Int32) → (Nat → Int32) → (Nat → Int32) → (Nat → Int32) → (Nat → Int32) → (Nat → Int64) → (Nat → Int64) → (Nat → Int64) → (Nat → Int64) → Int32 → Int32 → Int64 → Int32 → Option ((Nat → Int32) × (Nat → Int32) × (Nat → Int64) × (Nat → Int64))) (r_co : Nat → Int32) (r_so : Nat → Int32) (r_cn : Nat → Int32) (r_de : Nat → Int32) (r_ju : Nat → Int32) (r_jb : Nat → Int32) (r_ch : Nat → Int32) (r_rd : Nat → Int64) (r_fr : Nat → Int64) (r_ub : Nat → Int64) (r_wr : Nat → Int64) (v1 : Int32) (v2 : Int32) (v3 : Int64) (v5 : Int32) : Option ((Nat → Int32) × (Nat → Int32) × (Nat → Int64) × (Nat → Int64)) :=
  nm (v5 + 1) fun x1 =>
  rec_3 r_co r_so r_cn r_de r_ju r_jb r_ch r_rd r_fr r_ub r_wr v1 v2 v3 x1
def f_Ju_leave_3 : Nat → (Nat → Int32) → (Nat → Int32) → (Nat → Int32) → (Nat → Int32) → (Nat → Int32) → (Nat → Int32) → (Nat → Int32) → (Nat → Int64) → (Nat → Int64) → (Nat → Int64) → (Nat → Int64) → Int32 → Int32 → Int64 → Int32 → Option ((Nat → Int32) × (Nat → Int32) × (Nat → Int64) × (Nat → Int64))
  | 0, _, _, _, _, _, _, _, _, _, _, _, _, _, _, _ => none
  | n + 1, r_co, r_so, r_cn, r_de, r_ju, r_jb, r_ch, r_rd, r_fr, r_ub, r_wr, v1, v2, v3, v5 =>
    if (16 : Int32) ≤ v5 then
      some (r_ju, r_jb, r_rd, r_fr)
    else
      ck v1 64 <|
      if ((r_ch v1.toNatClampNeg) >>> (v5 &&& 31)) &&& (1 : Int32) = 0 then
        f_Ju_leave_45 (f_Ju_leave_3 n) r_co r_so r_cn r_de r_ju r_jb r_ch r_rd r_fr r_ub r_wr v1 v2 v3 v5
      else
        (f_Bu_gather r_co r_so r_de r_jb v1 v5).bind fun y4 =>
        (f_Ju_leaveBy r_co r_cn r_ju y4 r_rd r_fr r_ub r_wr v1 v2 v3).bind fun y5 =>
        f_Ju_leave_45 (f_Ju_leave_3 n) r_co r_so r_cn r_de y5.1 y4 r_ch y5.2.1 y5.2.2 r_ub r_wr v1 v2 v3 v5
def f_Ju_leave (r_co : Nat → Int32) (r_so : Nat → Int32) (r_cn : Nat → Int32) (r_de : Nat → Int32) (r_ju : Nat → Int32) (r_jb : Nat → Int32) (r_ch : Nat → Int32) (r_rd : Nat → Int64) (r_fr : Nat → Int64) (r_ub : Nat → Int64) (r_wr : Nat → Int64) (v1 : Int32) (v2 : Int32) (v3 : Int64) : Option ((Nat → Int32) × (Nat → Int32) × (Nat → Int64) × (Nat → Int64)) :=
  f_Ju_leave_3 5000 r_co r_so r_cn r_de r_ju r_jb r_ch r_rd r_fr r_ub r_wr v1 v2 v3 0
def f_Ju_leastWrongCycle_67 (rec_6 : (Nat → Int32) → (Nat → Int32) → (Nat → Int32) → (Nat → Int32) → (Nat → Int32) → (Nat → Int32) → (Nat → Int32) → (Nat → Int32) → (Nat → Int32) → (Nat → Int64) → (Nat → Int64) → (Nat → Int64) → (Nat → Int64) → Int32 → Option (Int32 × (Nat → Int32) × (Nat → Int32) × (Nat → Int32) × (Nat → Int64) × (Nat → Int64))) (rec_27 : (Nat → Int32) → (Nat → Int32) → (Nat → Int32) → (Nat → Int32) → (Nat → Int32) → (Nat → Int32) → (Nat → Int32) → (Nat → Int32) → (Nat → Int32) → (Nat → Int64) → (Nat → Int64) → (Nat → Int64) → (Nat → Int64) → Int32 → Int32 → Option (Int32 × (Nat → Int32) × (Nat → Int32) × (Nat → Int32) × (Nat → Int64) × (Nat → Int64))) (r_co : Nat → Int32) (r_ta : Nat → Int32) (r_gu : Nat → Int32) (r_so : Nat → Int32) (r_cn : Nat → Int32) (r_de : Nat → Int32) (r_ju : Nat → Int32) (r_jb : Nat → Int32) (r_ch : Nat → Int32) (r_rd : Nat → Int64) (r_fr : Nat → Int64) (r_ub : Nat → Int64) (r_wr : Nat → Int64) (v1 : Int32) (v2 : Int32) : Option (Int32 × (Nat → Int32) × (Nat → Int32) × (Nat → Int32) × (Nat → Int64) × (Nat → Int64)) :=
  nm (v2 + 1) fun x1 =>
  rec_27 r_co r_ta r_gu r_so r_cn r_de r_ju r_jb r_ch r_rd r_fr r_ub r_wr v1 x1
def f_Ju_leastWrongCycle_27 (rec_6 : (Nat → Int32) → (Nat → Int32) → (Nat → Int32) → (Nat → Int32) → (Nat → Int32) → (Nat → Int32) → (Nat → Int32) → (Nat → Int32) → (Nat → Int32) → (Nat → Int64) → (Nat → Int64) → (Nat → Int64) → (Nat → Int64) → Int32 → Option (Int32 × (Nat → Int32) × (Nat → Int32) × (Nat → Int32) × (Nat → Int64) × (Nat → Int64))) : Nat → (Nat → Int32) → (Nat → Int32) → (Nat → Int32) → (Nat → Int32) → (Nat → Int32) → (Nat → Int32) → (Nat → Int32) → (Nat → Int32) → (Nat → Int32) → (Nat → Int64) → (Nat → Int64) → (Nat → Int64) → (Nat → Int64) → Int32 → Int32 → Option (Int32 × (Nat → Int32) × (Nat → Int32) × (Nat → Int32) × (Nat → Int64) × (Nat → Int64))
  | 0, _, _, _, _, _, _, _, _, _, _, _, _, _, _, _ => none
  | n + 1, r_co, r_ta, r_gu, r_so, r_cn, r_de, r_ju, r_jb, r_ch, r_rd, r_fr, r_ub, r_wr, v1, v2 =>
    if (576 : Int32) ≤ v2 then
      nm (v1 + 1) fun x2 =>
      rec_6 r_co r_ta r_gu r_so r_cn r_de r_ju r_jb r_ch r_rd r_fr r_ub r_wr x2
    else
      ck v2 576 <|
      nm (r_fr v2.toNatClampNeg : Int64) fun x4 =>
      if lg_cmp x4 (0 : Int64) = 0 then
        f_Ju_leastWrongCycle_67 rec_6 (f_Ju_leastWrongCycle_27 rec_6 n) r_co r_ta r_gu r_so r_cn r_de r_ju r_jb r_ch r_rd r_fr r_ub r_wr v1 v2
      else
        ck v2 576 <|
        (f_Ju_leave r_co r_so r_cn r_de r_ju r_jb r_ch r_rd (vp_updL r_fr v2.toNatClampNeg (0 : Int64)) r_ub r_wr (v2 / (9 : Int32)) (v2 - v2 / (9 : Int32) * (9 : Int32)) x4).bind fun y7 =>
        f_Ju_leastWrongCycle_67 rec_6 (f_Ju_leastWrongCycle_27 rec_6 n) r_co r_ta r_gu r_so r_cn r_de y7.1 y7.2.1 r_ch y7.2.2.1 y7.2.2.2 r_ub r_wr v1 v2
def f_Ju_leastWrongCycle_79 (r_co : Nat → Int32) (r_ta : Nat → Int32) (r_gu : Nat → Int32) (r_so : Nat → Int32) (r_cn : Nat → Int32) (r_de : Nat → Int32) (r_ju : Nat → Int32) (r_jb : Nat → Int32) (r_ch : Nat → Int32) (r_rd : Nat → Int64) (r_fr : Nat → Int64) (r_ub : Nat → Int64) (r_wr : Nat → Int64)  : Option (Int32 × (Nat → Int32) × (Nat → Int32) × (Nat → Int32) × (Nat → Int64) × (Nat → Int64)) :=
  some ((r_ju 8), r_ju, r_jb, r_ch, r_rd, r_fr)
def f_Ju_leastWrongCycle_6 : Nat → (Nat → Int32) → (Nat → Int32) → (Nat → Int32) → (Nat → Int32) → (Nat → Int32) → (Nat → Int32) → (Nat → Int32) → (Nat → Int32) → (Nat → Int32) → (Nat → Int64) → (Nat → Int64) → (Nat → Int64) → (Nat → Int64) → Int32 → Option (Int32 × (Nat → Int32) × (Nat → Int32) × (Nat → Int32) × (Nat → Int64) × (Nat → Int64))
  | 0, _, _, _, _, _, _, _, _, _, _, _, _, _, _ => none
  | n + 1, r_co, r_ta, r_gu, r_so, r_cn, r_de, r_ju, r_jb, r_ch, r_rd, r_fr, r_ub, r_wr, v1 =>
    if (r_ju 7) = 0 then
      f_Ju_leastWrongCycle_79 r_co r_ta r_gu r_so r_cn r_de r_ju r_jb r_ch r_rd r_fr r_ub r_wr
    else
      if (23041 : Int32) ≤ v1 then
        f_Ju_leastWrongCycle_79 r_co r_ta r_gu r_so r_cn r_de r_ju r_jb r_ch r_rd r_fr r_ub r_wr
      else
        f_Ju_leastWrongCycle_27 (f_Ju_leastWrongCycle_6 n) 5000 r_co r_ta r_gu r_so r_cn r_de (upd r_ju 7 0) r_jb r_ch r_rd r_fr r_ub r_wr v1 0
def f_Ju_leastWrongCycle (r_co : Nat → Int32) (r_ta : Nat → Int32) (r_gu : Nat → Int32) (r_so : Nat → Int32) (r_cn : Nat → Int32) (r_de : Nat → Int32) (r_ju : Nat → Int32) (r_jb : Nat → Int32) (r_ch : Nat → Int32) (r_rd : Nat → Int64) (r_fr : Nat → Int64) (r_ub : Nat → Int64) (r_wr : Nat → Int64)  : Option (Int32 × (Nat → Int32) × (Nat → Int32) × (Nat → Int32) × (Nat → Int64) × (Nat → Int64)) :=
  (f_Ju_start r_co r_ta r_gu r_ju r_ch r_rd r_fr).bind fun y1 =>
  f_Ju_leastWrongCycle_6 30000 r_co r_ta r_gu r_so r_cn r_de y1.1 r_jb y1.2.1 y1.2.2.1 y1.2.2.2 r_ub r_wr 0
def f_Ju_leastFault (r_ju : Nat → Int32)  : Option (Int32) :=
  some ((r_ju 9))
abbrev rm_Ju_agesWhere : Room := { frames := 0, cells := 0, slots := 0, locals := 0 }
set_option maxHeartbeats 4000000 in
set_option maxRecDepth 100000 in
theorem wl_Ju_agesWhere_37 {p : Program} {l : Launch} {e : Env} {s : State} {m : MethodId} {args : Array Value} {below : List Frame} {meth : Method} {c : Code} {A : Nat → Prop} {g : GT}  {y : Int64} (M : MX p s m args meth c b_Ju_agesWhere 5 (some .long) "MoveDesk$Judge" g A) (rec_5 : Int32 → Int32 → Int64 → Int32 → Option (Int64)) (hrec_5 : ∀  (v0 : Int32) (v1 : Int32) (v2 : Int64) (v4 : Int32) (H : Heap) (locs : List Loc) (ls : Array Slot), some y = rec_5 v0 v1 v2 v4 → va_P g.1 classes (w_ g  ) H → va_D A (w_ g  ) → va_S A s.heap H locs → lv_has ls 5 [(0, .int v0), (1, .int v1), (2, .long v2), (4, .int v4)] → W p l e rm_Ju_agesWhere s m args below meth c H locs 0 0 (MQ below (QW g (some (.long y)) (w_ g  ) A) args s 0 0 A) (F0 m 5 ls [])) : ∀  (v0 : Int32) (v1 : Int32) (v2 : Int64) (v4 : Int32) (H : Heap) (locs : List Loc) (ls : Array Slot), some y = (f_Ju_agesWhere_37 rec_5) v0 v1 v2 v4 → va_P g.1 classes (w_ g  ) H → va_D A (w_ g  ) → va_S A s.heap H locs → lv_has ls 5 [(0, .int v0), (1, .int v1), (2, .long v2), (4, .int v4)] → W p l e rm_Ju_agesWhere s m args below meth c H locs 0 0 (MQ below (QW g (some (.long y)) (w_ g  ) A) args s 0 0 A) (F0 m 37 ls []) := by
  obtain ⟨hx, hb, hr, hml, hown, hts, hlocks, hA, hK, hG⟩ := id M
  intro v0 v1 v2 v4 H locs ls hE hP hD hS hl
  rw [f_Ju_agesWhere_37] at hE
  obtain ⟨x1, ex1⟩ : ∃ z : Int32, z = v4 + 1 := ⟨_, rfl⟩
  have hE := nm_at hE ex1
  refine lv_iinc (v := x1) (lv' := [(4, .int x1), (0, .int v0), (1, .int v1), (2, .long v2)]) hx hb d_Ju_agesWhere_37 hl (k := 3) rfl (by rw [ex1]; rfl) (by decide) rfl (fun ls hl => ?_)
  refine lv_goto (tgt := 5) hx hb d_Ju_agesWhere_40 (by decide) ?_
  exact hrec_5 _ _ _ _ _ _ _ hE hP hD hS (lv_sub hl [1, 2, 3, 0] rfl)
set_option maxHeartbeats 4000000 in
set_option maxRecDepth 100000 in
theorem wl_Ju_agesWhere_5 {p : Program} {l : Launch} {e : Env} {s : State} {m : MethodId} {args : Array Value} {below : List Frame} {meth : Method} {c : Code} {A : Nat → Prop} {g : GT}  {y : Int64} (M : MX p s m args meth c b_Ju_agesWhere 5 (some .long) "MoveDesk$Judge" g A) : ∀ n : Nat, ∀  (v0 : Int32) (v1 : Int32) (v2 : Int64) (v4 : Int32) (H : Heap) (locs : List Loc) (ls : Array Slot), some y = (f_Ju_agesWhere_5 n) v0 v1 v2 v4 → va_P g.1 classes (w_ g  ) H → va_D A (w_ g  ) → va_S A s.heap H locs → lv_has ls 5 [(0, .int v0), (1, .int v1), (2, .long v2), (4, .int v4)] → W p l e rm_Ju_agesWhere s m args below meth c H locs 0 0 (MQ below (QW g (some (.long y)) (w_ g  ) A) args s 0 0 A) (F0 m 5 ls []) := by
  obtain ⟨hx, hb, hr, hml, hown, hts, hlocks, hA, hK, hG⟩ := id M
  intro n
  induction n with
  | zero =>
    intro v0 v1 v2 v4 H locs ls hE hP hD hS hl
    rw [f_Ju_agesWhere_5] at hE
    cases hE
  | succ n ih =>
    intro v0 v1 v2 v4 H locs ls hE hP hD hS hl
    rw [f_Ju_agesWhere_5] at hE
    refine lv_iload hx hb d_Ju_agesWhere_5 (lv_at hl 3 rfl) ?_
    refine lv_bipush (v := 40) hx hb d_Ju_agesWhere_7 (by decide) ?_
    refine lv_icmp_ge (tgt := 43) hx hb d_Ju_agesWhere_9 (by decide) (fun c1 => ?_) (fun c1 => ?_)
    · have hE := it_t hE c1
      refine lv_lload_n hx hb d_Ju_agesWhere_43 rfl (lv_at hl 2 rfl) ?_
      have hE := Option.some.inj hE
      rw [hE]
      exact W.lret (v := v2) hx hb hr (fun t ht hW => ⟨⟨rfl, by rw [ht]; exact hP, va_K.moved hW.alike hK, hD⟩, hS.F ht⟩) hS.2.2 d_Ju_agesWhere_44 hlocks
    · have hE := it_f hE c1
      refine lv_iload hx hb d_Ju_agesWhere_12 (lv_at hl 3 rfl) ?_
      refine va_gets hx hb hG.2.2.1.1 hS hown (hts _ m_235) (fun _ h9 => h9) d_Ju_agesWhere_14 ?_
      refine lv_iload_n hx hb d_Ju_agesWhere_17 rfl (lv_at hl 0 rfl) ?_
      have ⟨h2, hE⟩ := ck_at hE
      refine va_ti hx hb hG.2.2.1.2 hS h2 rfl d_Ju_agesWhere_18 ?_
      have ⟨h3, hE⟩ := nz_at hE
      refine lv_idiv hx hb d_Ju_agesWhere_19 h3 ?_
      refine va_gets hx hb hG.2.2.2.1.1 hS hown (hts _ m_237) (fun _ h9 => h9) d_Ju_agesWhere_20 ?_
      refine lv_iload_n hx hb d_Ju_agesWhere_23 rfl (lv_at hl 0 rfl) ?_
      have ⟨h4, hE⟩ := ck_at hE
      refine va_ti hx hb hG.2.2.2.1.2 hS h4 rfl d_Ju_agesWhere_24 ?_
      have ⟨h5, hE⟩ := nz_at hE
      refine lv_irem hx hb d_Ju_agesWhere_25 h5 ?_
      refine lv_iload_n hx hb d_Ju_agesWhere_26 rfl (lv_at hl 1 rfl) ?_
      refine lv_icmp_ne (tgt := 37) hx hb d_Ju_agesWhere_27 (by decide) (fun c6 => ?_) (fun c6 => ?_)
      · have hE := it_f hE c6
        exact wl_Ju_agesWhere_37 M (f_Ju_agesWhere_5 n) ih _ _ _ _ _ _ _ hE hP hD hS (lv_sub hl [0, 1, 2, 3] rfl)
      · have hE := it_t hE c6
        refine lv_lload_n hx hb d_Ju_agesWhere_30 rfl (lv_at hl 2 rfl) ?_
        refine lv_lconst (v := 1) hx hb d_Ju_agesWhere_31 (by decide) ?_
        refine lv_iload hx hb d_Ju_agesWhere_32 (lv_at hl 3 rfl) ?_
        refine lv_lshl hx hb d_Ju_agesWhere_34 rfl ?_
        refine lv_lor hx hb d_Ju_agesWhere_35 ?_
        refine lv_topl (fun x7 ex7 => ?_)
        have hE := nm_at hE ex7
        refine lv_lstore_n (lv' := [(2, .long x7), (0, .int v0), (1, .int v1), (4, .int v4)]) hx hb d_Ju_agesWhere_36 rfl hl (by decide) rfl (fun ls hl => ?_)
        exact wl_Ju_agesWhere_37 M (f_Ju_agesWhere_5 n) ih _ _ _ _ _ _ _ hE hP hD hS (lv_sub hl [1, 2, 0, 3] rfl)
set_option maxHeartbeats 4000000 in
set_option maxRecDepth 100000 in
theorem c_Ju_agesWhere (l : Launch) (g : GT)   (v0 : Int32) (v1 : Int32) (y : Int64) (hy : some y = f_Ju_agesWhere v0 v1) : Ct l y_Ju_agesWhere (.code y_Ju_agesWhere b_Ju_agesWhere 5 (some .long)) rm_Ju_agesWhere g [.int v0, .int v1] (w_ g  ) (w_ g  ) (some (.long y)) := by
  refine ct_in (C := "MoveDesk$Judge") rfl (by decide) (Nat.le_of_ble_eq_true rfl) (fun p e s m below meth c A ls M hP hD hS hl => ?_)
  obtain ⟨hx, hb, hr, hml, hown, hts, hlocks, hA, hK, hG⟩ := id M
  have hl : lv_has ls 5 [(0, .int v0), (1, .int v1)] := hl
  have hE := hy
  rw [f_Ju_agesWhere] at hE
  refine lv_lconst (v := 0) hx hb d_Ju_agesWhere_0 (by decide) ?_
  refine lv_lstore_n (lv' := [(2, .long 0), (0, .int v0), (1, .int v1)]) hx hb d_Ju_agesWhere_1 rfl hl (by decide) rfl (fun ls hl => ?_)
  refine lv_iconst (v := 0) hx hb d_Ju_agesWhere_2 (by decide) ?_
  refine lv_istore (lv' := [(4, .int 0), (2, .long 0), (0, .int v0), (1, .int v1)]) hx hb d_Ju_agesWhere_3 hl (by decide) rfl (fun ls hl => ?_)
  exact wl_Ju_agesWhere_5 M 5000 _ _ _ _ _ _ _ hE hP hD hS (lv_sub hl [2, 3, 1, 0] rfl)
abbrev rm_Ju_choicesIn : Room := { frames := 2, cells := 0, slots := 0, locals := 45 }
set_option maxHeartbeats 4000000 in
set_option maxRecDepth 100000 in
theorem wl_Ju_choicesIn_4 {p : Program} {l : Launch} {e : Env} {s : State} {m : MethodId} {args : Array Value} {below : List Frame} {meth : Method} {c : Code} {A : Nat → Prop} {g : GT} {a_co : Nat} {a_ta : Nat} {a_gu : Nat} {a_so : Nat} {a_cn : Nat} {a_de : Nat} {a_ju : Nat} {a_jb : Nat} {a_ch : Nat} {a_rd : Nat} {a_fr : Nat} {a_ub : Nat} {a_wr : Nat} {y : Int32} (M : MX p s m args meth c b_Ju_choicesIn 4 (some .int) "MoveDesk$Judge" g A) : ∀ n : Nat, ∀ (r_co : Nat → Int32) (r_ta : Nat → Int32) (r_gu : Nat → Int32) (r_ju : Nat → Int32) (v1 : Int32) (v2 : Int32) (v3 : Int32) (H : Heap) (locs : List Loc) (ls : Array Slot), some y = (f_Ju_choicesIn_4 n) r_co r_ta r_gu r_ju v1 v2 v3 → va_P g.1 classes (w_co_ta_gu_ju g a_co a_ta a_gu a_so a_cn a_de a_ju a_jb a_ch a_rd a_fr a_ub a_wr r_co r_ta r_gu r_ju) H → va_D A (w_co_ta_gu_ju g a_co a_ta a_gu a_so a_cn a_de a_ju a_jb a_ch a_rd a_fr a_ub a_wr r_co r_ta r_gu r_ju) → va_S A s.heap H locs → lv_has ls 4 [(0, .ref a_ju), (1, .int v1), (2, .int v2), (3, .int v3)] → W p l e rm_Ju_choicesIn s m args below meth c H locs 0 0 (MQ below (QW g (some (.int y)) (w_co_ta_gu_ju g a_co a_ta a_gu a_so a_cn a_de a_ju a_jb a_ch a_rd a_fr a_ub a_wr r_co r_ta r_gu r_ju) A) args s 0 0 A) (F0 m 4 ls []) := by
  obtain ⟨hx, hb, hr, hml, hown, hts, hlocks, hA, hK, hG⟩ := id M
  intro n
  induction n with
  | zero =>
    intro r_co r_ta r_gu r_ju v1 v2 v3 H locs ls hE hP hD hS hl
    rw [f_Ju_choicesIn_4] at hE
    cases hE
  | succ n ih =>
    intro r_co r_ta r_gu r_ju v1 v2 v3 H locs ls hE hP hD hS hl
    rw [f_Ju_choicesIn_4] at hE
    refine lv_iload_n hx hb d_Ju_choicesIn_4 rfl (lv_at hl 3 rfl) ?_
    refine lv_bipush (v := 16) hx hb d_Ju_choicesIn_5 (by decide) ?_
    refine lv_icmp_ge (tgt := 30) hx hb d_Ju_choicesIn_7 (by decide) (fun c1 => ?_) (fun c1 => ?_)
    · have hE := it_t hE c1
      refine lv_iload_n hx hb d_Ju_choicesIn_30 rfl (lv_at hl 2 rfl) ?_
      have hE := Option.some.inj hE
      rw [hE]
      exact W.iret (v := v2) hx hb hr (fun t ht hW => ⟨⟨rfl, by rw [ht]; exact hP, va_K.moved hW.alike hK, hD⟩, hS.F ht⟩) hS.2.2 d_Ju_choicesIn_31 hlocks
    · have hE := it_f hE c1
      refine lv_iload_n hx hb d_Ju_choicesIn_10 rfl (lv_at hl 2 rfl) ?_
      refine lv_iconst (v := 1) hx hb d_Ju_choicesIn_11 (by decide) ?_
      refine lv_aload_n hx hb d_Ju_choicesIn_12 rfl (lv_at hl 0 rfl) ?_
      refine va_get (D := g.1) (ci := 2) (v := .ref a_co) (C := "MoveDesk$Judge") (T := F_Ju) (N := 10) hx hb hts i_Ju hown hK hP 3 rfl rfl 0 (by decide) (hts _ m_239) (fun _ h9 => h9) rfl d_Ju_choicesIn_13 ?_
      refine lv_iload_n hx hb d_Ju_choicesIn_16 rfl (lv_at hl 1 rfl) ?_
      refine lv_iload_n hx hb d_Ju_choicesIn_17 rfl (lv_at hl 3 rfl) ?_
      obtain ⟨y2, hy2, hE⟩ := bd_at hE
      refine kV (C := "MoveDesk$Code") (index := 74) (As := [.int v1, .int v3]) (rest := [.int 1, .int v2]) (ws2 := (w_co_ta_gu_ju g a_co a_ta a_gu a_so a_cn a_de a_ju a_jb a_ch a_rd a_fr a_ub a_wr r_co r_ta r_gu r_ju)) M hP hD hS hl.1 (c_Co_madeWith l g a_co a_ta a_gu a_so a_cn a_de r_co r_ta r_gu v1 v3 y2 hy2) m_353 m_354 m_355 m_3 m_356 hd_Co_madeWith rfl rfl rfl ⟨by decide, by decide⟩ ⟨by decide, by decide⟩ 1 0 rfl rfl rfl [0, 1, 2] [3] [1, 2, 3, 0] rfl rfl rfl rfl (by decide) rfl rfl rfl (Nat.le_of_ble_eq_true rfl) d_Ju_choicesIn_18 (fun H locs hP hD hS => ?_)
      refine W.eq (g2 := F0 m 21 ls [.int y2, .int 1, .int v2]) rfl ?_
      refine lv_ishl hx hb d_Ju_choicesIn_21 ?_
      refine lv_ior hx hb d_Ju_choicesIn_22 ?_
      refine lv_topi (fun x3 ex3 => ?_)
      have hE := nm_at hE ex3
      refine lv_istore_n (lv' := [(2, .int x3), (0, .ref a_ju), (1, .int v1), (3, .int v3)]) hx hb d_Ju_choicesIn_23 rfl hl (by decide) rfl (fun ls hl => ?_)
      obtain ⟨x4, ex4⟩ : ∃ z : Int32, z = v3 + 1 := ⟨_, rfl⟩
      have hE := nm_at hE ex4
      refine lv_iinc (v := x4) (lv' := [(3, .int x4), (2, .int x3), (0, .ref a_ju), (1, .int v1)]) hx hb d_Ju_choicesIn_24 hl (k := 3) rfl (by rw [ex4]; rfl) (by decide) rfl (fun ls hl => ?_)
      refine lv_goto (tgt := 4) hx hb d_Ju_choicesIn_27 (by decide) ?_
      exact ih _ _ _ _ _ _ _ _ _ _ hE hP hD hS (lv_sub hl [2, 3, 1, 0] rfl)
set_option maxHeartbeats 4000000 in
set_option maxRecDepth 100000 in
theorem c_Ju_choicesIn (l : Launch) (g : GT) (a_co : Nat) (a_ta : Nat) (a_gu : Nat) (a_so : Nat) (a_cn : Nat) (a_de : Nat) (a_ju : Nat) (a_jb : Nat) (a_ch : Nat) (a_rd : Nat) (a_fr : Nat) (a_ub : Nat) (a_wr : Nat) (r_co : Nat → Int32) (r_ta : Nat → Int32) (r_gu : Nat → Int32) (r_ju : Nat → Int32) (v1 : Int32) (y : Int32) (hy : some y = f_Ju_choicesIn r_co r_ta r_gu r_ju v1) : Ct l y_Ju_choicesIn (.code y_Ju_choicesIn b_Ju_choicesIn 4 (some .int)) rm_Ju_choicesIn g [.ref a_ju, .int v1] (w_co_ta_gu_ju g a_co a_ta a_gu a_so a_cn a_de a_ju a_jb a_ch a_rd a_fr a_ub a_wr r_co r_ta r_gu r_ju) (w_co_ta_gu_ju g a_co a_ta a_gu a_so a_cn a_de a_ju a_jb a_ch a_rd a_fr a_ub a_wr r_co r_ta r_gu r_ju) (some (.int y)) := by
  refine ct_in (C := "MoveDesk$Judge") rfl (by decide) (Nat.le_of_ble_eq_true rfl) (fun p e s m below meth c A ls M hP hD hS hl => ?_)
  obtain ⟨hx, hb, hr, hml, hown, hts, hlocks, hA, hK, hG⟩ := id M
  have hl : lv_has ls 4 [(0, .ref a_ju), (1, .int v1)] := hl
  have hE := hy
  rw [f_Ju_choicesIn] at hE
  refine lv_iconst (v := 0) hx hb d_Ju_choicesIn_0 (by decide) ?_
  refine lv_istore_n (lv' := [(2, .int 0), (0, .ref a_ju), (1, .int v1)]) hx hb d_Ju_choicesIn_1 rfl hl (by decide) rfl (fun ls hl => ?_)
  refine lv_iconst (v := 0) hx hb d_Ju_choicesIn_2 (by decide) ?_
  refine lv_istore_n (lv' := [(3, .int 0), (2, .int 0), (0, .ref a_ju), (1, .int v1)]) hx hb d_Ju_choicesIn_3 rfl hl (by decide) rfl (fun ls hl => ?_)
  exact wl_Ju_choicesIn_4 M 5000 _ _ _ _ _ _ _ _ _ _ hE hP hD hS (lv_sub hl [2, 3, 1, 0] rfl)
abbrev rm_Ju_reach : Room := { frames := 0, cells := 0, slots := 0, locals := 0 }
set_option maxHeartbeats 4000000 in
set_option maxRecDepth 100000 in
theorem c_Ju_reach (l : Launch) (g : GT) (a_co : Nat) (a_ju : Nat) (a_jb : Nat) (a_ch : Nat) (a_rd : Nat) (a_fr : Nat) (a_ub : Nat) (a_wr : Nat) (r_ju : Nat → Int32) (r_rd : Nat → Int64) (r_fr : Nat → Int64) (v1 : Int32) (v2 : Int32) (v3 : Int64) (y : (Nat → Int32) × (Nat → Int64) × (Nat → Int64)) (hy : some y = f_Ju_reach r_ju r_rd r_fr v1 v2 v3) : Ct l y_Ju_reach (.code y_Ju_reach b_Ju_reach 8 none) rm_Ju_reach g [.ref a_ju, .int v1, .int v2, .long v3] (w_ju_rd_fr g a_co a_ju a_jb a_ch a_rd a_fr a_ub a_wr r_ju r_rd r_fr) (w_ju_rd_fr g a_co a_ju a_jb a_ch a_rd a_fr a_ub a_wr y.1 y.2.1 y.2.2) none := by
  refine ct_in (C := "MoveDesk$Judge") rfl (by decide) (Nat.le_of_ble_eq_true rfl) (fun p e s m below meth c A ls M hP hD hS hl => ?_)
  obtain ⟨hx, hb, hr, hml, hown, hts, hlocks, hA, hK, hG⟩ := id M
  have hl : lv_has ls 8 [(0, .ref a_ju), (1, .int v1), (2, .int v2), (3, .long v3)] := hl
  have hE := hy
  rw [f_Ju_reach] at hE
  refine lv_iload_n hx hb d_Ju_reach_0 rfl (lv_at hl 1 rfl) ?_
  refine lv_bipush (v := 9) hx hb d_Ju_reach_1 (by decide) ?_
  refine lv_imul hx hb d_Ju_reach_3 ?_
  refine lv_iload_n hx hb d_Ju_reach_4 rfl (lv_at hl 2 rfl) ?_
  refine lv_iadd hx hb d_Ju_reach_5 ?_
  refine lv_topi (fun x1 ex1 => ?_)
  have hE := nm_at hE ex1
  refine lv_istore (lv' := [(5, .int x1), (0, .ref a_ju), (1, .int v1), (2, .int v2), (3, .long v3)]) hx hb d_Ju_reach_6 hl (by decide) rfl (fun ls hl => ?_)
  refine lv_lload_n hx hb d_Ju_reach_8 rfl (lv_at hl 4 rfl) ?_
  refine lv_aload_n hx hb d_Ju_reach_9 rfl (lv_at hl 1 rfl) ?_
  refine va_get (D := g.1) (ci := 2) (v := .ref a_rd) (C := "MoveDesk$Judge") (T := F_Ju) (N := 10) hx hb hts i_Ju hown hK hP 0 rfl rfl 3 (by decide) (hts _ m_242) (fun _ h9 => h9) rfl d_Ju_reach_10 ?_
  refine lv_iload hx hb d_Ju_reach_13 (lv_at hl 0 rfl) ?_
  have ⟨h2, hE⟩ := ck_at hE
  refine va_lald hx hb hK hP 1 2 rfl rfl h2 d_Ju_reach_15 ?_
  refine lv_ldc2 hx hb hown (hts _ m_364) d_Ju_reach_16 ?_
  refine lv_lxor hx hb d_Ju_reach_19 ?_
  refine lv_land hx hb d_Ju_reach_20 ?_
  refine lv_topl (fun x3 ex3 => ?_)
  have hE := nm_at hE ex3
  refine lv_lstore (lv' := [(6, .long x3), (5, .int x1), (0, .ref a_ju), (1, .int v1), (2, .int v2), (3, .long v3)]) hx hb d_Ju_reach_21 hl (by decide) rfl (fun ls hl => ?_)
  refine lv_lload hx hb d_Ju_reach_23 (lv_at hl 0 rfl) ?_
  refine lv_lconst (v := 0) hx hb d_Ju_reach_25 (by decide) ?_
  refine W.lcmp hx hb d_Ju_reach_26 ?_
  refine lv_if_eq (tgt := 59) hx hb d_Ju_reach_27 (by decide) (fun c4 => ?_) (fun c4 => ?_)
  · have hE := it_t hE c4
    have hE := Option.some.inj hE
    rw [hE]
    exact W.vret hx hb hr (fun t ht hW => ⟨⟨rfl, by rw [ht]; exact hP, va_K.moved hW.alike hK, hD⟩, hS.F ht⟩) hS.2.2 d_Ju_reach_59 hlocks
  · have hE := it_f hE c4
    refine lv_aload_n hx hb d_Ju_reach_30 rfl (lv_at hl 2 rfl) ?_
    refine va_get (D := g.1) (ci := 2) (v := .ref a_rd) (C := "MoveDesk$Judge") (T := F_Ju) (N := 10) hx hb hts i_Ju hown hK hP 0 rfl rfl 3 (by decide) (hts _ m_242) (fun _ h9 => h9) rfl d_Ju_reach_31 ?_
    refine lv_iload hx hb d_Ju_reach_34 (lv_at hl 1 rfl) ?_
    refine lv_dup2_11 hx hb d_Ju_reach_36 rfl rfl ?_
    have ⟨h5, hE⟩ := ck_at hE
    refine va_lald hx hb hK hP 1 2 rfl rfl h5 d_Ju_reach_37 ?_
    refine lv_lload hx hb d_Ju_reach_38 (lv_at hl 0 rfl) ?_
    refine lv_lor hx hb d_Ju_reach_40 ?_
    have ⟨h6, hE⟩ := ck_at hE
    refine va_last hx hb hK hP hD hS 1 2 rfl rfl h6 d_Ju_reach_41 (fun H locs hP hD hS => ?_)
    have hP : va_P g.1 classes (w_ju_rd_fr g a_co a_ju a_jb a_ch a_rd a_fr a_ub a_wr r_ju (vp_updL r_rd x1.toNatClampNeg ((r_rd x1.toNatClampNeg) ||| x3)) r_fr) H := hP
    have hD : va_D A (w_ju_rd_fr g a_co a_ju a_jb a_ch a_rd a_fr a_ub a_wr r_ju (vp_updL r_rd x1.toNatClampNeg ((r_rd x1.toNatClampNeg) ||| x3)) r_fr) := hD
    refine lv_aload_n hx hb d_Ju_reach_42 rfl (lv_at hl 2 rfl) ?_
    refine va_get (D := g.1) (ci := 2) (v := .ref a_fr) (C := "MoveDesk$Judge") (T := F_Ju) (N := 10) hx hb hts i_Ju hown hK hP 0 rfl rfl 4 (by decide) (hts _ m_243) (fun _ h9 => h9) rfl d_Ju_reach_43 ?_
    refine lv_iload hx hb d_Ju_reach_46 (lv_at hl 1 rfl) ?_
    refine lv_dup2_11 hx hb d_Ju_reach_48 rfl rfl ?_
    have ⟨h7, hE⟩ := ck_at hE
    refine va_lald hx hb hK hP 2 2 rfl rfl h7 d_Ju_reach_49 ?_
    refine lv_lload hx hb d_Ju_reach_50 (lv_at hl 0 rfl) ?_
    refine lv_lor hx hb d_Ju_reach_52 ?_
    have ⟨h8, hE⟩ := ck_at hE
    refine va_last hx hb hK hP hD hS 2 2 rfl rfl h8 d_Ju_reach_53 (fun H locs hP hD hS => ?_)
    have hP : va_P g.1 classes (w_ju_rd_fr g a_co a_ju a_jb a_ch a_rd a_fr a_ub a_wr r_ju (vp_updL r_rd x1.toNatClampNeg ((r_rd x1.toNatClampNeg) ||| x3)) (vp_updL r_fr x1.toNatClampNeg ((r_fr x1.toNatClampNeg) ||| x3))) H := hP
    have hD : va_D A (w_ju_rd_fr g a_co a_ju a_jb a_ch a_rd a_fr a_ub a_wr r_ju (vp_updL r_rd x1.toNatClampNeg ((r_rd x1.toNatClampNeg) ||| x3)) (vp_updL r_fr x1.toNatClampNeg ((r_fr x1.toNatClampNeg) ||| x3))) := hD
    refine lv_aload_n hx hb d_Ju_reach_54 rfl (lv_at hl 2 rfl) ?_
    refine lv_iconst (v := 1) hx hb d_Ju_reach_55 (by decide) ?_
    refine va_put (D := g.1) (ci := 2) (v := .int 1) (ty := .boolean) (C := "MoveDesk$Judge") (T := F_Ju) (N := 10) hx hb hts i_Ju t_Ju t_Ju_ok n_Ju hown hK hP hD hS 0 rfl rfl 7 (by decide) (hts _ m_246) (fun _ h9 => h9) rfl (by decide +kernel) rfl rfl (Nat.le_of_ble_eq_true rfl) d_Ju_reach_56 (fun H locs hP hD hS => ?_)
    have hP : va_P g.1 classes (w_ju_rd_fr g a_co a_ju a_jb a_ch a_rd a_fr a_ub a_wr (upd r_ju 7 1) (vp_updL r_rd x1.toNatClampNeg ((r_rd x1.toNatClampNeg) ||| x3)) (vp_updL r_fr x1.toNatClampNeg ((r_fr x1.toNatClampNeg) ||| x3))) H := hP
    have hD : va_D A (w_ju_rd_fr g a_co a_ju a_jb a_ch a_rd a_fr a_ub a_wr (upd r_ju 7 1) (vp_updL r_rd x1.toNatClampNeg ((r_rd x1.toNatClampNeg) ||| x3)) (vp_updL r_fr x1.toNatClampNeg ((r_fr x1.toNatClampNeg) ||| x3))) := hD
    have hE := Option.some.inj hE
    rw [hE]
    exact W.vret hx hb hr (fun t ht hW => ⟨⟨rfl, by rw [ht]; exact hP, va_K.moved hW.alike hK, hD⟩, hS.F ht⟩) hS.2.2 d_Ju_reach_59 hlocks
abbrev rm_Ju_start : Room := { frames := 3, cells := 0, slots := 0, locals := 68 }
set_option maxHeartbeats 4000000 in
set_option maxRecDepth 100000 in
theorem wl_Ju_start_31 {p : Program} {l : Launch} {e : Env} {s : State} {m : MethodId} {args : Array Value} {below : List Frame} {meth : Method} {c : Code} {A : Nat → Prop} {g : GT} {a_co : Nat} {a_ta : Nat} {a_gu : Nat} {a_so : Nat} {a_cn : Nat} {a_de : Nat} {a_ju : Nat} {a_jb : Nat} {a_ch : Nat} {a_rd : Nat} {a_fr : Nat} {a_ub : Nat} {a_wr : Nat} {y : (Nat → Int32) × (Nat → Int32) × (Nat → Int64) × (Nat → Int64)} (M : MX p s m args meth c b_Ju_start 2 none "MoveDesk$Judge" g A) : ∀ n : Nat, ∀ (r_co : Nat → Int32) (r_ta : Nat → Int32) (r_gu : Nat → Int32) (r_ju : Nat → Int32) (r_ch : Nat → Int32) (r_rd : Nat → Int64) (r_fr : Nat → Int64) (v1 : Int32) (H : Heap) (locs : List Loc) (ls : Array Slot), some y = (f_Ju_start_31 n) r_co r_ta r_gu r_ju r_ch r_rd r_fr v1 → va_P g.1 classes (w_co_7_2007 g a_co a_ta a_gu a_so a_cn a_de a_ju a_jb a_ch a_rd a_fr a_ub a_wr r_co r_ta r_gu r_ju r_ch r_rd r_fr) H → va_D A (w_co_7_2007 g a_co a_ta a_gu a_so a_cn a_de a_ju a_jb a_ch a_rd a_fr a_ub a_wr r_co r_ta r_gu r_ju r_ch r_rd r_fr) → va_S A s.heap H locs → lv_has ls 2 [(0, .ref a_ju), (1, .int v1)] → W p l e rm_Ju_start s m args below meth c H locs 0 0 (MQ below (QW g none (w_co_7_2007 g a_co a_ta a_gu a_so a_cn a_de a_ju a_jb a_ch a_rd a_fr a_ub a_wr r_co r_ta r_gu y.1 y.2.1 y.2.2.1 y.2.2.2) A) args s 0 0 A) (F0 m 31 ls []) := by
  obtain ⟨hx, hb, hr, hml, hown, hts, hlocks, hA, hK, hG⟩ := id M
  intro n
  induction n with
  | zero =>
    intro r_co r_ta r_gu r_ju r_ch r_rd r_fr v1 H locs ls hE hP hD hS hl
    rw [f_Ju_start_31] at hE
    cases hE
  | succ n ih =>
    intro r_co r_ta r_gu r_ju r_ch r_rd r_fr v1 H locs ls hE hP hD hS hl
    rw [f_Ju_start_31] at hE
    refine lv_iload_n hx hb d_Ju_start_31 rfl (lv_at hl 1 rfl) ?_
    refine lv_bipush (v := 64) hx hb d_Ju_start_32 (by decide) ?_
    refine lv_icmp_ge (tgt := 54) hx hb d_Ju_start_34 (by decide) (fun c1 => ?_) (fun c1 => ?_)
    · have hE := it_t hE c1
      refine lv_aload_n hx hb d_Ju_start_54 rfl (lv_at hl 0 rfl) ?_
      refine lv_iconst (v := (-1)) hx hb d_Ju_start_55 (by decide) ?_
      refine va_put (D := g.1) (ci := 2) (v := .int (-1)) (ty := .int) (C := "MoveDesk$Judge") (T := F_Ju) (N := 10) hx hb hts i_Ju t_Ju t_Ju_ok n_Ju hown hK hP hD hS 3 rfl rfl 8 (by decide) (hts _ m_247) (fun _ h9 => h9) rfl (by decide +kernel) rfl rfl (Nat.le_of_ble_eq_true rfl) d_Ju_start_56 (fun H locs hP hD hS => ?_)
      have hP : va_P g.1 classes (w_co_7_2007 g a_co a_ta a_gu a_so a_cn a_de a_ju a_jb a_ch a_rd a_fr a_ub a_wr r_co r_ta r_gu (upd r_ju 8 (-1)) r_ch r_rd r_fr) H := hP
      have hD : va_D A (w_co_7_2007 g a_co a_ta a_gu a_so a_cn a_de a_ju a_jb a_ch a_rd a_fr a_ub a_wr r_co r_ta r_gu (upd r_ju 8 (-1)) r_ch r_rd r_fr) := hD
      refine lv_aload_n hx hb d_Ju_start_59 rfl (lv_at hl 0 rfl) ?_
      refine lv_iconst (v := 0) hx hb d_Ju_start_60 (by decide) ?_
      refine va_put (D := g.1) (ci := 2) (v := .int 0) (ty := .int) (C := "MoveDesk$Judge") (T := F_Ju) (N := 10) hx hb hts i_Ju t_Ju t_Ju_ok n_Ju hown hK hP hD hS 3 rfl rfl 9 (by decide) (hts _ m_248) (fun _ h9 => h9) rfl (by decide +kernel) rfl rfl (Nat.le_of_ble_eq_true rfl) d_Ju_start_61 (fun H locs hP hD hS => ?_)
      have hP : va_P g.1 classes (w_co_7_2007 g a_co a_ta a_gu a_so a_cn a_de a_ju a_jb a_ch a_rd a_fr a_ub a_wr r_co r_ta r_gu (upd (upd r_ju 8 (-1)) 9 0) r_ch r_rd r_fr) H := hP
      have hD : va_D A (w_co_7_2007 g a_co a_ta a_gu a_so a_cn a_de a_ju a_jb a_ch a_rd a_fr a_ub a_wr r_co r_ta r_gu (upd (upd r_ju 8 (-1)) 9 0) r_ch r_rd r_fr) := hD
      refine lv_aload_n hx hb d_Ju_start_64 rfl (lv_at hl 0 rfl) ?_
      refine lv_iconst (v := 0) hx hb d_Ju_start_65 (by decide) ?_
      refine lv_iconst (v := 0) hx hb d_Ju_start_66 (by decide) ?_
      refine lv_lconst (v := 1) hx hb d_Ju_start_67 (by decide) ?_
      obtain ⟨y2, hy2, hE⟩ := bd_at hE
      refine kV (C := "MoveDesk$Judge") (index := 71) (As := [.int 0, .int 0, .long 1]) (rest := []) (ws2 := (w_co_7_2007 g a_co a_ta a_gu a_so a_cn a_de a_ju a_jb a_ch a_rd a_fr a_ub a_wr r_co r_ta r_gu y2.1 r_ch y2.2.1 y2.2.2)) M hP hD hS hl.1 (c_Ju_reach l g a_co a_ju a_jb a_ch a_rd a_fr a_ub a_wr (upd (upd r_ju 8 (-1)) 9 0) r_rd r_fr (0 : Int32) (0 : Int32) (1 : Int64) y2 hy2) m_360 m_362 s_2 m_8 m_363 hd_Ju_reach rfl rfl rfl ⟨by decide, by decide⟩ ⟨by decide, by decide⟩ 2 0 rfl rfl rfl [3, 5, 6] [0, 1, 2, 4] [0, 1, 2, 4, 3, 5, 6] rfl rfl rfl rfl (by decide) rfl rfl rfl (Nat.le_of_ble_eq_true rfl) d_Ju_start_68 (fun H locs hP hD hS => ?_)
      refine W.eq (g2 := F0 m 71 ls []) rfl ?_
      have hE := Option.some.inj hE
      rw [hE]
      exact W.vret hx hb hr (fun t ht hW => ⟨⟨rfl, by rw [ht]; exact hP, va_K.moved hW.alike hK, hD⟩, hS.F ht⟩) hS.2.2 d_Ju_start_71 hlocks
    · have hE := it_f hE c1
      refine lv_aload_n hx hb d_Ju_start_37 rfl (lv_at hl 0 rfl) ?_
      refine va_get (D := g.1) (ci := 2) (v := .ref a_ch) (C := "MoveDesk$Judge") (T := F_Ju) (N := 10) hx hb hts i_Ju hown hK hP 3 rfl rfl 2 (by decide) (hts _ m_241) (fun _ h9 => h9) rfl d_Ju_start_38 ?_
      refine lv_iload_n hx hb d_Ju_start_41 rfl (lv_at hl 1 rfl) ?_
      refine lv_aload_n hx hb d_Ju_start_42 rfl (lv_at hl 0 rfl) ?_
      refine lv_iload_n hx hb d_Ju_start_43 rfl (lv_at hl 1 rfl) ?_
      obtain ⟨y3, hy3, hE⟩ := bd_at hE
      refine kV (C := "MoveDesk$Judge") (index := 67) (As := [.int v1]) (rest := [.int v1, .ref a_ch]) (ws2 := (w_co_7_2007 g a_co a_ta a_gu a_so a_cn a_de a_ju a_jb a_ch a_rd a_fr a_ub a_wr r_co r_ta r_gu r_ju r_ch r_rd r_fr)) M hP hD hS hl.1 (c_Ju_choicesIn l g a_co a_ta a_gu a_so a_cn a_de a_ju a_jb a_ch a_rd a_fr a_ub a_wr r_co r_ta r_gu r_ju v1 y3 hy3) m_349 m_351 s_1 m_8 m_352 hd_Ju_choicesIn rfl rfl rfl ⟨by decide, by decide⟩ ⟨by decide, by decide⟩ 2 3 rfl rfl rfl [0, 1, 2, 3] [4, 5, 6] [3, 4, 5, 6, 0, 1, 2] rfl rfl rfl rfl (by decide) rfl rfl rfl (Nat.le_of_ble_eq_true rfl) d_Ju_start_44 (fun H locs hP hD hS => ?_)
      refine W.eq (g2 := F0 m 47 ls [.int y3, .int v1, .ref a_ch]) rfl ?_
      have ⟨h4, hE⟩ := ck_at hE
      refine va_iast hx hb hK hP hD hS 4 0 rfl rfl h4 d_Ju_start_47 (fun H locs hP hD hS => ?_)
      have hP : va_P g.1 classes (w_co_7_2007 g a_co a_ta a_gu a_so a_cn a_de a_ju a_jb a_ch a_rd a_fr a_ub a_wr r_co r_ta r_gu r_ju (upd r_ch v1.toNatClampNeg y3) r_rd r_fr) H := hP
      have hD : va_D A (w_co_7_2007 g a_co a_ta a_gu a_so a_cn a_de a_ju a_jb a_ch a_rd a_fr a_ub a_wr r_co r_ta r_gu r_ju (upd r_ch v1.toNatClampNeg y3) r_rd r_fr) := hD
      obtain ⟨x5, ex5⟩ : ∃ z : Int32, z = v1 + 1 := ⟨_, rfl⟩
      have hE := nm_at hE ex5
      refine lv_iinc (v := x5) (lv' := [(1, .int x5), (0, .ref a_ju)]) hx hb d_Ju_start_48 hl (k := 1) rfl (by rw [ex5]; rfl) (by decide) rfl (fun ls hl => ?_)
      refine lv_goto (tgt := 31) hx hb d_Ju_start_51 (by decide) ?_
      exact ih _ _ _ _ _ _ _ _ _ _ _ hE hP hD hS (lv_sub hl [1, 0] rfl)
set_option maxHeartbeats 4000000 in
set_option maxRecDepth 100000 in
theorem wl_Ju_start_2 {p : Program} {l : Launch} {e : Env} {s : State} {m : MethodId} {args : Array Value} {below : List Frame} {meth : Method} {c : Code} {A : Nat → Prop} {g : GT} {a_co : Nat} {a_ta : Nat} {a_gu : Nat} {a_so : Nat} {a_cn : Nat} {a_de : Nat} {a_ju : Nat} {a_jb : Nat} {a_ch : Nat} {a_rd : Nat} {a_fr : Nat} {a_ub : Nat} {a_wr : Nat} {y : (Nat → Int32) × (Nat → Int32) × (Nat → Int64) × (Nat → Int64)} (M : MX p s m args meth c b_Ju_start 2 none "MoveDesk$Judge" g A) : ∀ n : Nat, ∀ (r_co : Nat → Int32) (r_ta : Nat → Int32) (r_gu : Nat → Int32) (r_ju : Nat → Int32) (r_ch : Nat → Int32) (r_rd : Nat → Int64) (r_fr : Nat → Int64) (v1 : Int32) (H : Heap) (locs : List Loc) (ls : Array Slot), some y = (f_Ju_start_2 n) r_co r_ta r_gu r_ju r_ch r_rd r_fr v1 → va_P g.1 classes (w_co_7_2007 g a_co a_ta a_gu a_so a_cn a_de a_ju a_jb a_ch a_rd a_fr a_ub a_wr r_co r_ta r_gu r_ju r_ch r_rd r_fr) H → va_D A (w_co_7_2007 g a_co a_ta a_gu a_so a_cn a_de a_ju a_jb a_ch a_rd a_fr a_ub a_wr r_co r_ta r_gu r_ju r_ch r_rd r_fr) → va_S A s.heap H locs → lv_has ls 2 [(0, .ref a_ju), (1, .int v1)] → W p l e rm_Ju_start s m args below meth c H locs 0 0 (MQ below (QW g none (w_co_7_2007 g a_co a_ta a_gu a_so a_cn a_de a_ju a_jb a_ch a_rd a_fr a_ub a_wr r_co r_ta r_gu y.1 y.2.1 y.2.2.1 y.2.2.2) A) args s 0 0 A) (F0 m 2 ls []) := by
  obtain ⟨hx, hb, hr, hml, hown, hts, hlocks, hA, hK, hG⟩ := id M
  intro n
  induction n with
  | zero =>
    intro r_co r_ta r_gu r_ju r_ch r_rd r_fr v1 H locs ls hE hP hD hS hl
    rw [f_Ju_start_2] at hE
    cases hE
  | succ n ih =>
    intro r_co r_ta r_gu r_ju r_ch r_rd r_fr v1 H locs ls hE hP hD hS hl
    rw [f_Ju_start_2] at hE
    refine lv_iload_n hx hb d_Ju_start_2 rfl (lv_at hl 1 rfl) ?_
    refine lv_sipush (v := 576) hx hb d_Ju_start_3 (by decide) ?_
    refine lv_icmp_ge (tgt := 29) hx hb d_Ju_start_6 (by decide) (fun c1 => ?_) (fun c1 => ?_)
    · have hE := it_t hE c1
      refine lv_iconst (v := 0) hx hb d_Ju_start_29 (by decide) ?_
      refine lv_istore_n (lv' := [(1, .int 0), (0, .ref a_ju)]) hx hb d_Ju_start_30 rfl hl (by decide) rfl (fun ls hl => ?_)
      exact wl_Ju_start_31 M 5000 _ _ _ _ _ _ _ _ _ _ _ hE hP hD hS (lv_sub hl [1, 0] rfl)
    · have hE := it_f hE c1
      refine lv_aload_n hx hb d_Ju_start_9 rfl (lv_at hl 0 rfl) ?_
      refine va_get (D := g.1) (ci := 2) (v := .ref a_rd) (C := "MoveDesk$Judge") (T := F_Ju) (N := 10) hx hb hts i_Ju hown hK hP 3 rfl rfl 3 (by decide) (hts _ m_242) (fun _ h9 => h9) rfl d_Ju_start_10 ?_
      refine lv_iload_n hx hb d_Ju_start_13 rfl (lv_at hl 1 rfl) ?_
      refine lv_lconst (v := 0) hx hb d_Ju_start_14 (by decide) ?_
      have ⟨h2, hE⟩ := ck_at hE
      refine va_last hx hb hK hP hD hS 5 2 rfl rfl h2 d_Ju_start_15 (fun H locs hP hD hS => ?_)
      have hP : va_P g.1 classes (w_co_7_2007 g a_co a_ta a_gu a_so a_cn a_de a_ju a_jb a_ch a_rd a_fr a_ub a_wr r_co r_ta r_gu r_ju r_ch (vp_updL r_rd v1.toNatClampNeg (0 : Int64)) r_fr) H := hP
      have hD : va_D A (w_co_7_2007 g a_co a_ta a_gu a_so a_cn a_de a_ju a_jb a_ch a_rd a_fr a_ub a_wr r_co r_ta r_gu r_ju r_ch (vp_updL r_rd v1.toNatClampNeg (0 : Int64)) r_fr) := hD
      refine lv_aload_n hx hb d_Ju_start_16 rfl (lv_at hl 0 rfl) ?_
      refine va_get (D := g.1) (ci := 2) (v := .ref a_fr) (C := "MoveDesk$Judge") (T := F_Ju) (N := 10) hx hb hts i_Ju hown hK hP 3 rfl rfl 4 (by decide) (hts _ m_243) (fun _ h9 => h9) rfl d_Ju_start_17 ?_
      refine lv_iload_n hx hb d_Ju_start_20 rfl (lv_at hl 1 rfl) ?_
      refine lv_lconst (v := 0) hx hb d_Ju_start_21 (by decide) ?_
      have ⟨h3, hE⟩ := ck_at hE
      refine va_last hx hb hK hP hD hS 6 2 rfl rfl h3 d_Ju_start_22 (fun H locs hP hD hS => ?_)
      have hP : va_P g.1 classes (w_co_7_2007 g a_co a_ta a_gu a_so a_cn a_de a_ju a_jb a_ch a_rd a_fr a_ub a_wr r_co r_ta r_gu r_ju r_ch (vp_updL r_rd v1.toNatClampNeg (0 : Int64)) (vp_updL r_fr v1.toNatClampNeg (0 : Int64))) H := hP
      have hD : va_D A (w_co_7_2007 g a_co a_ta a_gu a_so a_cn a_de a_ju a_jb a_ch a_rd a_fr a_ub a_wr r_co r_ta r_gu r_ju r_ch (vp_updL r_rd v1.toNatClampNeg (0 : Int64)) (vp_updL r_fr v1.toNatClampNeg (0 : Int64))) := hD
      obtain ⟨x4, ex4⟩ : ∃ z : Int32, z = v1 + 1 := ⟨_, rfl⟩
      have hE := nm_at hE ex4
      refine lv_iinc (v := x4) (lv' := [(1, .int x4), (0, .ref a_ju)]) hx hb d_Ju_start_23 hl (k := 1) rfl (by rw [ex4]; rfl) (by decide) rfl (fun ls hl => ?_)
      refine lv_goto (tgt := 2) hx hb d_Ju_start_26 (by decide) ?_
      exact ih _ _ _ _ _ _ _ _ _ _ _ hE hP hD hS (lv_sub hl [1, 0] rfl)
set_option maxHeartbeats 4000000 in
set_option maxRecDepth 100000 in
theorem c_Ju_start (l : Launch) (g : GT) (a_co : Nat) (a_ta : Nat) (a_gu : Nat) (a_so : Nat) (a_cn : Nat) (a_de : Nat) (a_ju : Nat) (a_jb : Nat) (a_ch : Nat) (a_rd : Nat) (a_fr : Nat) (a_ub : Nat) (a_wr : Nat) (r_co : Nat → Int32) (r_ta : Nat → Int32) (r_gu : Nat → Int32) (r_ju : Nat → Int32) (r_ch : Nat → Int32) (r_rd : Nat → Int64) (r_fr : Nat → Int64)  (y : (Nat → Int32) × (Nat → Int32) × (Nat → Int64) × (Nat → Int64)) (hy : some y = f_Ju_start r_co r_ta r_gu r_ju r_ch r_rd r_fr) : Ct l y_Ju_start (.code y_Ju_start b_Ju_start 2 none) rm_Ju_start g [.ref a_ju] (w_co_7_2007 g a_co a_ta a_gu a_so a_cn a_de a_ju a_jb a_ch a_rd a_fr a_ub a_wr r_co r_ta r_gu r_ju r_ch r_rd r_fr) (w_co_7_2007 g a_co a_ta a_gu a_so a_cn a_de a_ju a_jb a_ch a_rd a_fr a_ub a_wr r_co r_ta r_gu y.1 y.2.1 y.2.2.1 y.2.2.2) none := by
  refine ct_in (C := "MoveDesk$Judge") rfl (by decide) (Nat.le_of_ble_eq_true rfl) (fun p e s m below meth c A ls M hP hD hS hl => ?_)
  obtain ⟨hx, hb, hr, hml, hown, hts, hlocks, hA, hK, hG⟩ := id M
  have hl : lv_has ls 2 [(0, .ref a_ju)] := hl
  have hE := hy
  rw [f_Ju_start] at hE
  refine lv_iconst (v := 0) hx hb d_Ju_start_0 (by decide) ?_
  refine lv_istore_n (lv' := [(1, .int 0), (0, .ref a_ju)]) hx hb d_Ju_start_1 rfl hl (by decide) rfl (fun ls hl => ?_)
  exact wl_Ju_start_2 M 5000 _ _ _ _ _ _ _ _ _ _ _ hE hP hD hS (lv_sub hl [1, 0] rfl)
abbrev rm_Ju_blame : Room := { frames := 1, cells := 0, slots := 0, locals := 14 }
set_option maxHeartbeats 4000000 in
set_option maxRecDepth 100000 in
theorem wl_Ju_blame_16 {p : Program} {l : Launch} {e : Env} {s : State} {m : MethodId} {args : Array Value} {below : List Frame} {meth : Method} {c : Code} {A : Nat → Prop} {g : GT} {a_co : Nat} {a_ju : Nat} {a_jb : Nat} {a_ch : Nat} {a_rd : Nat} {a_fr : Nat} {a_ub : Nat} {a_wr : Nat} {y : (Nat → Int32)} (M : MX p s m args meth c b_Ju_blame 3 none "MoveDesk$Judge" g A) : ∀ (r_ju : Nat → Int32) (v1 : Int32) (v2 : Int32) (H : Heap) (locs : List Loc) (ls : Array Slot), some y = f_Ju_blame_16 r_ju v1 v2 → va_P g.1 classes (w_ju g a_co a_ju a_jb a_ch a_rd a_fr a_ub a_wr r_ju) H → va_D A (w_ju g a_co a_ju a_jb a_ch a_rd a_fr a_ub a_wr r_ju) → va_S A s.heap H locs → lv_has ls 3 [(0, .ref a_ju), (1, .int v1), (2, .int v2)] → W p l e rm_Ju_blame s m args below meth c H locs 0 0 (MQ below (QW g none (w_ju g a_co a_ju a_jb a_ch a_rd a_fr a_ub a_wr y) A) args s 0 0 A) (F0 m 16 ls []) := by
  obtain ⟨hx, hb, hr, hml, hown, hts, hlocks, hA, hK, hG⟩ := id M
  intro r_ju v1 v2 H locs ls hE hP hD hS hl
  rw [f_Ju_blame_16] at hE
  refine lv_aload_n hx hb d_Ju_blame_16 rfl (lv_at hl 0 rfl) ?_
  refine lv_iload_n hx hb d_Ju_blame_17 rfl (lv_at hl 1 rfl) ?_
  refine va_put (D := g.1) (ci := 2) (v := .int v1) (ty := .int) (C := "MoveDesk$Judge") (T := F_Ju) (N := 10) hx hb hts i_Ju t_Ju t_Ju_ok n_Ju hown hK hP hD hS 0 rfl rfl 8 (by decide) (hts _ m_247) (fun _ h9 => h9) rfl (by decide +kernel) rfl rfl (Nat.le_of_ble_eq_true rfl) d_Ju_blame_18 (fun H locs hP hD hS => ?_)
  have hP : va_P g.1 classes (w_ju g a_co a_ju a_jb a_ch a_rd a_fr a_ub a_wr (upd r_ju 8 v1)) H := hP
  have hD : va_D A (w_ju g a_co a_ju a_jb a_ch a_rd a_fr a_ub a_wr (upd r_ju 8 v1)) := hD
  refine lv_aload_n hx hb d_Ju_blame_21 rfl (lv_at hl 0 rfl) ?_
  refine lv_iload_n hx hb d_Ju_blame_22 rfl (lv_at hl 2 rfl) ?_
  refine va_put (D := g.1) (ci := 2) (v := .int v2) (ty := .int) (C := "MoveDesk$Judge") (T := F_Ju) (N := 10) hx hb hts i_Ju t_Ju t_Ju_ok n_Ju hown hK hP hD hS 0 rfl rfl 9 (by decide) (hts _ m_248) (fun _ h9 => h9) rfl (by decide +kernel) rfl rfl (Nat.le_of_ble_eq_true rfl) d_Ju_blame_23 (fun H locs hP hD hS => ?_)
  have hP : va_P g.1 classes (w_ju g a_co a_ju a_jb a_ch a_rd a_fr a_ub a_wr (upd (upd r_ju 8 v1) 9 v2)) H := hP
  have hD : va_D A (w_ju g a_co a_ju a_jb a_ch a_rd a_fr a_ub a_wr (upd (upd r_ju 8 v1) 9 v2)) := hD
  refine lv_goto (tgt := 49) hx hb d_Ju_blame_26 (by decide) ?_
  have hE := Option.some.inj hE
  rw [hE]
  exact W.vret hx hb hr (fun t ht hW => ⟨⟨rfl, by rw [ht]; exact hP, va_K.moved hW.alike hK, hD⟩, hS.F ht⟩) hS.2.2 d_Ju_blame_49 hlocks
set_option maxHeartbeats 4000000 in
set_option maxRecDepth 100000 in
theorem c_Ju_blame (l : Launch) (g : GT) (a_co : Nat) (a_ju : Nat) (a_jb : Nat) (a_ch : Nat) (a_rd : Nat) (a_fr : Nat) (a_ub : Nat) (a_wr : Nat) (r_ju : Nat → Int32) (v1 : Int32) (v2 : Int32) (y : (Nat → Int32)) (hy : some y = f_Ju_blame r_ju v1 v2) : Ct l y_Ju_blame (.code y_Ju_blame b_Ju_blame 3 none) rm_Ju_blame g [.ref a_ju, .int v1, .int v2] (w_ju g a_co a_ju a_jb a_ch a_rd a_fr a_ub a_wr r_ju) (w_ju g a_co a_ju a_jb a_ch a_rd a_fr a_ub a_wr y) none := by
  refine ct_in (C := "MoveDesk$Judge") rfl (by decide) (Nat.le_of_ble_eq_true rfl) (fun p e s m below meth c A ls M hP hD hS hl => ?_)
  obtain ⟨hx, hb, hr, hml, hown, hts, hlocks, hA, hK, hG⟩ := id M
  have hl : lv_has ls 3 [(0, .ref a_ju), (1, .int v1), (2, .int v2)] := hl
  have hE := hy
  rw [f_Ju_blame] at hE
  refine lv_aload_n hx hb d_Ju_blame_0 rfl (lv_at hl 0 rfl) ?_
  refine va_get (D := g.1) (ci := 2) (v := .int (r_ju 8)) (C := "MoveDesk$Judge") (T := F_Ju) (N := 10) hx hb hts i_Ju hown hK hP 0 rfl rfl 8 (by decide) (hts _ m_247) (fun _ h9 => h9) rfl d_Ju_blame_1 ?_
  refine lv_iconst (v := (-1)) hx hb d_Ju_blame_4 (by decide) ?_
  refine lv_icmp_eq (tgt := 16) hx hb d_Ju_blame_5 (by decide) (fun c1 => ?_) (fun c1 => ?_)
  · have hE := it_t hE c1
    exact wl_Ju_blame_16 M _ _ _ _ _ _ hE hP hD hS (lv_sub hl [0, 1, 2] rfl)
  · have hE := it_f hE c1
    refine lv_iload_n hx hb d_Ju_blame_8 rfl (lv_at hl 1 rfl) ?_
    refine lv_aload_n hx hb d_Ju_blame_9 rfl (lv_at hl 0 rfl) ?_
    refine va_get (D := g.1) (ci := 2) (v := .int (r_ju 8)) (C := "MoveDesk$Judge") (T := F_Ju) (N := 10) hx hb hts i_Ju hown hK hP 0 rfl rfl 8 (by decide) (hts _ m_247) (fun _ h9 => h9) rfl d_Ju_blame_10 ?_
    refine lv_icmp_ge (tgt := 29) hx hb d_Ju_blame_13 (by decide) (fun c2 => ?_) (fun c2 => ?_)
    · have hE := it_t hE c2
      refine lv_iload_n hx hb d_Ju_blame_29 rfl (lv_at hl 1 rfl) ?_
      refine lv_aload_n hx hb d_Ju_blame_30 rfl (lv_at hl 0 rfl) ?_
      refine va_get (D := g.1) (ci := 2) (v := .int (r_ju 8)) (C := "MoveDesk$Judge") (T := F_Ju) (N := 10) hx hb hts i_Ju hown hK hP 0 rfl rfl 8 (by decide) (hts _ m_247) (fun _ h9 => h9) rfl d_Ju_blame_31 ?_
      refine lv_icmp_ne (tgt := 49) hx hb d_Ju_blame_34 (by decide) (fun c3 => ?_) (fun c3 => ?_)
      · have hE := it_f hE c3
        have hE := Option.some.inj hE
        rw [hE]
        exact W.vret hx hb hr (fun t ht hW => ⟨⟨rfl, by rw [ht]; exact hP, va_K.moved hW.alike hK, hD⟩, hS.F ht⟩) hS.2.2 d_Ju_blame_49 hlocks
      · have hE := it_t hE c3
        refine lv_aload_n hx hb d_Ju_blame_37 rfl (lv_at hl 0 rfl) ?_
        refine lv_aload_n hx hb d_Ju_blame_38 rfl (lv_at hl 0 rfl) ?_
        refine va_get (D := g.1) (ci := 2) (v := .int (r_ju 9)) (C := "MoveDesk$Judge") (T := F_Ju) (N := 10) hx hb hts i_Ju hown hK hP 0 rfl rfl 9 (by decide) (hts _ m_248) (fun _ h9 => h9) rfl d_Ju_blame_39 ?_
        refine lv_iload_n hx hb d_Ju_blame_42 rfl (lv_at hl 2 rfl) ?_
        refine va_mmin hx hb (hml.trans hl.1.symm) hown (hts _ m_407) (hts _ m_28) (hts _ m_2) (hts _ m_29) (by decide) (Nat.le_of_ble_eq_true rfl) (by decide) (by decide) d_Ju_blame_43 ?_
        refine lv_topi (fun x4 ex4 => ?_)
        have hE := nm_at hE ex4
        refine va_put (D := g.1) (ci := 2) (v := .int x4) (ty := .int) (C := "MoveDesk$Judge") (T := F_Ju) (N := 10) hx hb hts i_Ju t_Ju t_Ju_ok n_Ju hown hK hP hD hS 0 rfl rfl 9 (by decide) (hts _ m_248) (fun _ h9 => h9) rfl (by decide +kernel) rfl rfl (Nat.le_of_ble_eq_true rfl) d_Ju_blame_46 (fun H locs hP hD hS => ?_)
        have hP : va_P g.1 classes (w_ju g a_co a_ju a_jb a_ch a_rd a_fr a_ub a_wr (upd r_ju 9 x4)) H := hP
        have hD : va_D A (w_ju g a_co a_ju a_jb a_ch a_rd a_fr a_ub a_wr (upd r_ju 9 x4)) := hD
        have hE := Option.some.inj hE
        rw [hE]
        exact W.vret hx hb hr (fun t ht hW => ⟨⟨rfl, by rw [ht]; exact hP, va_K.moved hW.alike hK, hD⟩, hS.F ht⟩) hS.2.2 d_Ju_blame_49 hlocks
    · have hE := it_f hE c2
      exact wl_Ju_blame_16 M _ _ _ _ _ _ hE hP hD hS (lv_sub hl [0, 1, 2] rfl)
abbrev rm_Ju_older : Room := { frames := 0, cells := 0, slots := 0, locals := 0 }
set_option maxHeartbeats 4000000 in
set_option maxRecDepth 100000 in
theorem wl_Ju_older_47 {p : Program} {l : Launch} {e : Env} {s : State} {m : MethodId} {args : Array Value} {below : List Frame} {meth : Method} {c : Code} {A : Nat → Prop} {g : GT} {a_co : Nat} {a_ju : Nat} {a_jb : Nat} {a_ch : Nat} {a_rd : Nat} {a_fr : Nat} {a_ub : Nat} {a_wr : Nat} {y : Int64} (M : MX p s m args meth c b_Ju_older 8 (some .long) "MoveDesk$Judge" g A) (rec_5 : (Nat → Int32) → (Nat → Int32) → (Nat → Int64) → (Nat → Int64) → Int64 → Int32 → Option (Int64)) (hrec_5 : ∀ (r_ju : Nat → Int32) (r_jb : Nat → Int32) (r_ub : Nat → Int64) (r_wr : Nat → Int64) (v3 : Int64) (v5 : Int32) (H : Heap) (locs : List Loc) (ls : Array Slot), some y = rec_5 r_ju r_jb r_ub r_wr v3 v5 → va_P g.1 classes (w_ju_jb_ub_wr g a_co a_ju a_jb a_ch a_rd a_fr a_ub a_wr r_ju r_jb r_ub r_wr) H → va_D A (w_ju_jb_ub_wr g a_co a_ju a_jb a_ch a_rd a_fr a_ub a_wr r_ju r_jb r_ub r_wr) → va_S A s.heap H locs → lv_has ls 8 [(0, .ref a_ju), (3, .long v3), (5, .int v5)] → W p l e rm_Ju_older s m args below meth c H locs 0 0 (MQ below (QW g (some (.long y)) (w_ju_jb_ub_wr g a_co a_ju a_jb a_ch a_rd a_fr a_ub a_wr r_ju r_jb r_ub r_wr) A) args s 0 0 A) (F0 m 5 ls [])) : ∀ (r_ju : Nat → Int32) (r_jb : Nat → Int32) (r_ub : Nat → Int64) (r_wr : Nat → Int64) (v3 : Int64) (v5 : Int32) (v6 : Int64) (H : Heap) (locs : List Loc) (ls : Array Slot), some y = (f_Ju_older_47 rec_5) r_ju r_jb r_ub r_wr v3 v5 v6 → va_P g.1 classes (w_ju_jb_ub_wr g a_co a_ju a_jb a_ch a_rd a_fr a_ub a_wr r_ju r_jb r_ub r_wr) H → va_D A (w_ju_jb_ub_wr g a_co a_ju a_jb a_ch a_rd a_fr a_ub a_wr r_ju r_jb r_ub r_wr) → va_S A s.heap H locs → lv_has ls 8 [(0, .ref a_ju), (3, .long v3), (5, .int v5), (6, .long v6)] → W p l e rm_Ju_older s m args below meth c H locs 0 0 (MQ below (QW g (some (.long y)) (w_ju_jb_ub_wr g a_co a_ju a_jb a_ch a_rd a_fr a_ub a_wr r_ju r_jb r_ub r_wr) A) args s 0 0 A) (F0 m 47 ls []) := by
  obtain ⟨hx, hb, hr, hml, hown, hts, hlocks, hA, hK, hG⟩ := id M
  intro r_ju r_jb r_ub r_wr v3 v5 v6 H locs ls hE hP hD hS hl
  rw [f_Ju_older_47] at hE
  refine lv_lload_n hx hb d_Ju_older_47 rfl (lv_at hl 1 rfl) ?_
  refine lv_lload hx hb d_Ju_older_48 (lv_at hl 3 rfl) ?_
  refine lv_land hx hb d_Ju_older_50 ?_
  refine lv_lload_n hx hb d_Ju_older_51 rfl (lv_at hl 1 rfl) ?_
  refine lv_lload hx hb d_Ju_older_52 (lv_at hl 3 rfl) ?_
  refine lv_ldc2 hx hb hown (hts _ m_364) d_Ju_older_54 ?_
  refine lv_lxor hx hb d_Ju_older_57 ?_
  refine lv_land hx hb d_Ju_older_58 ?_
  refine va_gets hx hb hG.2.2.1.1 hS hown (hts _ m_235) (fun _ h9 => h9) d_Ju_older_59 ?_
  refine lv_iload hx hb d_Ju_older_62 (lv_at hl 2 rfl) ?_
  have ⟨h1, hE⟩ := ck_at hE
  refine va_ti hx hb hG.2.2.1.2 hS h1 rfl d_Ju_older_64 ?_
  refine lv_lshl hx hb d_Ju_older_65 rfl ?_
  refine lv_lor hx hb d_Ju_older_66 ?_
  refine lv_topl (fun x2 ex2 => ?_)
  have hE := nm_at hE ex2
  refine lv_lstore_n (lv' := [(3, .long x2), (0, .ref a_ju), (5, .int v5), (6, .long v6)]) hx hb d_Ju_older_67 rfl hl (by decide) rfl (fun ls hl => ?_)
  obtain ⟨x3, ex3⟩ : ∃ z : Int32, z = v5 + 1 := ⟨_, rfl⟩
  have hE := nm_at hE ex3
  refine lv_iinc (v := x3) (lv' := [(5, .int x3), (3, .long x2), (0, .ref a_ju), (6, .long v6)]) hx hb d_Ju_older_68 hl (k := 2) rfl (by rw [ex3]; rfl) (by decide) rfl (fun ls hl => ?_)
  refine lv_goto (tgt := 5) hx hb d_Ju_older_71 (by decide) ?_
  exact hrec_5 _ _ _ _ _ _ _ _ _ hE hP hD hS (lv_sub hl [2, 1, 0] rfl)
set_option maxHeartbeats 4000000 in
set_option maxRecDepth 100000 in
theorem wl_Ju_older_5 {p : Program} {l : Launch} {e : Env} {s : State} {m : MethodId} {args : Array Value} {below : List Frame} {meth : Method} {c : Code} {A : Nat → Prop} {g : GT} {a_co : Nat} {a_ju : Nat} {a_jb : Nat} {a_ch : Nat} {a_rd : Nat} {a_fr : Nat} {a_ub : Nat} {a_wr : Nat} {y : Int64} (M : MX p s m args meth c b_Ju_older 8 (some .long) "MoveDesk$Judge" g A) : ∀ n : Nat, ∀ (r_ju : Nat → Int32) (r_jb : Nat → Int32) (r_ub : Nat → Int64) (r_wr : Nat → Int64) (v3 : Int64) (v5 : Int32) (H : Heap) (locs : List Loc) (ls : Array Slot), some y = (f_Ju_older_5 n) r_ju r_jb r_ub r_wr v3 v5 → va_P g.1 classes (w_ju_jb_ub_wr g a_co a_ju a_jb a_ch a_rd a_fr a_ub a_wr r_ju r_jb r_ub r_wr) H → va_D A (w_ju_jb_ub_wr g a_co a_ju a_jb a_ch a_rd a_fr a_ub a_wr r_ju r_jb r_ub r_wr) → va_S A s.heap H locs → lv_has ls 8 [(0, .ref a_ju), (3, .long v3), (5, .int v5)] → W p l e rm_Ju_older s m args below meth c H locs 0 0 (MQ below (QW g (some (.long y)) (w_ju_jb_ub_wr g a_co a_ju a_jb a_ch a_rd a_fr a_ub a_wr r_ju r_jb r_ub r_wr) A) args s 0 0 A) (F0 m 5 ls []) := by
  obtain ⟨hx, hb, hr, hml, hown, hts, hlocks, hA, hK, hG⟩ := id M
  intro n
  induction n with
  | zero =>
    intro r_ju r_jb r_ub r_wr v3 v5 H locs ls hE hP hD hS hl
    rw [f_Ju_older_5] at hE
    cases hE
  | succ n ih =>
    intro r_ju r_jb r_ub r_wr v3 v5 H locs ls hE hP hD hS hl
    rw [f_Ju_older_5] at hE
    refine lv_iload hx hb d_Ju_older_5 (lv_at hl 2 rfl) ?_
    refine lv_iconst (v := 3) hx hb d_Ju_older_7 (by decide) ?_
    refine lv_icmp_ge (tgt := 74) hx hb d_Ju_older_8 (by decide) (fun c1 => ?_) (fun c1 => ?_)
    · have hE := it_t hE c1
      refine lv_lload_n hx hb d_Ju_older_74 rfl (lv_at hl 1 rfl) ?_
      have hE := Option.some.inj hE
      rw [hE]
      exact W.lret (v := v3) hx hb hr (fun t ht hW => ⟨⟨rfl, by rw [ht]; exact hP, va_K.moved hW.alike hK, hD⟩, hS.F ht⟩) hS.2.2 d_Ju_older_75 hlocks
    · have hE := it_f hE c1
      refine lv_aload_n hx hb d_Ju_older_11 rfl (lv_at hl 0 rfl) ?_
      refine va_get (D := g.1) (ci := 2) (v := .ref a_wr) (C := "MoveDesk$Judge") (T := F_Ju) (N := 10) hx hb hts i_Ju hown hK hP 0 rfl rfl 6 (by decide) (hts _ m_245) (fun _ h9 => h9) rfl d_Ju_older_12 ?_
      refine lv_iload hx hb d_Ju_older_15 (lv_at hl 2 rfl) ?_
      have ⟨h2, hE⟩ := ck_at hE
      refine va_lald hx hb hK hP 3 2 rfl rfl h2 d_Ju_older_17 ?_
      refine lv_topl (fun x3 ex3 => ?_)
      have hE := nm_at hE ex3
      refine lv_lstore (lv' := [(6, .long x3), (0, .ref a_ju), (3, .long v3), (5, .int v5)]) hx hb d_Ju_older_18 hl (by decide) rfl (fun ls hl => ?_)
      refine lv_aload_n hx hb d_Ju_older_20 rfl (lv_at hl 1 rfl) ?_
      refine va_get (D := g.1) (ci := 2) (v := .ref a_jb) (C := "MoveDesk$Judge") (T := F_Ju) (N := 10) hx hb hts i_Ju hown hK hP 0 rfl rfl 1 (by decide) (hts _ m_240) (fun _ h9 => h9) rfl d_Ju_older_21 ?_
      refine va_getN (D := g.1) (ci := 0) (v := .int (r_jb 4)) (C := "MoveDesk$Bundle") (T := F_Bu) (N := 8) hx hb hts i_Bu hown hK hP 1 rfl rfl 4 (by decide) (va_Nw.use rfl (hG.1 _ (nw_78))) (fun _ h9 => h9) rfl d_Ju_older_24 ?_
      refine lv_iload hx hb d_Ju_older_27 (lv_at hl 3 rfl) ?_
      refine lv_ishr hx hb d_Ju_older_29 ?_
      refine lv_iconst (v := 1) hx hb d_Ju_older_30 (by decide) ?_
      refine lv_iand hx hb d_Ju_older_31 ?_
      refine lv_if_ne (tgt := 47) hx hb d_Ju_older_32 (by decide) (fun c4 => ?_) (fun c4 => ?_)
      · have hE := it_f hE c4
        exact wl_Ju_older_47 M (f_Ju_older_5 n) ih _ _ _ _ _ _ _ _ _ _ hE hP hD hS (lv_sub hl [1, 2, 3, 0] rfl)
      · have hE := it_t hE c4
        refine lv_lload hx hb d_Ju_older_35 (lv_at hl 0 rfl) ?_
        refine lv_aload_n hx hb d_Ju_older_37 rfl (lv_at hl 1 rfl) ?_
        refine va_get (D := g.1) (ci := 2) (v := .ref a_ub) (C := "MoveDesk$Judge") (T := F_Ju) (N := 10) hx hb hts i_Ju hown hK hP 0 rfl rfl 5 (by decide) (hts _ m_244) (fun _ h9 => h9) rfl d_Ju_older_38 ?_
        refine lv_iload hx hb d_Ju_older_41 (lv_at hl 3 rfl) ?_
        have ⟨h5, hE⟩ := ck_at hE
        refine va_lald hx hb hK hP 2 2 rfl rfl h5 d_Ju_older_43 ?_
        refine lv_lor hx hb d_Ju_older_44 ?_
        refine lv_topl (fun x6 ex6 => ?_)
        have hE := nm_at hE ex6
        refine lv_lstore (lv' := [(6, .long x6), (0, .ref a_ju), (3, .long v3), (5, .int v5)]) hx hb d_Ju_older_45 hl (by decide) rfl (fun ls hl => ?_)
        exact wl_Ju_older_47 M (f_Ju_older_5 n) ih _ _ _ _ _ _ _ _ _ _ hE hP hD hS (lv_sub hl [1, 2, 3, 0] rfl)
set_option maxHeartbeats 4000000 in
set_option maxRecDepth 100000 in
theorem c_Ju_older (l : Launch) (g : GT) (a_co : Nat) (a_ju : Nat) (a_jb : Nat) (a_ch : Nat) (a_rd : Nat) (a_fr : Nat) (a_ub : Nat) (a_wr : Nat) (r_ju : Nat → Int32) (r_jb : Nat → Int32) (r_ub : Nat → Int64) (r_wr : Nat → Int64) (v1 : Int64) (y : Int64) (hy : some y = f_Ju_older r_ju r_jb r_ub r_wr v1) : Ct l y_Ju_older (.code y_Ju_older b_Ju_older 8 (some .long)) rm_Ju_older g [.ref a_ju, .long v1] (w_ju_jb_ub_wr g a_co a_ju a_jb a_ch a_rd a_fr a_ub a_wr r_ju r_jb r_ub r_wr) (w_ju_jb_ub_wr g a_co a_ju a_jb a_ch a_rd a_fr a_ub a_wr r_ju r_jb r_ub r_wr) (some (.long y)) := by
  refine ct_in (C := "MoveDesk$Judge") rfl (by decide) (Nat.le_of_ble_eq_true rfl) (fun p e s m below meth c A ls M hP hD hS hl => ?_)
  obtain ⟨hx, hb, hr, hml, hown, hts, hlocks, hA, hK, hG⟩ := id M
  have hl : lv_has ls 8 [(0, .ref a_ju), (1, .long v1)] := hl
  have hE := hy
  rw [f_Ju_older] at hE
  refine lv_lload_n hx hb d_Ju_older_0 rfl (lv_at hl 1 rfl) ?_
  refine lv_lstore_n (lv' := [(3, .long v1), (0, .ref a_ju), (1, .long v1)]) hx hb d_Ju_older_1 rfl hl (by decide) rfl (fun ls hl => ?_)
  refine lv_iconst (v := 0) hx hb d_Ju_older_2 (by decide) ?_
  refine lv_istore (lv' := [(5, .int 0), (3, .long v1), (0, .ref a_ju), (1, .long v1)]) hx hb d_Ju_older_3 hl (by decide) rfl (fun ls hl => ?_)
  exact wl_Ju_older_5 M 5000 _ _ _ _ _ _ _ _ _ hE hP hD hS (lv_sub hl [2, 1, 0] rfl)
abbrev rm_Ju_goOn : Room := { frames := 1, cells := 0, slots := 0, locals := 27 }
set_option maxHeartbeats 4000000 in
set_option maxRecDepth 100000 in
theorem c_Ju_goOn (l : Launch) (g : GT) (a_co : Nat) (a_ta : Nat) (a_gu : Nat) (a_so : Nat) (a_cn : Nat) (a_de : Nat) (a_ju : Nat) (a_jb : Nat) (a_ch : Nat) (a_rd : Nat) (a_fr : Nat) (a_ub : Nat) (a_wr : Nat) (r_co : Nat → Int32) (r_cn : Nat → Int32) (r_ju : Nat → Int32) (r_jb : Nat → Int32) (r_rd : Nat → Int64) (r_fr : Nat → Int64) (v1 : Int32) (v2 : Int32) (v3 : Int64) (y : (Nat → Int32) × (Nat → Int64) × (Nat → Int64)) (hy : some y = f_Ju_goOn r_co r_cn r_ju r_jb r_rd r_fr v1 v2 v3) : Ct l y_Ju_goOn (.code y_Ju_goOn b_Ju_goOn 7 none) rm_Ju_goOn g [.ref a_ju, .int v1, .int v2, .long v3] (w_co_cn_ju_jb_rd_fr g a_co a_ta a_gu a_so a_cn a_de a_ju a_jb a_ch a_rd a_fr a_ub a_wr r_co r_cn r_ju r_jb r_rd r_fr) (w_co_cn_ju_jb_rd_fr g a_co a_ta a_gu a_so a_cn a_de a_ju a_jb a_ch a_rd a_fr a_ub a_wr r_co r_cn y.1 r_jb y.2.1 y.2.2) none := by
  refine ct_in (C := "MoveDesk$Judge") rfl (by decide) (Nat.le_of_ble_eq_true rfl) (fun p e s m below meth c A ls M hP hD hS hl => ?_)
  obtain ⟨hx, hb, hr, hml, hown, hts, hlocks, hA, hK, hG⟩ := id M
  have hl : lv_has ls 7 [(0, .ref a_ju), (1, .int v1), (2, .int v2), (3, .long v3)] := hl
  have hE := hy
  rw [f_Ju_goOn] at hE
  refine lv_iload_n hx hb d_Ju_goOn_0 rfl (lv_at hl 1 rfl) ?_
  refine lv_iconst (v := 1) hx hb d_Ju_goOn_1 (by decide) ?_
  refine lv_iadd hx hb d_Ju_goOn_2 ?_
  obtain ⟨y1, hy1, hE⟩ := bd_at hE
  refine kSN (index := 121) (As := [.int (v1 + (1 : Int32))]) (rest := []) (ws2 := (w_co_cn_ju_jb_rd_fr g a_co a_ta a_gu a_so a_cn a_de a_ju a_jb a_ch a_rd a_fr a_ub a_wr r_co r_cn r_ju r_jb r_rd r_fr)) M hP hD hS hl.1 (c_Md_wrapCycle l g   (v1 + (1 : Int32)) y1 hy1) nw_416 m_417 m_1 m_418 hs_Md_wrapCycle rfl rfl rfl ⟨by decide, by decide⟩ ⟨by decide, by decide⟩ [] [0, 1, 2, 3, 4, 5] [0, 1, 2, 3, 4, 5] rfl rfl rfl rfl (by decide) rfl rfl rfl (Nat.le_of_ble_eq_true rfl) d_Ju_goOn_3 (fun H locs hP hD hS => ?_)
  refine W.eq (g2 := F0 m 6 ls [.int y1]) rfl ?_
  refine lv_istore (lv' := [(5, .int y1), (0, .ref a_ju), (1, .int v1), (2, .int v2), (3, .long v3)]) hx hb d_Ju_goOn_6 hl (by decide) rfl (fun ls hl => ?_)
  refine lv_iload_n hx hb d_Ju_goOn_8 rfl (lv_at hl 3 rfl) ?_
  refine lv_iconst (v := 4) hx hb d_Ju_goOn_9 (by decide) ?_
  refine lv_icmp_le (tgt := 47) hx hb d_Ju_goOn_10 (by decide) (fun c2 => ?_) (fun c2 => ?_)
  · have hE := it_t hE c2
    refine lv_iload_n hx hb d_Ju_goOn_47 rfl (lv_at hl 3 rfl) ?_
    refine lv_if_le (tgt := 64) hx hb d_Ju_goOn_48 (by decide) (fun c3 => ?_) (fun c3 => ?_)
    · have hE := it_t hE c3
      refine lv_aload_n hx hb d_Ju_goOn_64 rfl (lv_at hl 1 rfl) ?_
      refine lv_iload hx hb d_Ju_goOn_65 (lv_at hl 0 rfl) ?_
      refine lv_aload_n hx hb d_Ju_goOn_67 rfl (lv_at hl 1 rfl) ?_
      refine va_get (D := g.1) (ci := 2) (v := .ref a_jb) (C := "MoveDesk$Judge") (T := F_Ju) (N := 10) hx hb hts i_Ju hown hK hP 2 rfl rfl 1 (by decide) (hts _ m_240) (fun _ h9 => h9) rfl d_Ju_goOn_68 ?_
      refine va_getN (D := g.1) (ci := 0) (v := .int (r_jb 5)) (C := "MoveDesk$Bundle") (T := F_Bu) (N := 8) hx hb hts i_Bu hown hK hP 3 rfl rfl 5 (by decide) (va_Nw.use rfl (hG.1 _ (nw_80))) (fun _ h9 => h9) rfl d_Ju_goOn_71 ?_
      refine lv_iconst (v := (-1)) hx hb d_Ju_goOn_74 (by decide) ?_
      refine lv_icmp_ne (tgt := 82) hx hb d_Ju_goOn_75 (by decide) (fun c4 => ?_) (fun c4 => ?_)
      · have hE := it_f hE c4
        refine lv_iconst (v := 1) hx hb d_Ju_goOn_82 (by decide) ?_
        refine lv_aload_n hx hb d_Ju_goOn_83 rfl (lv_at hl 1 rfl) ?_
        refine va_get (D := g.1) (ci := 2) (v := .ref a_jb) (C := "MoveDesk$Judge") (T := F_Ju) (N := 10) hx hb hts i_Ju hown hK hP 2 rfl rfl 1 (by decide) (hts _ m_240) (fun _ h9 => h9) rfl d_Ju_goOn_84 ?_
        refine va_getN (D := g.1) (ci := 0) (v := .int (r_jb 5)) (C := "MoveDesk$Bundle") (T := F_Bu) (N := 8) hx hb hts i_Bu hown hK hP 3 rfl rfl 5 (by decide) (va_Nw.use rfl (hG.1 _ (nw_80))) (fun _ h9 => h9) rfl d_Ju_goOn_87 ?_
        refine lv_iadd hx hb d_Ju_goOn_90 ?_
        refine lv_lload_n hx hb d_Ju_goOn_91 rfl (lv_at hl 4 rfl) ?_
        obtain ⟨y5, hy5, hE⟩ := bd_at hE
        refine kV (C := "MoveDesk$Judge") (index := 71) (As := [.int y1, .int ((1 : Int32) + (r_jb 5)), .long v3]) (rest := []) (ws2 := (w_co_cn_ju_jb_rd_fr g a_co a_ta a_gu a_so a_cn a_de a_ju a_jb a_ch a_rd a_fr a_ub a_wr r_co r_cn y5.1 r_jb y5.2.1 y5.2.2)) M hP hD hS hl.1 (c_Ju_reach l g a_co a_ju a_jb a_ch a_rd a_fr a_ub a_wr r_ju r_rd r_fr y1 ((1 : Int32) + (r_jb 5)) v3 y5 hy5) m_360 m_362 s_2 m_8 m_363 hd_Ju_reach rfl rfl rfl ⟨by decide, by decide⟩ ⟨by decide, by decide⟩ 2 0 rfl rfl rfl [2, 4, 5] [0, 1, 3] [0, 1, 3, 2, 4, 5] rfl rfl rfl rfl (by decide) rfl rfl rfl (Nat.le_of_ble_eq_true rfl) d_Ju_goOn_92 (fun H locs hP hD hS => ?_)
        refine W.eq (g2 := F0 m 95 ls []) rfl ?_
        have hE := Option.some.inj hE
        rw [hE]
        exact W.vret hx hb hr (fun t ht hW => ⟨⟨rfl, by rw [ht]; exact hP, va_K.moved hW.alike hK, hD⟩, hS.F ht⟩) hS.2.2 d_Ju_goOn_95 hlocks
      · have hE := it_t hE c4
        refine lv_iconst (v := 0) hx hb d_Ju_goOn_78 (by decide) ?_
        refine lv_goto (tgt := 91) hx hb d_Ju_goOn_79 (by decide) ?_
        refine lv_lload_n hx hb d_Ju_goOn_91 rfl (lv_at hl 4 rfl) ?_
        obtain ⟨y6, hy6, hE⟩ := bd_at hE
        refine kV (C := "MoveDesk$Judge") (index := 71) (As := [.int y1, .int 0, .long v3]) (rest := []) (ws2 := (w_co_cn_ju_jb_rd_fr g a_co a_ta a_gu a_so a_cn a_de a_ju a_jb a_ch a_rd a_fr a_ub a_wr r_co r_cn y6.1 r_jb y6.2.1 y6.2.2)) M hP hD hS hl.1 (c_Ju_reach l g a_co a_ju a_jb a_ch a_rd a_fr a_ub a_wr r_ju r_rd r_fr y1 (0 : Int32) v3 y6 hy6) m_360 m_362 s_2 m_8 m_363 hd_Ju_reach rfl rfl rfl ⟨by decide, by decide⟩ ⟨by decide, by decide⟩ 2 0 rfl rfl rfl [2, 4, 5] [0, 1, 3] [0, 1, 3, 2, 4, 5] rfl rfl rfl rfl (by decide) rfl rfl rfl (Nat.le_of_ble_eq_true rfl) d_Ju_goOn_92 (fun H locs hP hD hS => ?_)
        refine W.eq (g2 := F0 m 95 ls []) rfl ?_
        have hE := Option.some.inj hE
        rw [hE]
        exact W.vret hx hb hr (fun t ht hW => ⟨⟨rfl, by rw [ht]; exact hP, va_K.moved hW.alike hK, hD⟩, hS.F ht⟩) hS.2.2 d_Ju_goOn_95 hlocks
    · have hE := it_f hE c3
      refine lv_aload_n hx hb d_Ju_goOn_51 rfl (lv_at hl 1 rfl) ?_
      refine lv_iload hx hb d_Ju_goOn_52 (lv_at hl 0 rfl) ?_
      refine lv_iload_n hx hb d_Ju_goOn_54 rfl (lv_at hl 3 rfl) ?_
      refine lv_iconst (v := 4) hx hb d_Ju_goOn_55 (by decide) ?_
      refine lv_iadd hx hb d_Ju_goOn_56 ?_
      refine lv_lload_n hx hb d_Ju_goOn_57 rfl (lv_at hl 4 rfl) ?_
      obtain ⟨y7, hy7, hE⟩ := bd_at hE
      refine kV (C := "MoveDesk$Judge") (index := 71) (As := [.int y1, .int (v2 + (4 : Int32)), .long v3]) (rest := []) (ws2 := (w_co_cn_ju_jb_rd_fr g a_co a_ta a_gu a_so a_cn a_de a_ju a_jb a_ch a_rd a_fr a_ub a_wr r_co r_cn y7.1 r_jb y7.2.1 y7.2.2)) M hP hD hS hl.1 (c_Ju_reach l g a_co a_ju a_jb a_ch a_rd a_fr a_ub a_wr r_ju r_rd r_fr y1 (v2 + (4 : Int32)) v3 y7 hy7) m_360 m_362 s_2 m_8 m_363 hd_Ju_reach rfl rfl rfl ⟨by decide, by decide⟩ ⟨by decide, by decide⟩ 2 0 rfl rfl rfl [2, 4, 5] [0, 1, 3] [0, 1, 3, 2, 4, 5] rfl rfl rfl rfl (by decide) rfl rfl rfl (Nat.le_of_ble_eq_true rfl) d_Ju_goOn_58 (fun H locs hP hD hS => ?_)
      refine W.eq (g2 := F0 m 61 ls []) rfl ?_
      refine lv_goto (tgt := 95) hx hb d_Ju_goOn_61 (by decide) ?_
      have hE := Option.some.inj hE
      rw [hE]
      exact W.vret hx hb hr (fun t ht hW => ⟨⟨rfl, by rw [ht]; exact hP, va_K.moved hW.alike hK, hD⟩, hS.F ht⟩) hS.2.2 d_Ju_goOn_95 hlocks
  · have hE := it_f hE c2
    refine lv_iload_n hx hb d_Ju_goOn_13 rfl (lv_at hl 2 rfl) ?_
    refine lv_iconst (v := 2) hx hb d_Ju_goOn_14 (by decide) ?_
    refine lv_isub hx hb d_Ju_goOn_15 ?_
    obtain ⟨y8, hy8, hE⟩ := bd_at hE
    refine kSN (index := 121) (As := [.int (v1 - (2 : Int32))]) (rest := []) (ws2 := (w_co_cn_ju_jb_rd_fr g a_co a_ta a_gu a_so a_cn a_de a_ju a_jb a_ch a_rd a_fr a_ub a_wr r_co r_cn r_ju r_jb r_rd r_fr)) M hP hD hS hl.1 (c_Md_wrapCycle l g   (v1 - (2 : Int32)) y8 hy8) nw_416 m_417 m_1 m_418 hs_Md_wrapCycle rfl rfl rfl ⟨by decide, by decide⟩ ⟨by decide, by decide⟩ [] [0, 1, 2, 3, 4, 5] [0, 1, 2, 3, 4, 5] rfl rfl rfl rfl (by decide) rfl rfl rfl (Nat.le_of_ble_eq_true rfl) d_Ju_goOn_16 (fun H locs hP hD hS => ?_)
    refine W.eq (g2 := F0 m 19 ls [.int y8]) rfl ?_
    refine lv_istore (lv' := [(6, .int y8), (5, .int y1), (0, .ref a_ju), (1, .int v1), (2, .int v2), (3, .long v3)]) hx hb d_Ju_goOn_19 hl (by decide) rfl (fun ls hl => ?_)
    refine lv_aload_n hx hb d_Ju_goOn_21 rfl (lv_at hl 2 rfl) ?_
    refine lv_aload_n hx hb d_Ju_goOn_22 rfl (lv_at hl 2 rfl) ?_
    refine va_get (D := g.1) (ci := 2) (v := .ref a_co) (C := "MoveDesk$Judge") (T := F_Ju) (N := 10) hx hb hts i_Ju hown hK hP 2 rfl rfl 0 (by decide) (hts _ m_239) (fun _ h9 => h9) rfl d_Ju_goOn_23 ?_
    refine lv_iload hx hb d_Ju_goOn_26 (lv_at hl 0 rfl) ?_
    refine lv_iload_n hx hb d_Ju_goOn_28 rfl (lv_at hl 4 rfl) ?_
    refine lv_iconst (v := 1) hx hb d_Ju_goOn_29 (by decide) ?_
    refine lv_isub hx hb d_Ju_goOn_30 ?_
    refine lv_iconst (v := 4) hx hb d_Ju_goOn_31 (by decide) ?_
    refine lv_isub hx hb d_Ju_goOn_32 ?_
    obtain ⟨y9, hy9, hE⟩ := bd_at hE
    refine kV (C := "MoveDesk$Code") (index := 124) (As := [.int y8, .int ((v2 - (1 : Int32)) - (4 : Int32))]) (rest := [.ref a_ju]) (ws2 := (w_co_cn_ju_jb_rd_fr g a_co a_ta a_gu a_so a_cn a_de a_ju a_jb a_ch a_rd a_fr a_ub a_wr r_co r_cn r_ju r_jb r_rd r_fr)) M hP hD hS hl.1 (c_Co_constant l g a_co a_ta a_gu a_so a_cn a_de r_co r_cn y8 ((v2 - (1 : Int32)) - (4 : Int32)) y9 hy9) m_419 m_314 m_315 m_3 m_316 hd_Co_constant rfl rfl rfl ⟨by decide, by decide⟩ ⟨by decide, by decide⟩ 1 0 rfl rfl rfl [0, 1] [2, 3, 4, 5] [4, 5, 0, 1, 2, 3] rfl rfl rfl rfl (by decide) rfl rfl rfl (Nat.le_of_ble_eq_true rfl) d_Ju_goOn_33 (fun H locs hP hD hS => ?_)
    refine W.eq (g2 := F0 m 36 ls [.int y9, .ref a_ju]) rfl ?_
    obtain ⟨y10, hy10, hE⟩ := bd_at hE
    refine kSN (index := 121) (As := [.int y9]) (rest := [.ref a_ju]) (ws2 := (w_co_cn_ju_jb_rd_fr g a_co a_ta a_gu a_so a_cn a_de a_ju a_jb a_ch a_rd a_fr a_ub a_wr r_co r_cn r_ju r_jb r_rd r_fr)) M hP hD hS hl.1 (c_Md_wrapCycle l g   y9 y10 hy10) nw_416 m_417 m_1 m_418 hs_Md_wrapCycle rfl rfl rfl ⟨by decide, by decide⟩ ⟨by decide, by decide⟩ [] [0, 1, 2, 3, 4, 5] [0, 1, 2, 3, 4, 5] rfl rfl rfl rfl (by decide) rfl rfl rfl (Nat.le_of_ble_eq_true rfl) d_Ju_goOn_36 (fun H locs hP hD hS => ?_)
    refine W.eq (g2 := F0 m 39 ls [.int y10, .ref a_ju]) rfl ?_
    refine lv_iconst (v := 0) hx hb d_Ju_goOn_39 (by decide) ?_
    refine lv_lload_n hx hb d_Ju_goOn_40 rfl (lv_at hl 5 rfl) ?_
    obtain ⟨y11, hy11, hE⟩ := bd_at hE
    refine kV (C := "MoveDesk$Judge") (index := 71) (As := [.int y10, .int 0, .long v3]) (rest := []) (ws2 := (w_co_cn_ju_jb_rd_fr g a_co a_ta a_gu a_so a_cn a_de a_ju a_jb a_ch a_rd a_fr a_ub a_wr r_co r_cn y11.1 r_jb y11.2.1 y11.2.2)) M hP hD hS hl.1 (c_Ju_reach l g a_co a_ju a_jb a_ch a_rd a_fr a_ub a_wr r_ju r_rd r_fr y10 (0 : Int32) v3 y11 hy11) m_360 m_362 s_2 m_8 m_363 hd_Ju_reach rfl rfl rfl ⟨by decide, by decide⟩ ⟨by decide, by decide⟩ 2 0 rfl rfl rfl [2, 4, 5] [0, 1, 3] [0, 1, 3, 2, 4, 5] rfl rfl rfl rfl (by decide) rfl rfl rfl (Nat.le_of_ble_eq_true rfl) d_Ju_goOn_41 (fun H locs hP hD hS => ?_)
    refine W.eq (g2 := F0 m 44 ls []) rfl ?_
    refine lv_goto (tgt := 95) hx hb d_Ju_goOn_44 (by decide) ?_
    have hE := Option.some.inj hE
    rw [hE]
    exact W.vret hx hb hr (fun t ht hW => ⟨⟨rfl, by rw [ht]; exact hP, va_K.moved hW.alike hK, hD⟩, hS.F ht⟩) hS.2.2 d_Ju_goOn_95 hlocks
abbrev rm_Ju_leaveBy : Room := { frames := 2, cells := 0, slots := 0, locals := 53 }
set_option maxHeartbeats 4000000 in
set_option maxRecDepth 100000 in
theorem wl_Ju_leaveBy_39 {p : Program} {l : Launch} {e : Env} {s : State} {m : MethodId} {args : Array Value} {below : List Frame} {meth : Method} {c : Code} {A : Nat → Prop} {g : GT} {a_co : Nat} {a_ta : Nat} {a_gu : Nat} {a_so : Nat} {a_cn : Nat} {a_de : Nat} {a_ju : Nat} {a_jb : Nat} {a_ch : Nat} {a_rd : Nat} {a_fr : Nat} {a_ub : Nat} {a_wr : Nat} {y : (Nat → Int32) × (Nat → Int64) × (Nat → Int64)} (M : MX p s m args meth c b_Ju_leaveBy 8 none "MoveDesk$Judge" g A) (rec_6 : (Nat → Int32) → (Nat → Int32) → (Nat → Int32) → (Nat → Int32) → (Nat → Int64) → (Nat → Int64) → (Nat → Int64) → (Nat → Int64) → Int32 → Int32 → Int64 → Int64 → Int32 → Option ((Nat → Int32) × (Nat → Int64) × (Nat → Int64))) (hrec_6 : ∀ (r_co : Nat → Int32) (r_cn : Nat → Int32) (r_ju : Nat → Int32) (r_jb : Nat → Int32) (r_rd : Nat → Int64) (r_fr : Nat → Int64) (r_ub : Nat → Int64) (r_wr : Nat → Int64) (v1 : Int32) (v2 : Int32) (v3 : Int64) (v5 : Int64) (v7 : Int32) (H : Heap) (locs : List Loc) (ls : Array Slot), some y = rec_6 r_co r_cn r_ju r_jb r_rd r_fr r_ub r_wr v1 v2 v3 v5 v7 → va_P g.1 classes (w_co_8_94a6 g a_co a_ta a_gu a_so a_cn a_de a_ju a_jb a_ch a_rd a_fr a_ub a_wr r_co r_cn r_ju r_jb r_rd r_fr r_ub r_wr) H → va_D A (w_co_8_94a6 g a_co a_ta a_gu a_so a_cn a_de a_ju a_jb a_ch a_rd a_fr a_ub a_wr r_co r_cn r_ju r_jb r_rd r_fr r_ub r_wr) → va_S A s.heap H locs → lv_has ls 8 [(0, .ref a_ju), (1, .int v1), (2, .int v2), (3, .long v3), (5, .long v5), (7, .int v7)] → W p l e rm_Ju_leaveBy s m args below meth c H locs 0 0 (MQ below (QW g none (w_co_8_94a6 g a_co a_ta a_gu a_so a_cn a_de a_ju a_jb a_ch a_rd a_fr a_ub a_wr r_co r_cn y.1 r_jb y.2.1 y.2.2 r_ub r_wr) A) args s 0 0 A) (F0 m 6 ls [])) : ∀ (r_co : Nat → Int32) (r_cn : Nat → Int32) (r_ju : Nat → Int32) (r_jb : Nat → Int32) (r_rd : Nat → Int64) (r_fr : Nat → Int64) (r_ub : Nat → Int64) (r_wr : Nat → Int64) (v1 : Int32) (v2 : Int32) (v3 : Int64) (v5 : Int64) (v7 : Int32) (H : Heap) (locs : List Loc) (ls : Array Slot), some y = (f_Ju_leaveBy_39 rec_6) r_co r_cn r_ju r_jb r_rd r_fr r_ub r_wr v1 v2 v3 v5 v7 → va_P g.1 classes (w_co_8_94a6 g a_co a_ta a_gu a_so a_cn a_de a_ju a_jb a_ch a_rd a_fr a_ub a_wr r_co r_cn r_ju r_jb r_rd r_fr r_ub r_wr) H → va_D A (w_co_8_94a6 g a_co a_ta a_gu a_so a_cn a_de a_ju a_jb a_ch a_rd a_fr a_ub a_wr r_co r_cn r_ju r_jb r_rd r_fr r_ub r_wr) → va_S A s.heap H locs → lv_has ls 8 [(0, .ref a_ju), (1, .int v1), (2, .int v2), (3, .long v3), (5, .long v5), (7, .int v7)] → W p l e rm_Ju_leaveBy s m args below meth c H locs 0 0 (MQ below (QW g none (w_co_8_94a6 g a_co a_ta a_gu a_so a_cn a_de a_ju a_jb a_ch a_rd a_fr a_ub a_wr r_co r_cn y.1 r_jb y.2.1 y.2.2 r_ub r_wr) A) args s 0 0 A) (F0 m 39 ls []) := by
  obtain ⟨hx, hb, hr, hml, hown, hts, hlocks, hA, hK, hG⟩ := id M
  intro r_co r_cn r_ju r_jb r_rd r_fr r_ub r_wr v1 v2 v3 v5 v7 H locs ls hE hP hD hS hl
  rw [f_Ju_leaveBy_39] at hE
  obtain ⟨x1, ex1⟩ : ∃ z : Int32, z = v7 + 1 := ⟨_, rfl⟩
  have hE := nm_at hE ex1
  refine lv_iinc (v := x1) (lv' := [(7, .int x1), (0, .ref a_ju), (1, .int v1), (2, .int v2), (3, .long v3), (5, .long v5)]) hx hb d_Ju_leaveBy_39 hl (k := 5) rfl (by rw [ex1]; rfl) (by decide) rfl (fun ls hl => ?_)
  refine lv_goto (tgt := 6) hx hb d_Ju_leaveBy_42 (by decide) ?_
  exact hrec_6 _ _ _ _ _ _ _ _ _ _ _ _ _ _ _ _ hE hP hD hS (lv_sub hl [1, 2, 3, 4, 5, 0] rfl)
set_option maxHeartbeats 4000000 in
set_option maxRecDepth 100000 in
theorem wl_Ju_leaveBy_120 {p : Program} {l : Launch} {e : Env} {s : State} {m : MethodId} {args : Array Value} {below : List Frame} {meth : Method} {c : Code} {A : Nat → Prop} {g : GT} {a_co : Nat} {a_ta : Nat} {a_gu : Nat} {a_so : Nat} {a_cn : Nat} {a_de : Nat} {a_ju : Nat} {a_jb : Nat} {a_ch : Nat} {a_rd : Nat} {a_fr : Nat} {a_ub : Nat} {a_wr : Nat} {y : (Nat → Int32) × (Nat → Int64) × (Nat → Int64)} (M : MX p s m args meth c b_Ju_leaveBy 8 none "MoveDesk$Judge" g A) : ∀ (r_co : Nat → Int32) (r_cn : Nat → Int32) (r_ju : Nat → Int32) (r_jb : Nat → Int32) (r_rd : Nat → Int64) (r_fr : Nat → Int64) (r_ub : Nat → Int64) (r_wr : Nat → Int64) (v1 : Int32) (v2 : Int32) (v5 : Int64) (v7 : Int32) (H : Heap) (locs : List Loc) (ls : Array Slot), some y = f_Ju_leaveBy_120 r_co r_cn r_ju r_jb r_rd r_fr r_ub r_wr v1 v2 v5 v7 → va_P g.1 classes (w_co_8_94a6 g a_co a_ta a_gu a_so a_cn a_de a_ju a_jb a_ch a_rd a_fr a_ub a_wr r_co r_cn r_ju r_jb r_rd r_fr r_ub r_wr) H → va_D A (w_co_8_94a6 g a_co a_ta a_gu a_so a_cn a_de a_ju a_jb a_ch a_rd a_fr a_ub a_wr r_co r_cn r_ju r_jb r_rd r_fr r_ub r_wr) → va_S A s.heap H locs → lv_has ls 8 [(0, .ref a_ju), (1, .int v1), (2, .int v2), (5, .long v5), (7, .int v7)] → W p l e rm_Ju_leaveBy s m args below meth c H locs 0 0 (MQ below (QW g none (w_co_8_94a6 g a_co a_ta a_gu a_so a_cn a_de a_ju a_jb a_ch a_rd a_fr a_ub a_wr r_co r_cn y.1 r_jb y.2.1 y.2.2 r_ub r_wr) A) args s 0 0 A) (F0 m 120 ls []) := by
  obtain ⟨hx, hb, hr, hml, hown, hts, hlocks, hA, hK, hG⟩ := id M
  intro r_co r_cn r_ju r_jb r_rd r_fr r_ub r_wr v1 v2 v5 v7 H locs ls hE hP hD hS hl
  rw [f_Ju_leaveBy_120] at hE
  refine lv_iload hx hb d_Ju_leaveBy_120 (lv_at hl 4 rfl) ?_
  refine lv_if_eq (tgt := 135) hx hb d_Ju_leaveBy_122 (by decide) (fun c1 => ?_) (fun c1 => ?_)
  · have hE := it_t hE c1
    refine lv_aload_n hx hb d_Ju_leaveBy_135 rfl (lv_at hl 0 rfl) ?_
    refine va_get (D := g.1) (ci := 2) (v := .ref a_jb) (C := "MoveDesk$Judge") (T := F_Ju) (N := 10) hx hb hts i_Ju hown hK hP 2 rfl rfl 1 (by decide) (hts _ m_240) (fun _ h9 => h9) rfl d_Ju_leaveBy_136 ?_
    refine va_getN (D := g.1) (ci := 0) (v := .int (r_jb 7)) (C := "MoveDesk$Bundle") (T := F_Bu) (N := 8) hx hb hts i_Bu hown hK hP 3 rfl rfl 7 (by decide) (va_Nw.use rfl (hG.1 _ (nw_84))) (fun _ h9 => h9) rfl d_Ju_leaveBy_139 ?_
    refine lv_if_ne (tgt := 157) hx hb d_Ju_leaveBy_142 (by decide) (fun c2 => ?_) (fun c2 => ?_)
    · have hE := it_f hE c2
      have hE := Option.some.inj hE
      rw [hE]
      exact W.vret hx hb hr (fun t ht hW => ⟨⟨rfl, by rw [ht]; exact hP, va_K.moved hW.alike hK, hD⟩, hS.F ht⟩) hS.2.2 d_Ju_leaveBy_157 hlocks
    · have hE := it_t hE c2
      refine lv_aload_n hx hb d_Ju_leaveBy_145 rfl (lv_at hl 0 rfl) ?_
      refine lv_iload_n hx hb d_Ju_leaveBy_146 rfl (lv_at hl 1 rfl) ?_
      refine lv_iload_n hx hb d_Ju_leaveBy_147 rfl (lv_at hl 2 rfl) ?_
      refine lv_aload_n hx hb d_Ju_leaveBy_148 rfl (lv_at hl 0 rfl) ?_
      refine lv_lload hx hb d_Ju_leaveBy_149 (lv_at hl 3 rfl) ?_
      obtain ⟨y3, hy3, hE⟩ := bd_at hE
      refine kV (C := "MoveDesk$Judge") (index := 106) (As := [.long v5]) (rest := [.int v2, .int v1, .ref a_ju]) (ws2 := (w_co_8_94a6 g a_co a_ta a_gu a_so a_cn a_de a_ju a_jb a_ch a_rd a_fr a_ub a_wr r_co r_cn r_ju r_jb r_rd r_fr r_ub r_wr)) M hP hD hS hl.1 (c_Ju_older l g a_co a_ju a_jb a_ch a_rd a_fr a_ub a_wr r_ju r_jb r_ub r_wr v5 y3 hy3) m_408 m_410 s_9 m_8 m_411 hd_Ju_older rfl rfl rfl ⟨by decide, by decide⟩ ⟨by decide, by decide⟩ 2 0 rfl rfl rfl [2, 3, 6, 7] [0, 1, 4, 5] [0, 1, 4, 5, 2, 3, 6, 7] rfl rfl rfl rfl (by decide) rfl rfl rfl (Nat.le_of_ble_eq_true rfl) d_Ju_leaveBy_151 (fun H locs hP hD hS => ?_)
      refine W.eq (g2 := F0 m 154 ls [.long y3, .int v2, .int v1, .ref a_ju]) rfl ?_
      obtain ⟨y4, hy4, hE⟩ := bd_at hE
      refine kV (C := "MoveDesk$Judge") (index := 110) (As := [.int v1, .int v2, .long y3]) (rest := []) (ws2 := (w_co_8_94a6 g a_co a_ta a_gu a_so a_cn a_de a_ju a_jb a_ch a_rd a_fr a_ub a_wr r_co r_cn y4.1 r_jb y4.2.1 y4.2.2 r_ub r_wr)) M hP hD hS hl.1 (c_Ju_goOn l g a_co a_ta a_gu a_so a_cn a_de a_ju a_jb a_ch a_rd a_fr a_ub a_wr r_co r_cn r_ju r_jb r_rd r_fr v1 v2 y3 y4 hy4) m_412 m_414 s_10 m_8 m_415 hd_Ju_goOn rfl rfl rfl ⟨by decide, by decide⟩ ⟨by decide, by decide⟩ 2 2 rfl rfl rfl [0, 1, 2, 3, 4, 5] [6, 7] [2, 3, 4, 5, 6, 7, 0, 1] rfl rfl rfl rfl (by decide) rfl rfl rfl (Nat.le_of_ble_eq_true rfl) d_Ju_leaveBy_154 (fun H locs hP hD hS => ?_)
      refine W.eq (g2 := F0 m 157 ls []) rfl ?_
      have hE := Option.some.inj hE
      rw [hE]
      exact W.vret hx hb hr (fun t ht hW => ⟨⟨rfl, by rw [ht]; exact hP, va_K.moved hW.alike hK, hD⟩, hS.F ht⟩) hS.2.2 d_Ju_leaveBy_157 hlocks
  · have hE := it_f hE c1
    refine lv_aload_n hx hb d_Ju_leaveBy_125 rfl (lv_at hl 0 rfl) ?_
    refine lv_iload_n hx hb d_Ju_leaveBy_126 rfl (lv_at hl 1 rfl) ?_
    refine lv_iload hx hb d_Ju_leaveBy_127 (lv_at hl 4 rfl) ?_
    obtain ⟨y5, hy5, hE⟩ := bd_at hE
    refine kV (C := "MoveDesk$Judge") (index := 96) (As := [.int v1, .int v7]) (rest := []) (ws2 := (w_co_8_94a6 g a_co a_ta a_gu a_so a_cn a_de a_ju a_jb a_ch a_rd a_fr a_ub a_wr r_co r_cn y5 r_jb r_rd r_fr r_ub r_wr)) M hP hD hS hl.1 (c_Ju_blame l g a_co a_ju a_jb a_ch a_rd a_fr a_ub a_wr r_ju v1 v7 y5 hy5) m_403 m_405 s_8 m_8 m_406 hd_Ju_blame rfl rfl rfl ⟨by decide, by decide⟩ ⟨by decide, by decide⟩ 2 0 rfl rfl rfl [2] [0, 1, 3, 4, 5, 6, 7] [0, 1, 7, 2, 3, 4, 5, 6] rfl rfl rfl rfl (by decide) rfl rfl rfl (Nat.le_of_ble_eq_true rfl) d_Ju_leaveBy_129 (fun H locs hP hD hS => ?_)
    refine W.eq (g2 := F0 m 132 ls []) rfl ?_
    refine lv_goto (tgt := 157) hx hb d_Ju_leaveBy_132 (by decide) ?_
    have hE := Option.some.inj hE
    rw [hE]
    exact W.vret hx hb hr (fun t ht hW => ⟨⟨rfl, by rw [ht]; exact hP, va_K.moved hW.alike hK, hD⟩, hS.F ht⟩) hS.2.2 d_Ju_leaveBy_157 hlocks
set_option maxHeartbeats 4000000 in
set_option maxRecDepth 100000 in
theorem wl_Ju_leaveBy_102 {p : Program} {l : Launch} {e : Env} {s : State} {m : MethodId} {args : Array Value} {below : List Frame} {meth : Method} {c : Code} {A : Nat → Prop} {g : GT} {a_co : Nat} {a_ta : Nat} {a_gu : Nat} {a_so : Nat} {a_cn : Nat} {a_de : Nat} {a_ju : Nat} {a_jb : Nat} {a_ch : Nat} {a_rd : Nat} {a_fr : Nat} {a_ub : Nat} {a_wr : Nat} {y : (Nat → Int32) × (Nat → Int64) × (Nat → Int64)} (M : MX p s m args meth c b_Ju_leaveBy 8 none "MoveDesk$Judge" g A) : ∀ (r_co : Nat → Int32) (r_cn : Nat → Int32) (r_ju : Nat → Int32) (r_jb : Nat → Int32) (r_rd : Nat → Int64) (r_fr : Nat → Int64) (r_ub : Nat → Int64) (r_wr : Nat → Int64) (v1 : Int32) (v2 : Int32) (v5 : Int64) (v7 : Int32) (H : Heap) (locs : List Loc) (ls : Array Slot), some y = f_Ju_leaveBy_102 r_co r_cn r_ju r_jb r_rd r_fr r_ub r_wr v1 v2 v5 v7 → va_P g.1 classes (w_co_8_94a6 g a_co a_ta a_gu a_so a_cn a_de a_ju a_jb a_ch a_rd a_fr a_ub a_wr r_co r_cn r_ju r_jb r_rd r_fr r_ub r_wr) H → va_D A (w_co_8_94a6 g a_co a_ta a_gu a_so a_cn a_de a_ju a_jb a_ch a_rd a_fr a_ub a_wr r_co r_cn r_ju r_jb r_rd r_fr r_ub r_wr) → va_S A s.heap H locs → lv_has ls 8 [(0, .ref a_ju), (1, .int v1), (2, .int v2), (5, .long v5), (7, .int v7)] → W p l e rm_Ju_leaveBy s m args below meth c H locs 0 0 (MQ below (QW g none (w_co_8_94a6 g a_co a_ta a_gu a_so a_cn a_de a_ju a_jb a_ch a_rd a_fr a_ub a_wr r_co r_cn y.1 r_jb y.2.1 y.2.2 r_ub r_wr) A) args s 0 0 A) (F0 m 102 ls []) := by
  obtain ⟨hx, hb, hr, hml, hown, hts, hlocks, hA, hK, hG⟩ := id M
  intro r_co r_cn r_ju r_jb r_rd r_fr r_ub r_wr v1 v2 v5 v7 H locs ls hE hP hD hS hl
  rw [f_Ju_leaveBy_102] at hE
  refine lv_iload hx hb d_Ju_leaveBy_102 (lv_at hl 4 rfl) ?_
  refine lv_if_ne (tgt := 120) hx hb d_Ju_leaveBy_104 (by decide) (fun c1 => ?_) (fun c1 => ?_)
  · have hE := it_f hE c1
    exact wl_Ju_leaveBy_120 M _ _ _ _ _ _ _ _ _ _ _ _ _ _ _ hE hP hD hS (lv_sub hl [0, 1, 2, 3, 4] rfl)
  · have hE := it_t hE c1
    refine lv_aload_n hx hb d_Ju_leaveBy_107 rfl (lv_at hl 0 rfl) ?_
    refine va_get (D := g.1) (ci := 2) (v := .ref a_jb) (C := "MoveDesk$Judge") (T := F_Ju) (N := 10) hx hb hts i_Ju hown hK hP 2 rfl rfl 1 (by decide) (hts _ m_240) (fun _ h9 => h9) rfl d_Ju_leaveBy_108 ?_
    refine va_getN (D := g.1) (ci := 0) (v := .int (r_jb 6)) (C := "MoveDesk$Bundle") (T := F_Bu) (N := 8) hx hb hts i_Bu hown hK hP 3 rfl rfl 6 (by decide) (va_Nw.use rfl (hG.1 _ (nw_82))) (fun _ h9 => h9) rfl d_Ju_leaveBy_111 ?_
    refine lv_if_eq (tgt := 120) hx hb d_Ju_leaveBy_114 (by decide) (fun c2 => ?_) (fun c2 => ?_)
    · have hE := it_t hE c2
      exact wl_Ju_leaveBy_120 M _ _ _ _ _ _ _ _ _ _ _ _ _ _ _ hE hP hD hS (lv_sub hl [0, 1, 2, 3, 4] rfl)
    · have hE := it_f hE c2
      refine lv_iconst (v := 5) hx hb d_Ju_leaveBy_117 (by decide) ?_
      refine lv_istore (lv' := [(7, .int 5), (0, .ref a_ju), (1, .int v1), (2, .int v2), (5, .long v5)]) hx hb d_Ju_leaveBy_118 hl (by decide) rfl (fun ls hl => ?_)
      exact wl_Ju_leaveBy_120 M _ _ _ _ _ _ _ _ _ _ _ _ _ _ _ hE hP hD hS (lv_sub hl [1, 2, 3, 4, 0] rfl)
set_option maxHeartbeats 4000000 in
set_option maxRecDepth 100000 in
theorem wl_Ju_leaveBy_74 {p : Program} {l : Launch} {e : Env} {s : State} {m : MethodId} {args : Array Value} {below : List Frame} {meth : Method} {c : Code} {A : Nat → Prop} {g : GT} {a_co : Nat} {a_ta : Nat} {a_gu : Nat} {a_so : Nat} {a_cn : Nat} {a_de : Nat} {a_ju : Nat} {a_jb : Nat} {a_ch : Nat} {a_rd : Nat} {a_fr : Nat} {a_ub : Nat} {a_wr : Nat} {y : (Nat → Int32) × (Nat → Int64) × (Nat → Int64)} (M : MX p s m args meth c b_Ju_leaveBy 8 none "MoveDesk$Judge" g A) : ∀ (r_co : Nat → Int32) (r_cn : Nat → Int32) (r_ju : Nat → Int32) (r_jb : Nat → Int32) (r_rd : Nat → Int64) (r_fr : Nat → Int64) (r_ub : Nat → Int64) (r_wr : Nat → Int64) (v1 : Int32) (v2 : Int32) (v5 : Int64) (H : Heap) (locs : List Loc) (ls : Array Slot), some y = f_Ju_leaveBy_74 r_co r_cn r_ju r_jb r_rd r_fr r_ub r_wr v1 v2 v5 → va_P g.1 classes (w_co_8_94a6 g a_co a_ta a_gu a_so a_cn a_de a_ju a_jb a_ch a_rd a_fr a_ub a_wr r_co r_cn r_ju r_jb r_rd r_fr r_ub r_wr) H → va_D A (w_co_8_94a6 g a_co a_ta a_gu a_so a_cn a_de a_ju a_jb a_ch a_rd a_fr a_ub a_wr r_co r_cn r_ju r_jb r_rd r_fr r_ub r_wr) → va_S A s.heap H locs → lv_has ls 8 [(0, .ref a_ju), (1, .int v1), (2, .int v2), (5, .long v5)] → W p l e rm_Ju_leaveBy s m args below meth c H locs 0 0 (MQ below (QW g none (w_co_8_94a6 g a_co a_ta a_gu a_so a_cn a_de a_ju a_jb a_ch a_rd a_fr a_ub a_wr r_co r_cn y.1 r_jb y.2.1 y.2.2 r_ub r_wr) A) args s 0 0 A) (F0 m 74 ls []) := by
  obtain ⟨hx, hb, hr, hml, hown, hts, hlocks, hA, hK, hG⟩ := id M
  intro r_co r_cn r_ju r_jb r_rd r_fr r_ub r_wr v1 v2 v5 H locs ls hE hP hD hS hl
  rw [f_Ju_leaveBy_74] at hE
  refine lv_lload hx hb d_Ju_leaveBy_74 (lv_at hl 3 rfl) ?_
  refine lv_lconst (v := 0) hx hb d_Ju_leaveBy_76 (by decide) ?_
  refine W.lcmp hx hb d_Ju_leaveBy_77 ?_
  refine lv_if_ne (tgt := 82) hx hb d_Ju_leaveBy_78 (by decide) (fun c1 => ?_) (fun c1 => ?_)
  · have hE := it_f hE c1
    refine lv_aload_n hx hb d_Ju_leaveBy_82 rfl (lv_at hl 0 rfl) ?_
    refine va_get (D := g.1) (ci := 2) (v := .ref a_jb) (C := "MoveDesk$Judge") (T := F_Ju) (N := 10) hx hb hts i_Ju hown hK hP 2 rfl rfl 1 (by decide) (hts _ m_240) (fun _ h9 => h9) rfl d_Ju_leaveBy_83 ?_
    refine lv_bipush (v := 7) hx hb d_Ju_leaveBy_86 (by decide) ?_
    refine lv_iload_n hx hb d_Ju_leaveBy_88 rfl (lv_at hl 2 rfl) ?_
    refine lv_if_eq (tgt := 96) hx hb d_Ju_leaveBy_89 (by decide) (fun c2 => ?_) (fun c2 => ?_)
    · have hE := it_t hE c2
      refine lv_iconst (v := 0) hx hb d_Ju_leaveBy_96 (by decide) ?_
      obtain ⟨y3, hy3, hE⟩ := bd_at hE
      refine kV (C := "MoveDesk$Bundle") (index := 92) (As := [.int 7, .int 0]) (rest := []) (ws2 := (w_co_8_94a6 g a_co a_ta a_gu a_so a_cn a_de a_ju a_jb a_ch a_rd a_fr a_ub a_wr r_co r_cn r_ju r_jb r_rd r_fr r_ub r_wr)) M hP hD hS hl.1 (c_Bu_leastFault l g a_jb r_jb (7 : Int32) (0 : Int32) y3 hy3) m_393 m_394 m_395 m_5 m_396 hd_Bu_leastFault rfl rfl rfl ⟨by decide, by decide⟩ ⟨by decide, by decide⟩ 0 0 rfl rfl rfl [3] [0, 1, 2, 4, 5, 6, 7] [0, 1, 2, 7, 3, 4, 5, 6] rfl rfl rfl rfl (by decide) rfl rfl rfl (Nat.le_of_ble_eq_true rfl) d_Ju_leaveBy_97 (fun H locs hP hD hS => ?_)
      refine W.eq (g2 := F0 m 100 ls [.int y3]) rfl ?_
      refine lv_istore (lv' := [(7, .int y3), (0, .ref a_ju), (1, .int v1), (2, .int v2), (5, .long v5)]) hx hb d_Ju_leaveBy_100 hl (by decide) rfl (fun ls hl => ?_)
      exact wl_Ju_leaveBy_102 M _ _ _ _ _ _ _ _ _ _ _ _ _ _ _ hE hP hD hS (lv_sub hl [1, 2, 3, 4, 0] rfl)
    · have hE := it_f hE c2
      refine lv_iconst (v := 1) hx hb d_Ju_leaveBy_92 (by decide) ?_
      refine lv_goto (tgt := 97) hx hb d_Ju_leaveBy_93 (by decide) ?_
      obtain ⟨y4, hy4, hE⟩ := bd_at hE
      refine kV (C := "MoveDesk$Bundle") (index := 92) (As := [.int 7, .int 1]) (rest := []) (ws2 := (w_co_8_94a6 g a_co a_ta a_gu a_so a_cn a_de a_ju a_jb a_ch a_rd a_fr a_ub a_wr r_co r_cn r_ju r_jb r_rd r_fr r_ub r_wr)) M hP hD hS hl.1 (c_Bu_leastFault l g a_jb r_jb (7 : Int32) (1 : Int32) y4 hy4) m_393 m_394 m_395 m_5 m_396 hd_Bu_leastFault rfl rfl rfl ⟨by decide, by decide⟩ ⟨by decide, by decide⟩ 0 0 rfl rfl rfl [3] [0, 1, 2, 4, 5, 6, 7] [0, 1, 2, 7, 3, 4, 5, 6] rfl rfl rfl rfl (by decide) rfl rfl rfl (Nat.le_of_ble_eq_true rfl) d_Ju_leaveBy_97 (fun H locs hP hD hS => ?_)
      refine W.eq (g2 := F0 m 100 ls [.int y4]) rfl ?_
      refine lv_istore (lv' := [(7, .int y4), (0, .ref a_ju), (1, .int v1), (2, .int v2), (5, .long v5)]) hx hb d_Ju_leaveBy_100 hl (by decide) rfl (fun ls hl => ?_)
      exact wl_Ju_leaveBy_102 M _ _ _ _ _ _ _ _ _ _ _ _ _ _ _ hE hP hD hS (lv_sub hl [1, 2, 3, 4, 0] rfl)
  · have hE := it_t hE c1
    have hE := Option.some.inj hE
    rw [hE]
    exact W.vret hx hb hr (fun t ht hW => ⟨⟨rfl, by rw [ht]; exact hP, va_K.moved hW.alike hK, hD⟩, hS.F ht⟩) hS.2.2 d_Ju_leaveBy_81 hlocks
set_option maxHeartbeats 4000000 in
set_option maxRecDepth 100000 in
theorem wl_Ju_leaveBy_6 {p : Program} {l : Launch} {e : Env} {s : State} {m : MethodId} {args : Array Value} {below : List Frame} {meth : Method} {c : Code} {A : Nat → Prop} {g : GT} {a_co : Nat} {a_ta : Nat} {a_gu : Nat} {a_so : Nat} {a_cn : Nat} {a_de : Nat} {a_ju : Nat} {a_jb : Nat} {a_ch : Nat} {a_rd : Nat} {a_fr : Nat} {a_ub : Nat} {a_wr : Nat} {y : (Nat → Int32) × (Nat → Int64) × (Nat → Int64)} (M : MX p s m args meth c b_Ju_leaveBy 8 none "MoveDesk$Judge" g A) : ∀ n : Nat, ∀ (r_co : Nat → Int32) (r_cn : Nat → Int32) (r_ju : Nat → Int32) (r_jb : Nat → Int32) (r_rd : Nat → Int64) (r_fr : Nat → Int64) (r_ub : Nat → Int64) (r_wr : Nat → Int64) (v1 : Int32) (v2 : Int32) (v3 : Int64) (v5 : Int64) (v7 : Int32) (H : Heap) (locs : List Loc) (ls : Array Slot), some y = (f_Ju_leaveBy_6 n) r_co r_cn r_ju r_jb r_rd r_fr r_ub r_wr v1 v2 v3 v5 v7 → va_P g.1 classes (w_co_8_94a6 g a_co a_ta a_gu a_so a_cn a_de a_ju a_jb a_ch a_rd a_fr a_ub a_wr r_co r_cn r_ju r_jb r_rd r_fr r_ub r_wr) H → va_D A (w_co_8_94a6 g a_co a_ta a_gu a_so a_cn a_de a_ju a_jb a_ch a_rd a_fr a_ub a_wr r_co r_cn r_ju r_jb r_rd r_fr r_ub r_wr) → va_S A s.heap H locs → lv_has ls 8 [(0, .ref a_ju), (1, .int v1), (2, .int v2), (3, .long v3), (5, .long v5), (7, .int v7)] → W p l e rm_Ju_leaveBy s m args below meth c H locs 0 0 (MQ below (QW g none (w_co_8_94a6 g a_co a_ta a_gu a_so a_cn a_de a_ju a_jb a_ch a_rd a_fr a_ub a_wr r_co r_cn y.1 r_jb y.2.1 y.2.2 r_ub r_wr) A) args s 0 0 A) (F0 m 6 ls []) := by
  obtain ⟨hx, hb, hr, hml, hown, hts, hlocks, hA, hK, hG⟩ := id M
  intro n
  induction n with
  | zero =>
    intro r_co r_cn r_ju r_jb r_rd r_fr r_ub r_wr v1 v2 v3 v5 v7 H locs ls hE hP hD hS hl
    rw [f_Ju_leaveBy_6] at hE
    cases hE
  | succ n ih =>
    intro r_co r_cn r_ju r_jb r_rd r_fr r_ub r_wr v1 v2 v3 v5 v7 H locs ls hE hP hD hS hl
    rw [f_Ju_leaveBy_6] at hE
    refine lv_iload hx hb d_Ju_leaveBy_6 (lv_at hl 5 rfl) ?_
    refine lv_iconst (v := 3) hx hb d_Ju_leaveBy_8 (by decide) ?_
    refine lv_icmp_ge (tgt := 45) hx hb d_Ju_leaveBy_9 (by decide) (fun c1 => ?_) (fun c1 => ?_)
    · have hE := it_t hE c1
      refine lv_lload hx hb d_Ju_leaveBy_45 (lv_at hl 4 rfl) ?_
      refine lv_lload_n hx hb d_Ju_leaveBy_47 rfl (lv_at hl 3 rfl) ?_
      refine W.lcmp hx hb d_Ju_leaveBy_48 ?_
      refine lv_if_eq (tgt := 74) hx hb d_Ju_leaveBy_49 (by decide) (fun c2 => ?_) (fun c2 => ?_)
      · have hE := it_t hE c2
        exact wl_Ju_leaveBy_74 M _ _ _ _ _ _ _ _ _ _ _ _ _ _ hE hP hD hS (lv_sub hl [0, 1, 2, 4] rfl)
      · have hE := it_f hE c2
        refine lv_aload_n hx hb d_Ju_leaveBy_52 rfl (lv_at hl 0 rfl) ?_
        refine lv_iload_n hx hb d_Ju_leaveBy_53 rfl (lv_at hl 1 rfl) ?_
        refine lv_aload_n hx hb d_Ju_leaveBy_54 rfl (lv_at hl 0 rfl) ?_
        refine va_get (D := g.1) (ci := 2) (v := .ref a_jb) (C := "MoveDesk$Judge") (T := F_Ju) (N := 10) hx hb hts i_Ju hown hK hP 2 rfl rfl 1 (by decide) (hts _ m_240) (fun _ h9 => h9) rfl d_Ju_leaveBy_55 ?_
        refine lv_iconst (v := 0) hx hb d_Ju_leaveBy_58 (by decide) ?_
        refine lv_iload_n hx hb d_Ju_leaveBy_59 rfl (lv_at hl 2 rfl) ?_
        refine lv_if_eq (tgt := 67) hx hb d_Ju_leaveBy_60 (by decide) (fun c3 => ?_) (fun c3 => ?_)
        · have hE := it_t hE c3
          refine lv_iconst (v := 0) hx hb d_Ju_leaveBy_67 (by decide) ?_
          obtain ⟨y4, hy4, hE⟩ := bd_at hE
          refine kV (C := "MoveDesk$Bundle") (index := 92) (As := [.int 0, .int 0]) (rest := [.int v1, .ref a_ju]) (ws2 := (w_co_8_94a6 g a_co a_ta a_gu a_so a_cn a_de a_ju a_jb a_ch a_rd a_fr a_ub a_wr r_co r_cn r_ju r_jb r_rd r_fr r_ub r_wr)) M hP hD hS hl.1 (c_Bu_leastFault l g a_jb r_jb (0 : Int32) (0 : Int32) y4 hy4) m_393 m_394 m_395 m_5 m_396 hd_Bu_leastFault rfl rfl rfl ⟨by decide, by decide⟩ ⟨by decide, by decide⟩ 0 0 rfl rfl rfl [3] [0, 1, 2, 4, 5, 6, 7] [0, 1, 2, 7, 3, 4, 5, 6] rfl rfl rfl rfl (by decide) rfl rfl rfl (Nat.le_of_ble_eq_true rfl) d_Ju_leaveBy_68 (fun H locs hP hD hS => ?_)
          refine W.eq (g2 := F0 m 71 ls [.int y4, .int v1, .ref a_ju]) rfl ?_
          obtain ⟨y5, hy5, hE⟩ := bd_at hE
          refine kV (C := "MoveDesk$Judge") (index := 96) (As := [.int v1, .int y4]) (rest := []) (ws2 := (w_co_8_94a6 g a_co a_ta a_gu a_so a_cn a_de a_ju a_jb a_ch a_rd a_fr a_ub a_wr r_co r_cn y5 r_jb r_rd r_fr r_ub r_wr)) M hP hD hS hl.1 (c_Ju_blame l g a_co a_ju a_jb a_ch a_rd a_fr a_ub a_wr r_ju v1 y4 y5 hy5) m_403 m_405 s_8 m_8 m_406 hd_Ju_blame rfl rfl rfl ⟨by decide, by decide⟩ ⟨by decide, by decide⟩ 2 0 rfl rfl rfl [2] [0, 1, 3, 4, 5, 6, 7] [0, 1, 7, 2, 3, 4, 5, 6] rfl rfl rfl rfl (by decide) rfl rfl rfl (Nat.le_of_ble_eq_true rfl) d_Ju_leaveBy_71 (fun H locs hP hD hS => ?_)
          refine W.eq (g2 := F0 m 74 ls []) rfl ?_
          exact wl_Ju_leaveBy_74 M _ _ _ _ _ _ _ _ _ _ _ _ _ _ hE hP hD hS (lv_sub hl [0, 1, 2, 4] rfl)
        · have hE := it_f hE c3
          refine lv_iconst (v := 1) hx hb d_Ju_leaveBy_63 (by decide) ?_
          refine lv_goto (tgt := 68) hx hb d_Ju_leaveBy_64 (by decide) ?_
          obtain ⟨y6, hy6, hE⟩ := bd_at hE
          refine kV (C := "MoveDesk$Bundle") (index := 92) (As := [.int 0, .int 1]) (rest := [.int v1, .ref a_ju]) (ws2 := (w_co_8_94a6 g a_co a_ta a_gu a_so a_cn a_de a_ju a_jb a_ch a_rd a_fr a_ub a_wr r_co r_cn r_ju r_jb r_rd r_fr r_ub r_wr)) M hP hD hS hl.1 (c_Bu_leastFault l g a_jb r_jb (0 : Int32) (1 : Int32) y6 hy6) m_393 m_394 m_395 m_5 m_396 hd_Bu_leastFault rfl rfl rfl ⟨by decide, by decide⟩ ⟨by decide, by decide⟩ 0 0 rfl rfl rfl [3] [0, 1, 2, 4, 5, 6, 7] [0, 1, 2, 7, 3, 4, 5, 6] rfl rfl rfl rfl (by decide) rfl rfl rfl (Nat.le_of_ble_eq_true rfl) d_Ju_leaveBy_68 (fun H locs hP hD hS => ?_)
          refine W.eq (g2 := F0 m 71 ls [.int y6, .int v1, .ref a_ju]) rfl ?_
          obtain ⟨y7, hy7, hE⟩ := bd_at hE
          refine kV (C := "MoveDesk$Judge") (index := 96) (As := [.int v1, .int y6]) (rest := []) (ws2 := (w_co_8_94a6 g a_co a_ta a_gu a_so a_cn a_de a_ju a_jb a_ch a_rd a_fr a_ub a_wr r_co r_cn y7 r_jb r_rd r_fr r_ub r_wr)) M hP hD hS hl.1 (c_Ju_blame l g a_co a_ju a_jb a_ch a_rd a_fr a_ub a_wr r_ju v1 y6 y7 hy7) m_403 m_405 s_8 m_8 m_406 hd_Ju_blame rfl rfl rfl ⟨by decide, by decide⟩ ⟨by decide, by decide⟩ 2 0 rfl rfl rfl [2] [0, 1, 3, 4, 5, 6, 7] [0, 1, 7, 2, 3, 4, 5, 6] rfl rfl rfl rfl (by decide) rfl rfl rfl (Nat.le_of_ble_eq_true rfl) d_Ju_leaveBy_71 (fun H locs hP hD hS => ?_)
          refine W.eq (g2 := F0 m 74 ls []) rfl ?_
          exact wl_Ju_leaveBy_74 M _ _ _ _ _ _ _ _ _ _ _ _ _ _ hE hP hD hS (lv_sub hl [0, 1, 2, 4] rfl)
    · have hE := it_f hE c1
      refine lv_aload_n hx hb d_Ju_leaveBy_12 rfl (lv_at hl 0 rfl) ?_
      refine va_get (D := g.1) (ci := 2) (v := .ref a_jb) (C := "MoveDesk$Judge") (T := F_Ju) (N := 10) hx hb hts i_Ju hown hK hP 2 rfl rfl 1 (by decide) (hts _ m_240) (fun _ h9 => h9) rfl d_Ju_leaveBy_13 ?_
      refine va_getN (D := g.1) (ci := 0) (v := .int (r_jb 3)) (C := "MoveDesk$Bundle") (T := F_Bu) (N := 8) hx hb hts i_Bu hown hK hP 3 rfl rfl 3 (by decide) (va_Nw.use rfl (hG.1 _ (nw_76))) (fun _ h9 => h9) rfl d_Ju_leaveBy_16 ?_
      refine lv_iload hx hb d_Ju_leaveBy_19 (lv_at hl 5 rfl) ?_
      refine lv_ishr hx hb d_Ju_leaveBy_21 ?_
      refine lv_iconst (v := 1) hx hb d_Ju_leaveBy_22 (by decide) ?_
      refine lv_iand hx hb d_Ju_leaveBy_23 ?_
      refine lv_if_eq (tgt := 39) hx hb d_Ju_leaveBy_24 (by decide) (fun c8 => ?_) (fun c8 => ?_)
      · have hE := it_t hE c8
        exact wl_Ju_leaveBy_39 M (f_Ju_leaveBy_6 n) ih _ _ _ _ _ _ _ _ _ _ _ _ _ _ _ _ hE hP hD hS (lv_sub hl [0, 1, 2, 3, 4, 5] rfl)
      · have hE := it_f hE c8
        refine lv_lload hx hb d_Ju_leaveBy_27 (lv_at hl 4 rfl) ?_
        refine lv_aload_n hx hb d_Ju_leaveBy_29 rfl (lv_at hl 0 rfl) ?_
        refine va_get (D := g.1) (ci := 2) (v := .ref a_wr) (C := "MoveDesk$Judge") (T := F_Ju) (N := 10) hx hb hts i_Ju hown hK hP 2 rfl rfl 6 (by decide) (hts _ m_245) (fun _ h9 => h9) rfl d_Ju_leaveBy_30 ?_
        refine lv_iload hx hb d_Ju_leaveBy_33 (lv_at hl 5 rfl) ?_
        have ⟨h9, hE⟩ := ck_at hE
        refine va_lald hx hb hK hP 7 2 rfl rfl h9 d_Ju_leaveBy_35 ?_
        refine lv_land hx hb d_Ju_leaveBy_36 ?_
        refine lv_topl (fun x10 ex10 => ?_)
        have hE := nm_at hE ex10
        refine lv_lstore (lv' := [(5, .long x10), (0, .ref a_ju), (1, .int v1), (2, .int v2), (3, .long v3), (7, .int v7)]) hx hb d_Ju_leaveBy_37 hl (by decide) rfl (fun ls hl => ?_)
        exact wl_Ju_leaveBy_39 M (f_Ju_leaveBy_6 n) ih _ _ _ _ _ _ _ _ _ _ _ _ _ _ _ _ hE hP hD hS (lv_sub hl [1, 2, 3, 4, 0, 5] rfl)
set_option maxHeartbeats 4000000 in
set_option maxRecDepth 100000 in
theorem c_Ju_leaveBy (l : Launch) (g : GT) (a_co : Nat) (a_ta : Nat) (a_gu : Nat) (a_so : Nat) (a_cn : Nat) (a_de : Nat) (a_ju : Nat) (a_jb : Nat) (a_ch : Nat) (a_rd : Nat) (a_fr : Nat) (a_ub : Nat) (a_wr : Nat) (r_co : Nat → Int32) (r_cn : Nat → Int32) (r_ju : Nat → Int32) (r_jb : Nat → Int32) (r_rd : Nat → Int64) (r_fr : Nat → Int64) (r_ub : Nat → Int64) (r_wr : Nat → Int64) (v1 : Int32) (v2 : Int32) (v3 : Int64) (y : (Nat → Int32) × (Nat → Int64) × (Nat → Int64)) (hy : some y = f_Ju_leaveBy r_co r_cn r_ju r_jb r_rd r_fr r_ub r_wr v1 v2 v3) : Ct l y_Ju_leaveBy (.code y_Ju_leaveBy b_Ju_leaveBy 8 none) rm_Ju_leaveBy g [.ref a_ju, .int v1, .int v2, .long v3] (w_co_8_94a6 g a_co a_ta a_gu a_so a_cn a_de a_ju a_jb a_ch a_rd a_fr a_ub a_wr r_co r_cn r_ju r_jb r_rd r_fr r_ub r_wr) (w_co_8_94a6 g a_co a_ta a_gu a_so a_cn a_de a_ju a_jb a_ch a_rd a_fr a_ub a_wr r_co r_cn y.1 r_jb y.2.1 y.2.2 r_ub r_wr) none := by
  refine ct_in (C := "MoveDesk$Judge") rfl (by decide) (Nat.le_of_ble_eq_true rfl) (fun p e s m below meth c A ls M hP hD hS hl => ?_)
  obtain ⟨hx, hb, hr, hml, hown, hts, hlocks, hA, hK, hG⟩ := id M
  have hl : lv_has ls 8 [(0, .ref a_ju), (1, .int v1), (2, .int v2), (3, .long v3)] := hl
  have hE := hy
  rw [f_Ju_leaveBy] at hE
  refine lv_lload_n hx hb d_Ju_leaveBy_0 rfl (lv_at hl 3 rfl) ?_
  refine lv_lstore (lv' := [(5, .long v3), (0, .ref a_ju), (1, .int v1), (2, .int v2), (3, .long v3)]) hx hb d_Ju_leaveBy_1 hl (by decide) rfl (fun ls hl => ?_)
  refine lv_iconst (v := 0) hx hb d_Ju_leaveBy_3 (by decide) ?_
  refine lv_istore (lv' := [(7, .int 0), (5, .long v3), (0, .ref a_ju), (1, .int v1), (2, .int v2), (3, .long v3)]) hx hb d_Ju_leaveBy_4 hl (by decide) rfl (fun ls hl => ?_)
  exact wl_Ju_leaveBy_6 M 5000 _ _ _ _ _ _ _ _ _ _ _ _ _ _ _ _ hE hP hD hS (lv_sub hl [2, 3, 4, 5, 1, 0] rfl)
abbrev rm_Ju_leave : Room := { frames := 3, cells := 0, slots := 0, locals := 80 }
set_option maxHeartbeats 4000000 in
set_option maxRecDepth 100000 in
theorem wl_Ju_leave_45 {p : Program} {l : Launch} {e : Env} {s : State} {m : MethodId} {args : Array Value} {below : List Frame} {meth : Method} {c : Code} {A : Nat → Prop} {g : GT} {a_co : Nat} {a_ta : Nat} {a_gu : Nat} {a_so : Nat} {a_cn : Nat} {a_de : Nat} {a_ju : Nat} {a_jb : Nat} {a_ch : Nat} {a_rd : Nat} {a_fr : Nat} {a_ub : Nat} {a_wr : Nat} {y : (Nat → Int32) × (Nat → Int32) × (Nat → Int64) × (Nat → Int64)} (M : MX p s m args meth c b_Ju_leave 6 none "MoveDesk$Judge" g A) (rec_3 : (Nat → Int32) → (Nat → Int32) → (Nat → Int32) → (Nat → Int32) → (Nat → Int32) → (Nat → Int32) → (Nat → Int32) → (Nat → Int64) → (Nat → Int64) → (Nat → Int64) → (Nat → Int64) → Int32 → Int32 → Int64 → Int32 → Option ((Nat → Int32) × (Nat → Int32) × (Nat → Int64) × (Nat → Int64))) (hrec_3 : ∀ (r_co : Nat → Int32) (r_so : Nat → Int32) (r_cn : Nat → Int32) (r_de : Nat → Int32) (r_ju : Nat → Int32) (r_jb : Nat → Int32) (r_ch : Nat → Int32) (r_rd : Nat → Int64) (r_fr : Nat → Int64) (r_ub : Nat → Int64) (r_wr : Nat → Int64) (v1 : Int32) (v2 : Int32) (v3 : Int64) (v5 : Int32) (H : Heap) (locs : List Loc) (ls : Array Slot), some y = rec_3 r_co r_so r_cn r_de r_ju r_jb r_ch r_rd r_fr r_ub r_wr v1 v2 v3 v5 → va_P g.1 classes (w_co_11_2f7c g a_co a_ta a_gu a_so a_cn a_de a_ju a_jb a_ch a_rd a_fr a_ub a_wr r_co r_so r_cn r_de r_ju r_jb r_ch r_rd r_fr r_ub r_wr) H → va_D A (w_co_11_2f7c g a_co a_ta a_gu a_so a_cn a_de a_ju a_jb a_ch a_rd a_fr a_ub a_wr r_co r_so r_cn r_de r_ju r_jb r_ch r_rd r_fr r_ub r_wr) → va_S A s.heap H locs → lv_has ls 6 [(0, .ref a_ju), (1, .int v1), (2, .int v2), (3, .long v3), (5, .int v5)] → W p l e rm_Ju_leave s m args below meth c H locs 0 0 (MQ below (QW g none (w_co_11_2f7c g a_co a_ta a_gu a_so a_cn a_de a_ju a_jb a_ch a_rd a_fr a_ub a_wr r_co r_so r_cn r_de y.1 y.2.1 r_ch y.2.2.1 y.2.2.2 r_ub r_wr) A) args s 0 0 A) (F0 m 3 ls [])) : ∀ (r_co : Nat → Int32) (r_so : Nat → Int32) (r_cn : Nat → Int32) (r_de : Nat → Int32) (r_ju : Nat → Int32) (r_jb : Nat → Int32) (r_ch : Nat → Int32) (r_rd : Nat → Int64) (r_fr : Nat → Int64) (r_ub : Nat → Int64) (r_wr : Nat → Int64) (v1 : Int32) (v2 : Int32) (v3 : Int64) (v5 : Int32) (H : Heap) (locs : List Loc) (ls : Array Slot), some y = (f_Ju_leave_45 rec_3) r_co r_so r_cn r_de r_ju r_jb r_ch r_rd r_fr r_ub r_wr v1 v2 v3 v5 → va_P g.1 classes (w_co_11_2f7c g a_co a_ta a_gu a_so a_cn a_de a_ju a_jb a_ch a_rd a_fr a_ub a_wr r_co r_so r_cn r_de r_ju r_jb r_ch r_rd r_fr r_ub r_wr) H → va_D A (w_co_11_2f7c g a_co a_ta a_gu a_so a_cn a_de a_ju a_jb a_ch a_rd a_fr a_ub a_wr r_co r_so r_cn r_de r_ju r_jb r_ch r_rd r_fr r_ub r_wr) → va_S A s.heap H locs → lv_has ls 6 [(0, .ref a_ju), (1, .int v1), (2, .int v2), (3, .long v3), (5, .int v5)] → W p l e rm_Ju_leave s m args below meth c H locs 0 0 (MQ below (QW g none (w_co_11_2f7c g a_co a_ta a_gu a_so a_cn a_de a_ju a_jb a_ch a_rd a_fr a_ub a_wr r_co r_so r_cn r_de y.1 y.2.1 r_ch y.2.2.1 y.2.2.2 r_ub r_wr) A) args s 0 0 A) (F0 m 45 ls []) := by
  obtain ⟨hx, hb, hr, hml, hown, hts, hlocks, hA, hK, hG⟩ := id M
  intro r_co r_so r_cn r_de r_ju r_jb r_ch r_rd r_fr r_ub r_wr v1 v2 v3 v5 H locs ls hE hP hD hS hl
  rw [f_Ju_leave_45] at hE
  obtain ⟨x1, ex1⟩ : ∃ z : Int32, z = v5 + 1 := ⟨_, rfl⟩
  have hE := nm_at hE ex1
  refine lv_iinc (v := x1) (lv' := [(5, .int x1), (0, .ref a_ju), (1, .int v1), (2, .int v2), (3, .long v3)]) hx hb d_Ju_leave_45 hl (k := 4) rfl (by rw [ex1]; rfl) (by decide) rfl (fun ls hl => ?_)
  refine lv_goto (tgt := 3) hx hb d_Ju_leave_48 (by decide) ?_
  exact hrec_3 _ _ _ _ _ _ _ _ _ _ _ _ _ _ _ _ _ _ hE hP hD hS (lv_sub hl [1, 2, 3, 4, 0] rfl)
set_option maxHeartbeats 4000000 in
set_option maxRecDepth 100000 in
theorem wl_Ju_leave_3 {p : Program} {l : Launch} {e : Env} {s : State} {m : MethodId} {args : Array Value} {below : List Frame} {meth : Method} {c : Code} {A : Nat → Prop} {g : GT} {a_co : Nat} {a_ta : Nat} {a_gu : Nat} {a_so : Nat} {a_cn : Nat} {a_de : Nat} {a_ju : Nat} {a_jb : Nat} {a_ch : Nat} {a_rd : Nat} {a_fr : Nat} {a_ub : Nat} {a_wr : Nat} {y : (Nat → Int32) × (Nat → Int32) × (Nat → Int64) × (Nat → Int64)} (M : MX p s m args meth c b_Ju_leave 6 none "MoveDesk$Judge" g A) : ∀ n : Nat, ∀ (r_co : Nat → Int32) (r_so : Nat → Int32) (r_cn : Nat → Int32) (r_de : Nat → Int32) (r_ju : Nat → Int32) (r_jb : Nat → Int32) (r_ch : Nat → Int32) (r_rd : Nat → Int64) (r_fr : Nat → Int64) (r_ub : Nat → Int64) (r_wr : Nat → Int64) (v1 : Int32) (v2 : Int32) (v3 : Int64) (v5 : Int32) (H : Heap) (locs : List Loc) (ls : Array Slot), some y = (f_Ju_leave_3 n) r_co r_so r_cn r_de r_ju r_jb r_ch r_rd r_fr r_ub r_wr v1 v2 v3 v5 → va_P g.1 classes (w_co_11_2f7c g a_co a_ta a_gu a_so a_cn a_de a_ju a_jb a_ch a_rd a_fr a_ub a_wr r_co r_so r_cn r_de r_ju r_jb r_ch r_rd r_fr r_ub r_wr) H → va_D A (w_co_11_2f7c g a_co a_ta a_gu a_so a_cn a_de a_ju a_jb a_ch a_rd a_fr a_ub a_wr r_co r_so r_cn r_de r_ju r_jb r_ch r_rd r_fr r_ub r_wr) → va_S A s.heap H locs → lv_has ls 6 [(0, .ref a_ju), (1, .int v1), (2, .int v2), (3, .long v3), (5, .int v5)] → W p l e rm_Ju_leave s m args below meth c H locs 0 0 (MQ below (QW g none (w_co_11_2f7c g a_co a_ta a_gu a_so a_cn a_de a_ju a_jb a_ch a_rd a_fr a_ub a_wr r_co r_so r_cn r_de y.1 y.2.1 r_ch y.2.2.1 y.2.2.2 r_ub r_wr) A) args s 0 0 A) (F0 m 3 ls []) := by
  obtain ⟨hx, hb, hr, hml, hown, hts, hlocks, hA, hK, hG⟩ := id M
  intro n
  induction n with
  | zero =>
    intro r_co r_so r_cn r_de r_ju r_jb r_ch r_rd r_fr r_ub r_wr v1 v2 v3 v5 H locs ls hE hP hD hS hl
    rw [f_Ju_leave_3] at hE
    cases hE
  | succ n ih =>
    intro r_co r_so r_cn r_de r_ju r_jb r_ch r_rd r_fr r_ub r_wr v1 v2 v3 v5 H locs ls hE hP hD hS hl
    rw [f_Ju_leave_3] at hE
    refine lv_iload hx hb d_Ju_leave_3 (lv_at hl 4 rfl) ?_
    refine lv_bipush (v := 16) hx hb d_Ju_leave_5 (by decide) ?_
    refine lv_icmp_ge (tgt := 51) hx hb d_Ju_leave_7 (by decide) (fun c1 => ?_) (fun c1 => ?_)
    · have hE := it_t hE c1
      have hE := Option.some.inj hE
      rw [hE]
      exact W.vret hx hb hr (fun t ht hW => ⟨⟨rfl, by rw [ht]; exact hP, va_K.moved hW.alike hK, hD⟩, hS.F ht⟩) hS.2.2 d_Ju_leave_51 hlocks
    · have hE := it_f hE c1
      refine lv_aload_n hx hb d_Ju_leave_10 rfl (lv_at hl 0 rfl) ?_
      refine va_get (D := g.1) (ci := 2) (v := .ref a_ch) (C := "MoveDesk$Judge") (T := F_Ju) (N := 10) hx hb hts i_Ju hown hK hP 4 rfl rfl 2 (by decide) (hts _ m_241) (fun _ h9 => h9) rfl d_Ju_leave_11 ?_
      refine lv_iload_n hx hb d_Ju_leave_14 rfl (lv_at hl 1 rfl) ?_
      have ⟨h2, hE⟩ := ck_at hE
      refine va_iald hx hb hK hP 6 0 rfl rfl h2 d_Ju_leave_15 ?_
      refine lv_iload hx hb d_Ju_leave_16 (lv_at hl 4 rfl) ?_
      refine lv_ishr hx hb d_Ju_leave_18 ?_
      refine lv_iconst (v := 1) hx hb d_Ju_leave_19 (by decide) ?_
      refine lv_iand hx hb d_Ju_leave_20 ?_
      refine lv_if_eq (tgt := 45) hx hb d_Ju_leave_21 (by decide) (fun c3 => ?_) (fun c3 => ?_)
      · have hE := it_t hE c3
        exact wl_Ju_leave_45 M (f_Ju_leave_3 n) ih _ _ _ _ _ _ _ _ _ _ _ _ _ _ _ _ _ _ hE hP hD hS (lv_sub hl [0, 1, 2, 3, 4] rfl)
      · have hE := it_f hE c3
        refine lv_aload_n hx hb d_Ju_leave_24 rfl (lv_at hl 0 rfl) ?_
        refine va_get (D := g.1) (ci := 2) (v := .ref a_jb) (C := "MoveDesk$Judge") (T := F_Ju) (N := 10) hx hb hts i_Ju hown hK hP 4 rfl rfl 1 (by decide) (hts _ m_240) (fun _ h9 => h9) rfl d_Ju_leave_25 ?_
        refine lv_aload_n hx hb d_Ju_leave_28 rfl (lv_at hl 0 rfl) ?_
        refine va_get (D := g.1) (ci := 2) (v := .ref a_co) (C := "MoveDesk$Judge") (T := F_Ju) (N := 10) hx hb hts i_Ju hown hK hP 4 rfl rfl 0 (by decide) (hts _ m_239) (fun _ h9 => h9) rfl d_Ju_leave_29 ?_
        refine lv_iload_n hx hb d_Ju_leave_32 rfl (lv_at hl 1 rfl) ?_
        refine lv_iload hx hb d_Ju_leave_33 (lv_at hl 4 rfl) ?_
        obtain ⟨y4, hy4, hE⟩ := bd_at hE
        refine kV (C := "MoveDesk$Bundle") (index := 82) (As := [.ref a_co, .int v1, .int v5]) (rest := []) (ws2 := (w_co_11_2f7c g a_co a_ta a_gu a_so a_cn a_de a_ju a_jb a_ch a_rd a_fr a_ub a_wr r_co r_so r_cn r_de r_ju y4 r_ch r_rd r_fr r_ub r_wr)) M hP hD hS hl.1 (c_Bu_gather l g a_co a_ta a_gu a_so a_cn a_de a_jb r_co r_so r_de r_jb v1 v5 y4 hy4) m_369 m_370 m_371 m_5 m_372 hd_Bu_gather rfl rfl rfl ⟨by decide, by decide⟩ ⟨by decide, by decide⟩ 0 3 rfl rfl rfl [0, 1, 3, 5] [2, 4, 6, 7, 8, 9, 10] [7, 8, 0, 9, 1, 10, 2, 3, 4, 5, 6] rfl rfl rfl rfl (by decide) rfl rfl rfl (Nat.le_of_ble_eq_true rfl) d_Ju_leave_35 (fun H locs hP hD hS => ?_)
        refine W.eq (g2 := F0 m 38 ls []) rfl ?_
        refine lv_aload_n hx hb d_Ju_leave_38 rfl (lv_at hl 0 rfl) ?_
        refine lv_iload_n hx hb d_Ju_leave_39 rfl (lv_at hl 1 rfl) ?_
        refine lv_iload_n hx hb d_Ju_leave_40 rfl (lv_at hl 2 rfl) ?_
        refine lv_lload_n hx hb d_Ju_leave_41 rfl (lv_at hl 3 rfl) ?_
        obtain ⟨y5, hy5, hE⟩ := bd_at hE
        refine kV (C := "MoveDesk$Judge") (index := 86) (As := [.int v1, .int v2, .long v3]) (rest := []) (ws2 := (w_co_11_2f7c g a_co a_ta a_gu a_so a_cn a_de a_ju a_jb a_ch a_rd a_fr a_ub a_wr r_co r_so r_cn r_de y5.1 y4 r_ch y5.2.1 y5.2.2 r_ub r_wr)) M hP hD hS hl.1 (c_Ju_leaveBy l g a_co a_ta a_gu a_so a_cn a_de a_ju a_jb a_ch a_rd a_fr a_ub a_wr r_co r_cn r_ju y4 r_rd r_fr r_ub r_wr v1 v2 v3 y5 hy5) m_389 m_391 s_7 m_8 m_392 hd_Ju_leaveBy rfl rfl rfl ⟨by decide, by decide⟩ ⟨by decide, by decide⟩ 2 2 rfl rfl rfl [0, 2, 4, 5, 7, 8, 9, 10] [1, 3, 6] [3, 0, 4, 1, 5, 6, 2, 7, 8, 9, 10] rfl rfl rfl rfl (by decide) rfl rfl rfl (Nat.le_of_ble_eq_true rfl) d_Ju_leave_42 (fun H locs hP hD hS => ?_)
        refine W.eq (g2 := F0 m 45 ls []) rfl ?_
        exact wl_Ju_leave_45 M (f_Ju_leave_3 n) ih _ _ _ _ _ _ _ _ _ _ _ _ _ _ _ _ _ _ hE hP hD hS (lv_sub hl [0, 1, 2, 3, 4] rfl)
set_option maxHeartbeats 4000000 in
set_option maxRecDepth 100000 in
theorem c_Ju_leave (l : Launch) (g : GT) (a_co : Nat) (a_ta : Nat) (a_gu : Nat) (a_so : Nat) (a_cn : Nat) (a_de : Nat) (a_ju : Nat) (a_jb : Nat) (a_ch : Nat) (a_rd : Nat) (a_fr : Nat) (a_ub : Nat) (a_wr : Nat) (r_co : Nat → Int32) (r_so : Nat → Int32) (r_cn : Nat → Int32) (r_de : Nat → Int32) (r_ju : Nat → Int32) (r_jb : Nat → Int32) (r_ch : Nat → Int32) (r_rd : Nat → Int64) (r_fr : Nat → Int64) (r_ub : Nat → Int64) (r_wr : Nat → Int64) (v1 : Int32) (v2 : Int32) (v3 : Int64) (y : (Nat → Int32) × (Nat → Int32) × (Nat → Int64) × (Nat → Int64)) (hy : some y = f_Ju_leave r_co r_so r_cn r_de r_ju r_jb r_ch r_rd r_fr r_ub r_wr v1 v2 v3) : Ct l y_Ju_leave (.code y_Ju_leave b_Ju_leave 6 none) rm_Ju_leave g [.ref a_ju, .int v1, .int v2, .long v3] (w_co_11_2f7c g a_co a_ta a_gu a_so a_cn a_de a_ju a_jb a_ch a_rd a_fr a_ub a_wr r_co r_so r_cn r_de r_ju r_jb r_ch r_rd r_fr r_ub r_wr) (w_co_11_2f7c g a_co a_ta a_gu a_so a_cn a_de a_ju a_jb a_ch a_rd a_fr a_ub a_wr r_co r_so r_cn r_de y.1 y.2.1 r_ch y.2.2.1 y.2.2.2 r_ub r_wr) none := by
  refine ct_in (C := "MoveDesk$Judge") rfl (by decide) (Nat.le_of_ble_eq_true rfl) (fun p e s m below meth c A ls M hP hD hS hl => ?_)
  obtain ⟨hx, hb, hr, hml, hown, hts, hlocks, hA, hK, hG⟩ := id M
  have hl : lv_has ls 6 [(0, .ref a_ju), (1, .int v1), (2, .int v2), (3, .long v3)] := hl
  have hE := hy
  rw [f_Ju_leave] at hE
  refine lv_iconst (v := 0) hx hb d_Ju_leave_0 (by decide) ?_
  refine lv_istore (lv' := [(5, .int 0), (0, .ref a_ju), (1, .int v1), (2, .int v2), (3, .long v3)]) hx hb d_Ju_leave_1 hl (by decide) rfl (fun ls hl => ?_)
  exact wl_Ju_leave_3 M 5000 _ _ _ _ _ _ _ _ _ _ _ _ _ _ _ _ _ _ hE hP hD hS (lv_sub hl [1, 2, 3, 4, 0] rfl)
abbrev rm_Ju_leastWrongCycle : Room := { frames := 4, cells := 0, slots := 0, locals := 105 }
set_option maxHeartbeats 4000000 in
set_option maxRecDepth 100000 in
theorem wl_Ju_leastWrongCycle_67 {p : Program} {l : Launch} {e : Env} {s : State} {m : MethodId} {args : Array Value} {below : List Frame} {meth : Method} {c : Code} {A : Nat → Prop} {g : GT} {a_co : Nat} {a_ta : Nat} {a_gu : Nat} {a_so : Nat} {a_cn : Nat} {a_de : Nat} {a_ju : Nat} {a_jb : Nat} {a_ch : Nat} {a_rd : Nat} {a_fr : Nat} {a_ub : Nat} {a_wr : Nat} {y : Int32 × (Nat → Int32) × (Nat → Int32) × (Nat → Int32) × (Nat → Int64) × (Nat → Int64)} (M : MX p s m args meth c b_Ju_leastWrongCycle 5 (some .int) "MoveDesk$Judge" g A) (rec_6 : (Nat → Int32) → (Nat → Int32) → (Nat → Int32) → (Nat → Int32) → (Nat → Int32) → (Nat → Int32) → (Nat → Int32) → (Nat → Int32) → (Nat → Int32) → (Nat → Int64) → (Nat → Int64) → (Nat → Int64) → (Nat → Int64) → Int32 → Option (Int32 × (Nat → Int32) × (Nat → Int32) × (Nat → Int32) × (Nat → Int64) × (Nat → Int64))) (hrec_6 : ∀ (r_co : Nat → Int32) (r_ta : Nat → Int32) (r_gu : Nat → Int32) (r_so : Nat → Int32) (r_cn : Nat → Int32) (r_de : Nat → Int32) (r_ju : Nat → Int32) (r_jb : Nat → Int32) (r_ch : Nat → Int32) (r_rd : Nat → Int64) (r_fr : Nat → Int64) (r_ub : Nat → Int64) (r_wr : Nat → Int64) (v1 : Int32) (H : Heap) (locs : List Loc) (ls : Array Slot), some y = rec_6 r_co r_ta r_gu r_so r_cn r_de r_ju r_jb r_ch r_rd r_fr r_ub r_wr v1 → va_P g.1 classes (w_co_13_550d g a_co a_ta a_gu a_so a_cn a_de a_ju a_jb a_ch a_rd a_fr a_ub a_wr r_co r_ta r_gu r_so r_cn r_de r_ju r_jb r_ch r_rd r_fr r_ub r_wr) H → va_D A (w_co_13_550d g a_co a_ta a_gu a_so a_cn a_de a_ju a_jb a_ch a_rd a_fr a_ub a_wr r_co r_ta r_gu r_so r_cn r_de r_ju r_jb r_ch r_rd r_fr r_ub r_wr) → va_S A s.heap H locs → lv_has ls 5 [(0, .ref a_ju), (1, .int v1)] → W p l e rm_Ju_leastWrongCycle s m args below meth c H locs 0 0 (MQ below (QW g (some (.int y.1)) (w_co_13_550d g a_co a_ta a_gu a_so a_cn a_de a_ju a_jb a_ch a_rd a_fr a_ub a_wr r_co r_ta r_gu r_so r_cn r_de y.2.1 y.2.2.1 y.2.2.2.1 y.2.2.2.2.1 y.2.2.2.2.2 r_ub r_wr) A) args s 0 0 A) (F0 m 6 ls [])) (rec_27 : (Nat → Int32) → (Nat → Int32) → (Nat → Int32) → (Nat → Int32) → (Nat → Int32) → (Nat → Int32) → (Nat → Int32) → (Nat → Int32) → (Nat → Int32) → (Nat → Int64) → (Nat → Int64) → (Nat → Int64) → (Nat → Int64) → Int32 → Int32 → Option (Int32 × (Nat → Int32) × (Nat → Int32) × (Nat → Int32) × (Nat → Int64) × (Nat → Int64))) (hrec_27 : ∀ (r_co : Nat → Int32) (r_ta : Nat → Int32) (r_gu : Nat → Int32) (r_so : Nat → Int32) (r_cn : Nat → Int32) (r_de : Nat → Int32) (r_ju : Nat → Int32) (r_jb : Nat → Int32) (r_ch : Nat → Int32) (r_rd : Nat → Int64) (r_fr : Nat → Int64) (r_ub : Nat → Int64) (r_wr : Nat → Int64) (v1 : Int32) (v2 : Int32) (H : Heap) (locs : List Loc) (ls : Array Slot), some y = rec_27 r_co r_ta r_gu r_so r_cn r_de r_ju r_jb r_ch r_rd r_fr r_ub r_wr v1 v2 → va_P g.1 classes (w_co_13_550d g a_co a_ta a_gu a_so a_cn a_de a_ju a_jb a_ch a_rd a_fr a_ub a_wr r_co r_ta r_gu r_so r_cn r_de r_ju r_jb r_ch r_rd r_fr r_ub r_wr) H → va_D A (w_co_13_550d g a_co a_ta a_gu a_so a_cn a_de a_ju a_jb a_ch a_rd a_fr a_ub a_wr r_co r_ta r_gu r_so r_cn r_de r_ju r_jb r_ch r_rd r_fr r_ub r_wr) → va_S A s.heap H locs → lv_has ls 5 [(0, .ref a_ju), (1, .int v1), (2, .int v2)] → W p l e rm_Ju_leastWrongCycle s m args below meth c H locs 0 0 (MQ below (QW g (some (.int y.1)) (w_co_13_550d g a_co a_ta a_gu a_so a_cn a_de a_ju a_jb a_ch a_rd a_fr a_ub a_wr r_co r_ta r_gu r_so r_cn r_de y.2.1 y.2.2.1 y.2.2.2.1 y.2.2.2.2.1 y.2.2.2.2.2 r_ub r_wr) A) args s 0 0 A) (F0 m 27 ls [])) : ∀ (r_co : Nat → Int32) (r_ta : Nat → Int32) (r_gu : Nat → Int32) (r_so : Nat → Int32) (r_cn : Nat → Int32) (r_de : Nat → Int32) (r_ju : Nat → Int32) (r_jb : Nat → Int32) (r_ch : Nat → Int32) (r_rd : Nat → Int64) (r_fr : Nat → Int64) (r_ub : Nat → Int64) (r_wr : Nat → Int64) (v1 : Int32) (v2 : Int32) (H : Heap) (locs : List Loc) (ls : Array Slot), some y = (f_Ju_leastWrongCycle_67 rec_6 rec_27) r_co r_ta r_gu r_so r_cn r_de r_ju r_jb r_ch r_rd r_fr r_ub r_wr v1 v2 → va_P g.1 classes (w_co_13_550d g a_co a_ta a_gu a_so a_cn a_de a_ju a_jb a_ch a_rd a_fr a_ub a_wr r_co r_ta r_gu r_so r_cn r_de r_ju r_jb r_ch r_rd r_fr r_ub r_wr) H → va_D A (w_co_13_550d g a_co a_ta a_gu a_so a_cn a_de a_ju a_jb a_ch a_rd a_fr a_ub a_wr r_co r_ta r_gu r_so r_cn r_de r_ju r_jb r_ch r_rd r_fr r_ub r_wr) → va_S A s.heap H locs → lv_has ls 5 [(0, .ref a_ju), (1, .int v1), (2, .int v2)] → W p l e rm_Ju_leastWrongCycle s m args below meth c H locs 0 0 (MQ below (QW g (some (.int y.1)) (w_co_13_550d g a_co a_ta a_gu a_so a_cn a_de a_ju a_jb a_ch a_rd a_fr a_ub a_wr r_co r_ta r_gu r_so r_cn r_de y.2.1 y.2.2.1 y.2.2.2.1 y.2.2.2.2.1 y.2.2.2.2.2 r_ub r_wr) A) args s 0 0 A) (F0 m 67 ls []) := by
  obtain ⟨hx, hb, hr, hml, hown, hts, hlocks, hA, hK, hG⟩ := id M
  intro r_co r_ta r_gu r_so r_cn r_de r_ju r_jb r_ch r_rd r_fr r_ub r_wr v1 v2 H locs ls hE hP hD hS hl
  rw [f_Ju_leastWrongCycle_67] at hE
  obtain ⟨x1, ex1⟩ : ∃ z : Int32, z = v2 + 1 := ⟨_, rfl⟩
  have hE := nm_at hE ex1
  refine lv_iinc (v := x1) (lv' := [(2, .int x1), (0, .ref a_ju), (1, .int v1)]) hx hb d_Ju_leastWrongCycle_67 hl (k := 2) rfl (by rw [ex1]; rfl) (by decide) rfl (fun ls hl => ?_)
  refine lv_goto (tgt := 27) hx hb d_Ju_leastWrongCycle_70 (by decide) ?_
  exact hrec_27 _ _ _ _ _ _ _ _ _ _ _ _ _ _ _ _ _ _ hE hP hD hS (lv_sub hl [1, 2, 0] rfl)
set_option maxHeartbeats 4000000 in
set_option maxRecDepth 100000 in
theorem wl_Ju_leastWrongCycle_27 {p : Program} {l : Launch} {e : Env} {s : State} {m : MethodId} {args : Array Value} {below : List Frame} {meth : Method} {c : Code} {A : Nat → Prop} {g : GT} {a_co : Nat} {a_ta : Nat} {a_gu : Nat} {a_so : Nat} {a_cn : Nat} {a_de : Nat} {a_ju : Nat} {a_jb : Nat} {a_ch : Nat} {a_rd : Nat} {a_fr : Nat} {a_ub : Nat} {a_wr : Nat} {y : Int32 × (Nat → Int32) × (Nat → Int32) × (Nat → Int32) × (Nat → Int64) × (Nat → Int64)} (M : MX p s m args meth c b_Ju_leastWrongCycle 5 (some .int) "MoveDesk$Judge" g A) (rec_6 : (Nat → Int32) → (Nat → Int32) → (Nat → Int32) → (Nat → Int32) → (Nat → Int32) → (Nat → Int32) → (Nat → Int32) → (Nat → Int32) → (Nat → Int32) → (Nat → Int64) → (Nat → Int64) → (Nat → Int64) → (Nat → Int64) → Int32 → Option (Int32 × (Nat → Int32) × (Nat → Int32) × (Nat → Int32) × (Nat → Int64) × (Nat → Int64))) (hrec_6 : ∀ (r_co : Nat → Int32) (r_ta : Nat → Int32) (r_gu : Nat → Int32) (r_so : Nat → Int32) (r_cn : Nat → Int32) (r_de : Nat → Int32) (r_ju : Nat → Int32) (r_jb : Nat → Int32) (r_ch : Nat → Int32) (r_rd : Nat → Int64) (r_fr : Nat → Int64) (r_ub : Nat → Int64) (r_wr : Nat → Int64) (v1 : Int32) (H : Heap) (locs : List Loc) (ls : Array Slot), some y = rec_6 r_co r_ta r_gu r_so r_cn r_de r_ju r_jb r_ch r_rd r_fr r_ub r_wr v1 → va_P g.1 classes (w_co_13_550d g a_co a_ta a_gu a_so a_cn a_de a_ju a_jb a_ch a_rd a_fr a_ub a_wr r_co r_ta r_gu r_so r_cn r_de r_ju r_jb r_ch r_rd r_fr r_ub r_wr) H → va_D A (w_co_13_550d g a_co a_ta a_gu a_so a_cn a_de a_ju a_jb a_ch a_rd a_fr a_ub a_wr r_co r_ta r_gu r_so r_cn r_de r_ju r_jb r_ch r_rd r_fr r_ub r_wr) → va_S A s.heap H locs → lv_has ls 5 [(0, .ref a_ju), (1, .int v1)] → W p l e rm_Ju_leastWrongCycle s m args below meth c H locs 0 0 (MQ below (QW g (some (.int y.1)) (w_co_13_550d g a_co a_ta a_gu a_so a_cn a_de a_ju a_jb a_ch a_rd a_fr a_ub a_wr r_co r_ta r_gu r_so r_cn r_de y.2.1 y.2.2.1 y.2.2.2.1 y.2.2.2.2.1 y.2.2.2.2.2 r_ub r_wr) A) args s 0 0 A) (F0 m 6 ls [])) : ∀ n : Nat, ∀ (r_co : Nat → Int32) (r_ta : Nat → Int32) (r_gu : Nat → Int32) (r_so : Nat → Int32) (r_cn : Nat → Int32) (r_de : Nat → Int32) (r_ju : Nat → Int32) (r_jb : Nat → Int32) (r_ch : Nat → Int32) (r_rd : Nat → Int64) (r_fr : Nat → Int64) (r_ub : Nat → Int64) (r_wr : Nat → Int64) (v1 : Int32) (v2 : Int32) (H : Heap) (locs : List Loc) (ls : Array Slot), some y = (f_Ju_leastWrongCycle_27 rec_6 n) r_co r_ta r_gu r_so r_cn r_de r_ju r_jb r_ch r_rd r_fr r_ub r_wr v1 v2 → va_P g.1 classes (w_co_13_550d g a_co a_ta a_gu a_so a_cn a_de a_ju a_jb a_ch a_rd a_fr a_ub a_wr r_co r_ta r_gu r_so r_cn r_de r_ju r_jb r_ch r_rd r_fr r_ub r_wr) H → va_D A (w_co_13_550d g a_co a_ta a_gu a_so a_cn a_de a_ju a_jb a_ch a_rd a_fr a_ub a_wr r_co r_ta r_gu r_so r_cn r_de r_ju r_jb r_ch r_rd r_fr r_ub r_wr) → va_S A s.heap H locs → lv_has ls 5 [(0, .ref a_ju), (1, .int v1), (2, .int v2)] → W p l e rm_Ju_leastWrongCycle s m args below meth c H locs 0 0 (MQ below (QW g (some (.int y.1)) (w_co_13_550d g a_co a_ta a_gu a_so a_cn a_de a_ju a_jb a_ch a_rd a_fr a_ub a_wr r_co r_ta r_gu r_so r_cn r_de y.2.1 y.2.2.1 y.2.2.2.1 y.2.2.2.2.1 y.2.2.2.2.2 r_ub r_wr) A) args s 0 0 A) (F0 m 27 ls []) := by
  obtain ⟨hx, hb, hr, hml, hown, hts, hlocks, hA, hK, hG⟩ := id M
  intro n
  induction n with
  | zero =>
    intro r_co r_ta r_gu r_so r_cn r_de r_ju r_jb r_ch r_rd r_fr r_ub r_wr v1 v2 H locs ls hE hP hD hS hl
    rw [f_Ju_leastWrongCycle_27] at hE
    cases hE
  | succ n ih =>
    intro r_co r_ta r_gu r_so r_cn r_de r_ju r_jb r_ch r_rd r_fr r_ub r_wr v1 v2 H locs ls hE hP hD hS hl
    rw [f_Ju_leastWrongCycle_27] at hE
    refine lv_iload_n hx hb d_Ju_leastWrongCycle_27 rfl (lv_at hl 2 rfl) ?_
    refine lv_sipush (v := 576) hx hb d_Ju_leastWrongCycle_28 (by decide) ?_
    refine lv_icmp_ge (tgt := 73) hx hb d_Ju_leastWrongCycle_31 (by decide) (fun c1 => ?_) (fun c1 => ?_)
    · have hE := it_t hE c1
      obtain ⟨x2, ex2⟩ : ∃ z : Int32, z = v1 + 1 := ⟨_, rfl⟩
      have hE := nm_at hE ex2
      refine lv_iinc (v := x2) (lv' := [(1, .int x2), (0, .ref a_ju), (2, .int v2)]) hx hb d_Ju_leastWrongCycle_73 hl (k := 1) rfl (by rw [ex2]; rfl) (by decide) rfl (fun ls hl => ?_)
      refine lv_goto (tgt := 6) hx hb d_Ju_leastWrongCycle_76 (by decide) ?_
      exact hrec_6 _ _ _ _ _ _ _ _ _ _ _ _ _ _ _ _ _ hE hP hD hS (lv_sub hl [1, 0] rfl)
    · have hE := it_f hE c1
      refine lv_aload_n hx hb d_Ju_leastWrongCycle_34 rfl (lv_at hl 0 rfl) ?_
      refine va_get (D := g.1) (ci := 2) (v := .ref a_fr) (C := "MoveDesk$Judge") (T := F_Ju) (N := 10) hx hb hts i_Ju hown hK hP 6 rfl rfl 4 (by decide) (hts _ m_243) (fun _ h9 => h9) rfl d_Ju_leastWrongCycle_35 ?_
      refine lv_iload_n hx hb d_Ju_leastWrongCycle_38 rfl (lv_at hl 2 rfl) ?_
      have ⟨h3, hE⟩ := ck_at hE
      refine va_lald hx hb hK hP 10 2 rfl rfl h3 d_Ju_leastWrongCycle_39 ?_
      refine lv_topl (fun x4 ex4 => ?_)
      have hE := nm_at hE ex4
      refine lv_lstore_n (lv' := [(3, .long x4), (0, .ref a_ju), (1, .int v1), (2, .int v2)]) hx hb d_Ju_leastWrongCycle_40 rfl hl (by decide) rfl (fun ls hl => ?_)
      refine lv_lload_n hx hb d_Ju_leastWrongCycle_41 rfl (lv_at hl 0 rfl) ?_
      refine lv_lconst (v := 0) hx hb d_Ju_leastWrongCycle_42 (by decide) ?_
      refine W.lcmp hx hb d_Ju_leastWrongCycle_43 ?_
      refine lv_if_eq (tgt := 67) hx hb d_Ju_leastWrongCycle_44 (by decide) (fun c5 => ?_) (fun c5 => ?_)
      · have hE := it_t hE c5
        exact wl_Ju_leastWrongCycle_67 M rec_6 hrec_6 (f_Ju_leastWrongCycle_27 rec_6 n) ih _ _ _ _ _ _ _ _ _ _ _ _ _ _ _ _ _ _ hE hP hD hS (lv_sub hl [1, 2, 3] rfl)
      · have hE := it_f hE c5
        refine lv_aload_n hx hb d_Ju_leastWrongCycle_47 rfl (lv_at hl 1 rfl) ?_
        refine va_get (D := g.1) (ci := 2) (v := .ref a_fr) (C := "MoveDesk$Judge") (T := F_Ju) (N := 10) hx hb hts i_Ju hown hK hP 6 rfl rfl 4 (by decide) (hts _ m_243) (fun _ h9 => h9) rfl d_Ju_leastWrongCycle_48 ?_
        refine lv_iload_n hx hb d_Ju_leastWrongCycle_51 rfl (lv_at hl 3 rfl) ?_
        refine lv_lconst (v := 0) hx hb d_Ju_leastWrongCycle_52 (by decide) ?_
        have ⟨h6, hE⟩ := ck_at hE
        refine va_last hx hb hK hP hD hS 10 2 rfl rfl h6 d_Ju_leastWrongCycle_53 (fun H locs hP hD hS => ?_)
        have hP : va_P g.1 classes (w_co_13_550d g a_co a_ta a_gu a_so a_cn a_de a_ju a_jb a_ch a_rd a_fr a_ub a_wr r_co r_ta r_gu r_so r_cn r_de r_ju r_jb r_ch r_rd (vp_updL r_fr v2.toNatClampNeg (0 : Int64)) r_ub r_wr) H := hP
        have hD : va_D A (w_co_13_550d g a_co a_ta a_gu a_so a_cn a_de a_ju a_jb a_ch a_rd a_fr a_ub a_wr r_co r_ta r_gu r_so r_cn r_de r_ju r_jb r_ch r_rd (vp_updL r_fr v2.toNatClampNeg (0 : Int64)) r_ub r_wr) := hD
        refine lv_aload_n hx hb d_Ju_leastWrongCycle_54 rfl (lv_at hl 1 rfl) ?_
        refine lv_iload_n hx hb d_Ju_leastWrongCycle_55 rfl (lv_at hl 3 rfl) ?_
        refine lv_bipush (v := 9) hx hb d_Ju_leastWrongCycle_56 (by decide) ?_
        refine lv_idiv hx hb d_Ju_leastWrongCycle_58 (by decide) ?_
        refine lv_iload_n hx hb d_Ju_leastWrongCycle_59 rfl (lv_at hl 3 rfl) ?_
        refine lv_bipush (v := 9) hx hb d_Ju_leastWrongCycle_60 (by decide) ?_
        refine lv_irem hx hb d_Ju_leastWrongCycle_62 (by decide) ?_
        refine lv_lload_n hx hb d_Ju_leastWrongCycle_63 rfl (lv_at hl 0 rfl) ?_
        obtain ⟨y7, hy7, hE⟩ := bd_at hE
        refine kV (C := "MoveDesk$Judge") (index := 56) (As := [.int (v2 / (9 : Int32)), .int (v2 - v2 / (9 : Int32) * (9 : Int32)), .long x4]) (rest := []) (ws2 := (w_co_13_550d g a_co a_ta a_gu a_so a_cn a_de a_ju a_jb a_ch a_rd a_fr a_ub a_wr r_co r_ta r_gu r_so r_cn r_de y7.1 y7.2.1 r_ch y7.2.2.1 y7.2.2.2 r_ub r_wr)) M hP hD hS hl.1 (c_Ju_leave l g a_co a_ta a_gu a_so a_cn a_de a_ju a_jb a_ch a_rd a_fr a_ub a_wr r_co r_so r_cn r_de r_ju r_jb r_ch r_rd (vp_updL r_fr v2.toNatClampNeg (0 : Int64)) r_ub r_wr (v2 / (9 : Int32)) (v2 - v2 / (9 : Int32) * (9 : Int32)) x4 y7 hy7) m_365 m_367 s_3 m_8 m_368 hd_Ju_leave rfl rfl rfl ⟨by decide, by decide⟩ ⟨by decide, by decide⟩ 2 4 rfl rfl rfl [0, 3, 4, 5, 6, 7, 8, 9, 10, 11, 12] [1, 2] [2, 0, 1, 3, 4, 5, 6, 7, 8, 9, 10, 11, 12] rfl rfl rfl rfl (by decide) rfl rfl rfl (Nat.le_of_ble_eq_true rfl) d_Ju_leastWrongCycle_64 (fun H locs hP hD hS => ?_)
        refine W.eq (g2 := F0 m 67 ls []) rfl ?_
        exact wl_Ju_leastWrongCycle_67 M rec_6 hrec_6 (f_Ju_leastWrongCycle_27 rec_6 n) ih _ _ _ _ _ _ _ _ _ _ _ _ _ _ _ _ _ _ hE hP hD hS (lv_sub hl [1, 2, 3] rfl)
set_option maxHeartbeats 4000000 in
set_option maxRecDepth 100000 in
theorem wl_Ju_leastWrongCycle_79 {p : Program} {l : Launch} {e : Env} {s : State} {m : MethodId} {args : Array Value} {below : List Frame} {meth : Method} {c : Code} {A : Nat → Prop} {g : GT} {a_co : Nat} {a_ta : Nat} {a_gu : Nat} {a_so : Nat} {a_cn : Nat} {a_de : Nat} {a_ju : Nat} {a_jb : Nat} {a_ch : Nat} {a_rd : Nat} {a_fr : Nat} {a_ub : Nat} {a_wr : Nat} {y : Int32 × (Nat → Int32) × (Nat → Int32) × (Nat → Int32) × (Nat → Int64) × (Nat → Int64)} (M : MX p s m args meth c b_Ju_leastWrongCycle 5 (some .int) "MoveDesk$Judge" g A) : ∀ (r_co : Nat → Int32) (r_ta : Nat → Int32) (r_gu : Nat → Int32) (r_so : Nat → Int32) (r_cn : Nat → Int32) (r_de : Nat → Int32) (r_ju : Nat → Int32) (r_jb : Nat → Int32) (r_ch : Nat → Int32) (r_rd : Nat → Int64) (r_fr : Nat → Int64) (r_ub : Nat → Int64) (r_wr : Nat → Int64)  (H : Heap) (locs : List Loc) (ls : Array Slot), some y = f_Ju_leastWrongCycle_79 r_co r_ta r_gu r_so r_cn r_de r_ju r_jb r_ch r_rd r_fr r_ub r_wr → va_P g.1 classes (w_co_13_550d g a_co a_ta a_gu a_so a_cn a_de a_ju a_jb a_ch a_rd a_fr a_ub a_wr r_co r_ta r_gu r_so r_cn r_de r_ju r_jb r_ch r_rd r_fr r_ub r_wr) H → va_D A (w_co_13_550d g a_co a_ta a_gu a_so a_cn a_de a_ju a_jb a_ch a_rd a_fr a_ub a_wr r_co r_ta r_gu r_so r_cn r_de r_ju r_jb r_ch r_rd r_fr r_ub r_wr) → va_S A s.heap H locs → lv_has ls 5 [(0, .ref a_ju)] → W p l e rm_Ju_leastWrongCycle s m args below meth c H locs 0 0 (MQ below (QW g (some (.int y.1)) (w_co_13_550d g a_co a_ta a_gu a_so a_cn a_de a_ju a_jb a_ch a_rd a_fr a_ub a_wr r_co r_ta r_gu r_so r_cn r_de y.2.1 y.2.2.1 y.2.2.2.1 y.2.2.2.2.1 y.2.2.2.2.2 r_ub r_wr) A) args s 0 0 A) (F0 m 79 ls []) := by
  obtain ⟨hx, hb, hr, hml, hown, hts, hlocks, hA, hK, hG⟩ := id M
  intro r_co r_ta r_gu r_so r_cn r_de r_ju r_jb r_ch r_rd r_fr r_ub r_wr H locs ls hE hP hD hS hl
  rw [f_Ju_leastWrongCycle_79] at hE
  refine lv_aload_n hx hb d_Ju_leastWrongCycle_79 rfl (lv_at hl 0 rfl) ?_
  refine va_get (D := g.1) (ci := 2) (v := .int (r_ju 8)) (C := "MoveDesk$Judge") (T := F_Ju) (N := 10) hx hb hts i_Ju hown hK hP 6 rfl rfl 8 (by decide) (hts _ m_247) (fun _ h9 => h9) rfl d_Ju_leastWrongCycle_80 ?_
  have hE := Option.some.inj hE
  rw [hE]
  exact W.iret (v := (r_ju 8)) hx hb hr (fun t ht hW => ⟨⟨rfl, by rw [ht]; exact hP, va_K.moved hW.alike hK, hD⟩, hS.F ht⟩) hS.2.2 d_Ju_leastWrongCycle_83 hlocks
set_option maxHeartbeats 4000000 in
set_option maxRecDepth 100000 in
theorem wl_Ju_leastWrongCycle_6 {p : Program} {l : Launch} {e : Env} {s : State} {m : MethodId} {args : Array Value} {below : List Frame} {meth : Method} {c : Code} {A : Nat → Prop} {g : GT} {a_co : Nat} {a_ta : Nat} {a_gu : Nat} {a_so : Nat} {a_cn : Nat} {a_de : Nat} {a_ju : Nat} {a_jb : Nat} {a_ch : Nat} {a_rd : Nat} {a_fr : Nat} {a_ub : Nat} {a_wr : Nat} {y : Int32 × (Nat → Int32) × (Nat → Int32) × (Nat → Int32) × (Nat → Int64) × (Nat → Int64)} (M : MX p s m args meth c b_Ju_leastWrongCycle 5 (some .int) "MoveDesk$Judge" g A) : ∀ n : Nat, ∀ (r_co : Nat → Int32) (r_ta : Nat → Int32) (r_gu : Nat → Int32) (r_so : Nat → Int32) (r_cn : Nat → Int32) (r_de : Nat → Int32) (r_ju : Nat → Int32) (r_jb : Nat → Int32) (r_ch : Nat → Int32) (r_rd : Nat → Int64) (r_fr : Nat → Int64) (r_ub : Nat → Int64) (r_wr : Nat → Int64) (v1 : Int32) (H : Heap) (locs : List Loc) (ls : Array Slot), some y = (f_Ju_leastWrongCycle_6 n) r_co r_ta r_gu r_so r_cn r_de r_ju r_jb r_ch r_rd r_fr r_ub r_wr v1 → va_P g.1 classes (w_co_13_550d g a_co a_ta a_gu a_so a_cn a_de a_ju a_jb a_ch a_rd a_fr a_ub a_wr r_co r_ta r_gu r_so r_cn r_de r_ju r_jb r_ch r_rd r_fr r_ub r_wr) H → va_D A (w_co_13_550d g a_co a_ta a_gu a_so a_cn a_de a_ju a_jb a_ch a_rd a_fr a_ub a_wr r_co r_ta r_gu r_so r_cn r_de r_ju r_jb r_ch r_rd r_fr r_ub r_wr) → va_S A s.heap H locs → lv_has ls 5 [(0, .ref a_ju), (1, .int v1)] → W p l e rm_Ju_leastWrongCycle s m args below meth c H locs 0 0 (MQ below (QW g (some (.int y.1)) (w_co_13_550d g a_co a_ta a_gu a_so a_cn a_de a_ju a_jb a_ch a_rd a_fr a_ub a_wr r_co r_ta r_gu r_so r_cn r_de y.2.1 y.2.2.1 y.2.2.2.1 y.2.2.2.2.1 y.2.2.2.2.2 r_ub r_wr) A) args s 0 0 A) (F0 m 6 ls []) := by
  obtain ⟨hx, hb, hr, hml, hown, hts, hlocks, hA, hK, hG⟩ := id M
  intro n
  induction n with
  | zero =>
    intro r_co r_ta r_gu r_so r_cn r_de r_ju r_jb r_ch r_rd r_fr r_ub r_wr v1 H locs ls hE hP hD hS hl
    rw [f_Ju_leastWrongCycle_6] at hE
    cases hE
  | succ n ih =>
    intro r_co r_ta r_gu r_so r_cn r_de r_ju r_jb r_ch r_rd r_fr r_ub r_wr v1 H locs ls hE hP hD hS hl
    rw [f_Ju_leastWrongCycle_6] at hE
    refine lv_aload_n hx hb d_Ju_leastWrongCycle_6 rfl (lv_at hl 0 rfl) ?_
    refine va_get (D := g.1) (ci := 2) (v := .int (r_ju 7)) (C := "MoveDesk$Judge") (T := F_Ju) (N := 10) hx hb hts i_Ju hown hK hP 6 rfl rfl 7 (by decide) (hts _ m_246) (fun _ h9 => h9) rfl d_Ju_leastWrongCycle_7 ?_
    refine lv_if_eq (tgt := 79) hx hb d_Ju_leastWrongCycle_10 (by decide) (fun c1 => ?_) (fun c1 => ?_)
    · have hE := it_t hE c1
      exact wl_Ju_leastWrongCycle_79 M _ _ _ _ _ _ _ _ _ _ _ _ _ _ _ _ hE hP hD hS (lv_sub hl [0] rfl)
    · have hE := it_f hE c1
      refine lv_iload_n hx hb d_Ju_leastWrongCycle_13 rfl (lv_at hl 1 rfl) ?_
      refine lv_sipush (v := 23041) hx hb d_Ju_leastWrongCycle_14 (by decide) ?_
      refine lv_icmp_ge (tgt := 79) hx hb d_Ju_leastWrongCycle_17 (by decide) (fun c2 => ?_) (fun c2 => ?_)
      · have hE := it_t hE c2
        exact wl_Ju_leastWrongCycle_79 M _ _ _ _ _ _ _ _ _ _ _ _ _ _ _ _ hE hP hD hS (lv_sub hl [0] rfl)
      · have hE := it_f hE c2
        refine lv_aload_n hx hb d_Ju_leastWrongCycle_20 rfl (lv_at hl 0 rfl) ?_
        refine lv_iconst (v := 0) hx hb d_Ju_leastWrongCycle_21 (by decide) ?_
        refine va_put (D := g.1) (ci := 2) (v := .int 0) (ty := .boolean) (C := "MoveDesk$Judge") (T := F_Ju) (N := 10) hx hb hts i_Ju t_Ju t_Ju_ok n_Ju hown hK hP hD hS 6 rfl rfl 7 (by decide) (hts _ m_246) (fun _ h9 => h9) rfl (by decide +kernel) rfl rfl (Nat.le_of_ble_eq_true rfl) d_Ju_leastWrongCycle_22 (fun H locs hP hD hS => ?_)
        have hP : va_P g.1 classes (w_co_13_550d g a_co a_ta a_gu a_so a_cn a_de a_ju a_jb a_ch a_rd a_fr a_ub a_wr r_co r_ta r_gu r_so r_cn r_de (upd r_ju 7 0) r_jb r_ch r_rd r_fr r_ub r_wr) H := hP
        have hD : va_D A (w_co_13_550d g a_co a_ta a_gu a_so a_cn a_de a_ju a_jb a_ch a_rd a_fr a_ub a_wr r_co r_ta r_gu r_so r_cn r_de (upd r_ju 7 0) r_jb r_ch r_rd r_fr r_ub r_wr) := hD
        refine lv_iconst (v := 0) hx hb d_Ju_leastWrongCycle_25 (by decide) ?_
        refine lv_istore_n (lv' := [(2, .int 0), (0, .ref a_ju), (1, .int v1)]) hx hb d_Ju_leastWrongCycle_26 rfl hl (by decide) rfl (fun ls hl => ?_)
        exact wl_Ju_leastWrongCycle_27 M (f_Ju_leastWrongCycle_6 n) ih 5000 _ _ _ _ _ _ _ _ _ _ _ _ _ _ _ _ _ _ hE hP hD hS (lv_sub hl [1, 2, 0] rfl)
set_option maxHeartbeats 4000000 in
set_option maxRecDepth 100000 in
theorem c_Ju_leastWrongCycle (l : Launch) (g : GT) (a_co : Nat) (a_ta : Nat) (a_gu : Nat) (a_so : Nat) (a_cn : Nat) (a_de : Nat) (a_ju : Nat) (a_jb : Nat) (a_ch : Nat) (a_rd : Nat) (a_fr : Nat) (a_ub : Nat) (a_wr : Nat) (r_co : Nat → Int32) (r_ta : Nat → Int32) (r_gu : Nat → Int32) (r_so : Nat → Int32) (r_cn : Nat → Int32) (r_de : Nat → Int32) (r_ju : Nat → Int32) (r_jb : Nat → Int32) (r_ch : Nat → Int32) (r_rd : Nat → Int64) (r_fr : Nat → Int64) (r_ub : Nat → Int64) (r_wr : Nat → Int64)  (y : Int32 × (Nat → Int32) × (Nat → Int32) × (Nat → Int32) × (Nat → Int64) × (Nat → Int64)) (hy : some y = f_Ju_leastWrongCycle r_co r_ta r_gu r_so r_cn r_de r_ju r_jb r_ch r_rd r_fr r_ub r_wr) : Ct l y_Ju_leastWrongCycle (.code y_Ju_leastWrongCycle b_Ju_leastWrongCycle 5 (some .int)) rm_Ju_leastWrongCycle g [.ref a_ju] (w_co_13_550d g a_co a_ta a_gu a_so a_cn a_de a_ju a_jb a_ch a_rd a_fr a_ub a_wr r_co r_ta r_gu r_so r_cn r_de r_ju r_jb r_ch r_rd r_fr r_ub r_wr) (w_co_13_550d g a_co a_ta a_gu a_so a_cn a_de a_ju a_jb a_ch a_rd a_fr a_ub a_wr r_co r_ta r_gu r_so r_cn r_de y.2.1 y.2.2.1 y.2.2.2.1 y.2.2.2.2.1 y.2.2.2.2.2 r_ub r_wr) (some (.int y.1)) := by
  refine ct_in (C := "MoveDesk$Judge") rfl (by decide) (Nat.le_of_ble_eq_true rfl) (fun p e s m below meth c A ls M hP hD hS hl => ?_)
  obtain ⟨hx, hb, hr, hml, hown, hts, hlocks, hA, hK, hG⟩ := id M
  have hl : lv_has ls 5 [(0, .ref a_ju)] := hl
  have hE := hy
  rw [f_Ju_leastWrongCycle] at hE
  refine lv_aload_n hx hb d_Ju_leastWrongCycle_0 rfl (lv_at hl 0 rfl) ?_
  obtain ⟨y1, hy1, hE⟩ := bd_at hE
  refine kV (C := "MoveDesk$Judge") (index := 49) (As := []) (rest := []) (ws2 := (w_co_13_550d g a_co a_ta a_gu a_so a_cn a_de a_ju a_jb a_ch a_rd a_fr a_ub a_wr r_co r_ta r_gu r_so r_cn r_de y1.1 r_jb y1.2.1 y1.2.2.1 y1.2.2.2 r_ub r_wr)) M hP hD hS hl.1 (c_Ju_start l g a_co a_ta a_gu a_so a_cn a_de a_ju a_jb a_ch a_rd a_fr a_ub a_wr r_co r_ta r_gu r_ju r_ch r_rd r_fr  y1 hy1) m_345 m_347 s_0 m_8 m_348 hd_Ju_start rfl rfl rfl ⟨by decide, by decide⟩ ⟨by decide, by decide⟩ 2 3 rfl rfl rfl [0, 1, 2, 6, 8, 9, 10] [3, 4, 5, 7, 11, 12] [6, 7, 8, 0, 1, 2, 9, 3, 10, 11, 12, 4, 5] rfl rfl rfl rfl (by decide) rfl rfl rfl (Nat.le_of_ble_eq_true rfl) d_Ju_leastWrongCycle_1 (fun H locs hP hD hS => ?_)
  refine W.eq (g2 := F0 m 4 ls []) rfl ?_
  refine lv_iconst (v := 0) hx hb d_Ju_leastWrongCycle_4 (by decide) ?_
  refine lv_istore_n (lv' := [(1, .int 0), (0, .ref a_ju)]) hx hb d_Ju_leastWrongCycle_5 rfl hl (by decide) rfl (fun ls hl => ?_)
  exact wl_Ju_leastWrongCycle_6 M 30000 _ _ _ _ _ _ _ _ _ _ _ _ _ _ _ _ _ hE hP hD hS (lv_sub hl [1, 0] rfl)
abbrev rm_Ju_leastFault : Room := { frames := 0, cells := 0, slots := 0, locals := 0 }
set_option maxHeartbeats 4000000 in
set_option maxRecDepth 100000 in
theorem c_Ju_leastFault (l : Launch) (g : GT) (a_co : Nat) (a_ju : Nat) (a_jb : Nat) (a_ch : Nat) (a_rd : Nat) (a_fr : Nat) (a_ub : Nat) (a_wr : Nat) (r_ju : Nat → Int32)  (y : Int32) (hy : some y = f_Ju_leastFault r_ju) : Ct l y_Ju_leastFault (.code y_Ju_leastFault b_Ju_leastFault 1 (some .int)) rm_Ju_leastFault g [.ref a_ju] (w_ju g a_co a_ju a_jb a_ch a_rd a_fr a_ub a_wr r_ju) (w_ju g a_co a_ju a_jb a_ch a_rd a_fr a_ub a_wr r_ju) (some (.int y)) := by
  refine ct_in (C := "MoveDesk$Judge") rfl (by decide) (Nat.le_of_ble_eq_true rfl) (fun p e s m below meth c A ls M hP hD hS hl => ?_)
  obtain ⟨hx, hb, hr, hml, hown, hts, hlocks, hA, hK, hG⟩ := id M
  have hl : lv_has ls 1 [(0, .ref a_ju)] := hl
  have hE := hy
  rw [f_Ju_leastFault] at hE
  refine lv_aload_n hx hb d_Ju_leastFault_0 rfl (lv_at hl 0 rfl) ?_
  refine va_get (D := g.1) (ci := 2) (v := .int (r_ju 9)) (C := "MoveDesk$Judge") (T := F_Ju) (N := 10) hx hb hts i_Ju hown hK hP 0 rfl rfl 9 (by decide) (hts _ m_248) (fun _ h9 => h9) rfl d_Ju_leastFault_1 ?_
  have hE := Option.some.inj hE
  rw [hE]
  exact W.iret (v := (r_ju 9)) hx hb hr (fun t ht hW => ⟨⟨rfl, by rw [ht]; exact hP, va_K.moved hW.alike hK, hD⟩, hS.F ht⟩) hS.2.2 d_Ju_leastFault_4 hlocks
