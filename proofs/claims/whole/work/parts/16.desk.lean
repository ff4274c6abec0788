theorem m_271 : (.fieldLink "MoveDesk" 23 "MoveDesk" "code" "LMoveDesk$Code;" : Cond) ∈ bw := mw 271 (by decide +kernel) rfl
theorem m_272 : (.fieldLink "MoveDesk" 32 "MoveDesk" "machine" "LMoveDesk$Machine;" : Cond) ∈ bw := mw 272 (by decide +kernel) rfl
theorem m_273 : (.fieldLink "MoveDesk" 39 "MoveDesk" "operations" "LMoveDesk$Operations;" : Cond) ∈ bw := mw 273 (by decide +kernel) rfl
theorem m_275 : (.fieldLink "MoveDesk" 55 "MoveDesk" "judge" "LMoveDesk$Judge;" : Cond) ∈ bw := mw 275 (by decide +kernel) rfl
theorem m_276 : (.fieldLink "MoveDesk" 59 "MoveDesk" "judgedFault" "I" : Cond) ∈ bw := mw 276 (by decide +kernel) rfl
theorem m_277 : (.fieldLink "MoveDesk" 63 "MoveDesk" "runFault" "I" : Cond) ∈ bw := mw 277 (by decide +kernel) rfl
theorem m_297 : (.methodLink "MoveDesk" 66 ⟨"MoveDesk$Code", "reaches", "(II)Z"⟩ : Cond) ∈ bw := mw 297 (by decide +kernel) rfl
theorem m_298 : (.instanceMethod ⟨"MoveDesk$Code", "reaches", "(II)Z"⟩ : Cond) ∈ bw := mw 298 (by decide +kernel) rfl
theorem m_299 : (.selects "MoveDesk$Code" ⟨"MoveDesk$Code", "reaches", "(II)Z"⟩ ⟨"MoveDesk$Code", "reaches", "(II)Z"⟩ : Cond) ∈ bw := mw 299 (by decide +kernel) rfl
theorem m_300 : (.code ⟨"MoveDesk$Code", "reaches", "(II)Z"⟩ prog_3_method_2_code 3 (some .boolean) : Cond) ∈ bw := mw 300 (by decide +kernel) rfl
theorem m_301 : (.methodLink "MoveDesk" 86 ⟨"MoveDesk$Code", "isTaken", "(II)Z"⟩ : Cond) ∈ bw := mw 301 (by decide +kernel) rfl
theorem m_305 : (.methodLink "MoveDesk" 89 ⟨"MoveDesk$Code", "part", "(III)I"⟩ : Cond) ∈ bw := mw 305 (by decide +kernel) rfl
theorem m_306 : (.instanceMethod ⟨"MoveDesk$Code", "part", "(III)I"⟩ : Cond) ∈ bw := mw 306 (by decide +kernel) rfl
theorem m_307 : (.selects "MoveDesk$Code" ⟨"MoveDesk$Code", "part", "(III)I"⟩ ⟨"MoveDesk$Code", "part", "(III)I"⟩ : Cond) ∈ bw := mw 307 (by decide +kernel) rfl
theorem m_308 : (.code ⟨"MoveDesk$Code", "part", "(III)I"⟩ prog_3_method_8_code 4 (some .int) : Cond) ∈ bw := mw 308 (by decide +kernel) rfl
theorem m_325 : (.methodLink "MoveDesk" 93 ⟨"MoveDesk$Code", "erase", "()V"⟩ : Cond) ∈ bw := mw 325 (by decide +kernel) rfl
theorem m_333 : (.methodLink "MoveDesk" 111 ⟨"MoveDesk$Operations", "drop", "()I"⟩ : Cond) ∈ bw := mw 333 (by decide +kernel) rfl
theorem m_334 : (.instanceMethod ⟨"MoveDesk$Operations", "drop", "()I"⟩ : Cond) ∈ bw := mw 334 (by decide +kernel) rfl
theorem m_335 : (.selects "MoveDesk$Operations" ⟨"MoveDesk$Operations", "drop", "()I"⟩ ⟨"MoveDesk$Operations", "drop", "()I"⟩ : Cond) ∈ bw := mw 335 (by decide +kernel) rfl
theorem m_336 : (.code ⟨"MoveDesk$Operations", "drop", "()I"⟩ prog_6_method_5_code 2 (some .int) : Cond) ∈ bw := mw 336 (by decide +kernel) rfl
theorem m_341 : (.methodLink "MoveDesk" 122 ⟨"MoveDesk$Judge", "leastWrongCycle", "()I"⟩ : Cond) ∈ bw := mw 341 (by decide +kernel) rfl
theorem m_342 : (.instanceMethod ⟨"MoveDesk$Judge", "leastWrongCycle", "()I"⟩ : Cond) ∈ bw := mw 342 (by decide +kernel) rfl
theorem m_343 : (.selects "MoveDesk$Judge" ⟨"MoveDesk$Judge", "leastWrongCycle", "()I"⟩ ⟨"MoveDesk$Judge", "leastWrongCycle", "()I"⟩ : Cond) ∈ bw := mw 343 (by decide +kernel) rfl
theorem m_344 : (.code ⟨"MoveDesk$Judge", "leastWrongCycle", "()I"⟩ prog_4_method_3_code 5 (some .int) : Cond) ∈ bw := mw 344 (by decide +kernel) rfl
theorem m_420 : (.methodLink "MoveDesk" 125 ⟨"MoveDesk$Judge", "leastFault", "()I"⟩ : Cond) ∈ bw := mw 420 (by decide +kernel) rfl
theorem m_421 : (.instanceMethod ⟨"MoveDesk$Judge", "leastFault", "()I"⟩ : Cond) ∈ bw := mw 421 (by decide +kernel) rfl
theorem m_422 : (.selects "MoveDesk$Judge" ⟨"MoveDesk$Judge", "leastFault", "()I"⟩ ⟨"MoveDesk$Judge", "leastFault", "()I"⟩ : Cond) ∈ bw := mw 422 (by decide +kernel) rfl
theorem m_423 : (.code ⟨"MoveDesk$Judge", "leastFault", "()I"⟩ prog_4_method_4_code 1 (some .int) : Cond) ∈ bw := mw 423 (by decide +kernel) rfl
theorem m_432 : (.methodLink "MoveDesk" 128 ⟨"MoveDesk$Machine", "restart", "()V"⟩ : Cond) ∈ bw := mw 432 (by decide +kernel) rfl
theorem m_433 : (.instanceMethod ⟨"MoveDesk$Machine", "restart", "()V"⟩ : Cond) ∈ bw := mw 433 (by decide +kernel) rfl
theorem m_434 : (.selects "MoveDesk$Machine" ⟨"MoveDesk$Machine", "restart", "()V"⟩ ⟨"MoveDesk$Machine", "restart", "()V"⟩ : Cond) ∈ bw := mw 434 (by decide +kernel) rfl
theorem m_435 : (.code ⟨"MoveDesk$Machine", "restart", "()V"⟩ prog_5_method_2_code 2 none : Cond) ∈ bw := mw 435 (by decide +kernel) rfl
theorem m_440 : (.methodLink "MoveDesk" 146 ⟨"MoveDesk$Machine", "show", "(I)I"⟩ : Cond) ∈ bw := mw 440 (by decide +kernel) rfl
theorem m_441 : (.instanceMethod ⟨"MoveDesk$Machine", "show", "(I)I"⟩ : Cond) ∈ bw := mw 441 (by decide +kernel) rfl
theorem m_442 : (.selects "MoveDesk$Machine" ⟨"MoveDesk$Machine", "show", "(I)I"⟩ ⟨"MoveDesk$Machine", "show", "(I)I"⟩ : Cond) ∈ bw := mw 442 (by decide +kernel) rfl
theorem m_443 : (.code ⟨"MoveDesk$Machine", "show", "(I)I"⟩ prog_5_method_4_code 2 (some .int) : Cond) ∈ bw := mw 443 (by decide +kernel) rfl
abbrev w_md_7_922b (g : GT) (a_md : Nat) (a_co : Nat) (a_ta : Nat) (a_gu : Nat) (a_so : Nat) (a_cn : Nat) (a_de : Nat) (a_ma : Nat) (a_op : Nat) (a_pl : Nat) (a_ju : Nat) (r_md : Nat → Int32) (r_co : Nat → Int32) (r_ta : Nat → Int32) (r_gu : Nat → Int32) (r_so : Nat → Int32) (r_cn : Nat → Int32) (r_de : Nat → Int32) : va_W := [kO a_md 6 [.ref a_co, .ref a_ma, .ref a_op, .ref a_pl, .ref a_ju, .int (r_md 5), .int (r_md 6)], kO a_co 1 [.int (r_co 0), .ref a_ta, .ref a_gu, .ref a_so, .ref a_cn, .ref a_de], kI g a_ta 64 r_ta, kI g a_gu 256 r_gu, kI g a_so 256 r_so, kI g a_cn 256 r_cn, kI g a_de 256 r_de]
abbrev b_Md_moveAt : ByteArray := prog_1_method_4_code
abbrev y_Md_moveAt : MethodName := ⟨"MoveDesk", "moveAt", "(III)I"⟩
theorem hd_Md_moveAt : y_Md_moveAt.cls = "MoveDesk" ∧ y_Md_moveAt.cls ≠ "java/lang/invoke/MethodHandle" ∧ y_Md_moveAt.cls ≠ "java/lang/invoke/VarHandle" ∧ (parseMethodDescriptor y_Md_moveAt.desc).map (fun d => d.parameters.length) = some 3 := by decide +kernel
theorem d_Md_moveAt_0 : decode b_Md_moveAt 0 = .ok (.aload_n 0, 1) := by decide +kernel
theorem d_Md_moveAt_1 : decode b_Md_moveAt 1 = .ok (.getfield 23, 3) := by decide +kernel
theorem d_Md_moveAt_4 : decode b_Md_moveAt 4 = .ok (.iload_n 1, 1) := by decide +kernel
theorem d_Md_moveAt_5 : decode b_Md_moveAt 5 = .ok (.iload_n 2, 1) := by decide +kernel
theorem d_Md_moveAt_6 : decode b_Md_moveAt 6 = .ok (.invokevirtual 66, 3) := by decide +kernel
theorem d_Md_moveAt_9 : decode b_Md_moveAt 9 = .ok (.ifCond .eq 28, 3) := by decide +kernel
theorem d_Md_moveAt_12 : decode b_Md_moveAt 12 = .ok (.aload_n 0, 1) := by decide +kernel
theorem d_Md_moveAt_13 : decode b_Md_moveAt 13 = .ok (.getfield 23, 3) := by decide +kernel
theorem d_Md_moveAt_16 : decode b_Md_moveAt 16 = .ok (.iload_n 1, 1) := by decide +kernel
theorem d_Md_moveAt_17 : decode b_Md_moveAt 17 = .ok (.iload_n 2, 1) := by decide +kernel
theorem d_Md_moveAt_18 : decode b_Md_moveAt 18 = .ok (.invokevirtual 86, 3) := by decide +kernel
theorem d_Md_moveAt_21 : decode b_Md_moveAt 21 = .ok (.ifCond .eq 16, 3) := by decide +kernel
theorem d_Md_moveAt_24 : decode b_Md_moveAt 24 = .ok (.aload_n 0, 1) := by decide +kernel
theorem d_Md_moveAt_25 : decode b_Md_moveAt 25 = .ok (.getfield 23, 3) := by decide +kernel
theorem d_Md_moveAt_28 : decode b_Md_moveAt 28 = .ok (.iload_n 1, 1) := by decide +kernel
theorem d_Md_moveAt_29 : decode b_Md_moveAt 29 = .ok (.iload_n 2, 1) := by decide +kernel
theorem d_Md_moveAt_30 : decode b_Md_moveAt 30 = .ok (.iload_n 3, 1) := by decide +kernel
theorem d_Md_moveAt_31 : decode b_Md_moveAt 31 = .ok (.invokevirtual 89, 3) := by decide +kernel
theorem d_Md_moveAt_34 : decode b_Md_moveAt 34 = .ok (.goto 4, 3) := by decide +kernel
theorem d_Md_moveAt_37 : decode b_Md_moveAt 37 = .ok (.iconst (-1), 1) := by decide +kernel
theorem d_Md_moveAt_38 : decode b_Md_moveAt 38 = .ok (.ireturn, 1) := by decide +kernel
abbrev w_md_co_ta (g : GT) (a_md : Nat) (a_co : Nat) (a_ta : Nat) (a_gu : Nat) (a_so : Nat) (a_cn : Nat) (a_de : Nat) (a_ma : Nat) (a_op : Nat) (a_pl : Nat) (a_ju : Nat) (r_md : Nat → Int32) (r_co : Nat → Int32) (r_ta : Nat → Int32) : va_W := [kO a_md 6 [.ref a_co, .ref a_ma, .ref a_op, .ref a_pl, .ref a_ju, .int (r_md 5), .int (r_md 6)], kO a_co 1 [.int (r_co 0), .ref a_ta, .ref a_gu, .ref a_so, .ref a_cn, .ref a_de], kI g a_ta 64 r_ta]
abbrev b_Md_clear : ByteArray := prog_1_method_5_code
abbrev y_Md_clear : MethodName := ⟨"MoveDesk", "clear", "()V"⟩
theorem hd_Md_clear : y_Md_clear.cls = "MoveDesk" ∧ y_Md_clear.cls ≠ "java/lang/invoke/MethodHandle" ∧ y_Md_clear.cls ≠ "java/lang/invoke/VarHandle" ∧ (parseMethodDescriptor y_Md_clear.desc).map (fun d => d.parameters.length) = some 0 := by decide +kernel
theorem d_Md_clear_0 : decode b_Md_clear 0 = .ok (.aload_n 0, 1) := by decide +kernel
theorem d_Md_clear_1 : decode b_Md_clear 1 = .ok (.getfield 23, 3) := by decide +kernel
theorem d_Md_clear_4 : decode b_Md_clear 4 = .ok (.invokevirtual 93, 3) := by decide +kernel
theorem d_Md_clear_7 : decode b_Md_clear 7 = .ok (.return_, 1) := by decide +kernel
abbrev w_md_op (g : GT) (a_md : Nat) (a_co : Nat) (a_ma : Nat) (a_op : Nat) (a_ki : Nat) (a_tg : Nat) (a_fi : Nat) (a_se : Nat) (a_oc : Nat) (a_cp : Nat) (a_pl : Nat) (a_ju : Nat) (r_md : Nat → Int32) (r_op : Nat → Int32) : va_W := [kO a_md 6 [.ref a_co, .ref a_ma, .ref a_op, .ref a_pl, .ref a_ju, .int (r_md 5), .int (r_md 6)], kO a_op 4 [.ref a_ki, .ref a_tg, .ref a_fi, .ref a_se, .ref a_oc, .ref a_cp, .int (r_op 6)]]
abbrev b_Md_forget : ByteArray := prog_1_method_7_code
abbrev y_Md_forget : MethodName := ⟨"MoveDesk", "forget", "()I"⟩
theorem hd_Md_forget : y_Md_forget.cls = "MoveDesk" ∧ y_Md_forget.cls ≠ "java/lang/invoke/MethodHandle" ∧ y_Md_forget.cls ≠ "java/lang/invoke/VarHandle" ∧ (parseMethodDescriptor y_Md_forget.desc).map (fun d => d.parameters.length) = some 0 := by decide +kernel
theorem d_Md_forget_0 : decode b_Md_forget 0 = .ok (.aload_n 0, 1) := by decide +kernel
theorem d_Md_forget_1 : decode b_Md_forget 1 = .ok (.getfield 39, 3) := by decide +kernel
theorem d_Md_forget_4 : decode b_Md_forget 4 = .ok (.invokevirtual 111, 3) := by decide +kernel
theorem d_Md_forget_7 : decode b_Md_forget 7 = .ok (.ireturn, 1) := by decide +kernel
abbrev w_md_14_34d0 (g : GT) (a_md : Nat) (a_co : Nat) (a_ta : Nat) (a_gu : Nat) (a_so : Nat) (a_cn : Nat) (a_de : Nat) (a_ma : Nat) (a_op : Nat) (a_pl : Nat) (a_ju : Nat) (a_jb : Nat) (a_ch : Nat) (a_rd : Nat) (a_fr : Nat) (a_ub : Nat) (a_wr : Nat) (r_md : Nat → Int32) (r_co : Nat → Int32) (r_ta : Nat → Int32) (r_gu : Nat → Int32) (r_so : Nat → Int32) (r_cn : Nat → Int32) (r_de : Nat → Int32) (r_ju : Nat → Int32) (r_jb : Nat → Int32) (r_ch : Nat → Int32) (r_rd : Nat → Int64) (r_fr : Nat → Int64) (r_ub : Nat → Int64) (r_wr : Nat → Int64) : va_W := [kO a_md 6 [.ref a_co, .ref a_ma, .ref a_op, .ref a_pl, .ref a_ju, .int (r_md 5), .int (r_md 6)], kO a_co 1 [.int (r_co 0), .ref a_ta, .ref a_gu, .ref a_so, .ref a_cn, .ref a_de], kI g a_ta 64 r_ta, kI g a_gu 256 r_gu, kI g a_so 256 r_so, kI g a_cn 256 r_cn, kI g a_de 256 r_de, kO a_ju 2 [.ref a_co, .ref a_jb, .ref a_ch, .ref a_rd, .ref a_fr, .ref a_ub, .ref a_wr, .int (r_ju 7), .int (r_ju 8), .int (r_ju 9)], kO a_jb 0 [.int (r_jb 0), .int (r_jb 1), .int (r_jb 2), .int (r_jb 3), .int (r_jb 4), .int (r_jb 5), .int (r_jb 6), .int (r_jb 7)], kI g a_ch 64 r_ch, kJ g a_rd 576 r_rd, kJ g a_fr 576 r_fr, kJ g a_ub 3 r_ub, kJ g a_wr 3 r_wr]
abbrev b_Md_judge : ByteArray := prog_1_method_9_code
abbrev y_Md_judge : MethodName := ⟨"MoveDesk", "judge", "()I"⟩
theorem hd_Md_judge : y_Md_judge.cls = "MoveDesk" ∧ y_Md_judge.cls ≠ "java/lang/invoke/MethodHandle" ∧ y_Md_judge.cls ≠ "java/lang/invoke/VarHandle" ∧ (parseMethodDescriptor y_Md_judge.desc).map (fun d => d.parameters.length) = some 0 := by decide +kernel
theorem d_Md_judge_0 : decode b_Md_judge 0 = .ok (.aload_n 0, 1) := by decide +kernel
theorem d_Md_judge_1 : decode b_Md_judge 1 = .ok (.getfield 55, 3) := by decide +kernel
theorem d_Md_judge_4 : decode b_Md_judge 4 = .ok (.invokevirtual 122, 3) := by decide +kernel
theorem d_Md_judge_7 : decode b_Md_judge 7 = .ok (.istore_n 1, 1) := by decide +kernel
theorem d_Md_judge_8 : decode b_Md_judge 8 = .ok (.aload_n 0, 1) := by decide +kernel
theorem d_Md_judge_9 : decode b_Md_judge 9 = .ok (.aload_n 0, 1) := by decide +kernel
theorem d_Md_judge_10 : decode b_Md_judge 10 = .ok (.getfield 55, 3) := by decide +kernel
theorem d_Md_judge_13 : decode b_Md_judge 13 = .ok (.invokevirtual 125, 3) := by decide +kernel
theorem d_Md_judge_16 : decode b_Md_judge 16 = .ok (.putfield 59, 3) := by decide +kernel
theorem d_Md_judge_19 : decode b_Md_judge 19 = .ok (.iload_n 1, 1) := by decide +kernel
theorem d_Md_judge_20 : decode b_Md_judge 20 = .ok (.ireturn, 1) := by decide +kernel
abbrev w_md (g : GT) (a_md : Nat) (a_co : Nat) (a_ma : Nat) (a_op : Nat) (a_pl : Nat) (a_ju : Nat) (r_md : Nat → Int32) : va_W := [kO a_md 6 [.ref a_co, .ref a_ma, .ref a_op, .ref a_pl, .ref a_ju, .int (r_md 5), .int (r_md 6)]]
abbrev b_Md_fault : ByteArray := prog_1_method_10_code
abbrev y_Md_fault : MethodName := ⟨"MoveDesk", "fault", "(I)I"⟩
theorem hd_Md_fault : y_Md_fault.cls = "MoveDesk" ∧ y_Md_fault.cls ≠ "java/lang/invoke/MethodHandle" ∧ y_Md_fault.cls ≠ "java/lang/invoke/VarHandle" ∧ (parseMethodDescriptor y_Md_fault.desc).map (fun d => d.parameters.length) = some 1 := by decide +kernel
theorem d_Md_fault_0 : decode b_Md_fault 0 = .ok (.iload_n 1, 1) := by decide +kernel
theorem d_Md_fault_1 : decode b_Md_fault 1 = .ok (.lookupswitch 37 #[(0, 27), (1, 32)], 27) := by decide +kernel
theorem d_Md_fault_28 : decode b_Md_fault 28 = .ok (.aload_n 0, 1) := by decide +kernel
theorem d_Md_fault_29 : decode b_Md_fault 29 = .ok (.getfield 59, 3) := by decide +kernel
theorem d_Md_fault_32 : decode b_Md_fault 32 = .ok (.ireturn, 1) := by decide +kernel
theorem d_Md_fault_33 : decode b_Md_fault 33 = .ok (.aload_n 0, 1) := by decide +kernel
theorem d_Md_fault_34 : decode b_Md_fault 34 = .ok (.getfield 63, 3) := by decide +kernel
theorem d_Md_fault_37 : decode b_Md_fault 37 = .ok (.ireturn, 1) := by decide +kernel
theorem d_Md_fault_38 : decode b_Md_fault 38 = .ok (.iconst (-1), 1) := by decide +kernel
theorem d_Md_fault_39 : decode b_Md_fault 39 = .ok (.ireturn, 1) := by decide +kernel
abbrev w_md_ma_od_rs (g : GT) (a_md : Nat) (a_lat : Nat) (a_co : Nat) (a_ma : Nat) (a_bu : Nat) (a_wo : Nat) (a_od : Nat) (a_rs : Nat) (a_ca : Nat) (a_cm : Nat) (a_op : Nat) (a_pl : Nat) (a_ju : Nat) (r_md : Nat → Int32) (r_ma : Nat → Int32) (r_od : Nat → Int32) (r_rs : Nat → Int32) : va_W := [kO a_md 6 [.ref a_co, .ref a_ma, .ref a_op, .ref a_pl, .ref a_ju, .int (r_md 5), .int (r_md 6)], kO a_ma 3 [.ref a_co, .ref a_lat, .ref a_bu, .ref a_wo, .ref a_od, .ref a_rs, .ref a_ca, .ref a_cm, .int (r_ma 8), .int (r_ma 9), .int (r_ma 10), .int (r_ma 11), .int (r_ma 12), .int (r_ma 13), .int (r_ma 14), .int (r_ma 15)], kI g a_od 3 r_od, kI g a_rs 3 r_rs]
abbrev b_Md_reset : ByteArray := prog_1_method_11_code
abbrev y_Md_reset : MethodName := ⟨"MoveDesk", "reset", "()V"⟩
theorem hd_Md_reset : y_Md_reset.cls = "MoveDesk" ∧ y_Md_reset.cls ≠ "java/lang/invoke/MethodHandle" ∧ y_Md_reset.cls ≠ "java/lang/invoke/VarHandle" ∧ (parseMethodDescriptor y_Md_reset.desc).map (fun d => d.parameters.length) = some 0 := by decide +kernel
theorem d_Md_reset_0 : decode b_Md_reset 0 = .ok (.aload_n 0, 1) := by decide +kernel
theorem d_Md_reset_1 : decode b_Md_reset 1 = .ok (.getfield 32, 3) := by decide +kernel
theorem d_Md_reset_4 : decode b_Md_reset 4 = .ok (.invokevirtual 128, 3) := by decide +kernel
theorem d_Md_reset_7 : decode b_Md_reset 7 = .ok (.return_, 1) := by decide +kernel
abbrev b_Md_state : ByteArray := prog_1_method_15_code
abbrev y_Md_state : MethodName := ⟨"MoveDesk", "state", "(I)I"⟩
theorem hd_Md_state : y_Md_state.cls = "MoveDesk" ∧ y_Md_state.cls ≠ "java/lang/invoke/MethodHandle" ∧ y_Md_state.cls ≠ "java/lang/invoke/VarHandle" ∧ (parseMethodDescriptor y_Md_state.desc).map (fun d => d.parameters.length) = some 1 := by decide +kernel
theorem d_Md_state_0 : decode b_Md_state 0 = .ok (.aload_n 0, 1) := by decide +kernel
theorem d_Md_state_1 : decode b_Md_state 1 = .ok (.getfield 32, 3) := by decide +kernel
theorem d_Md_state_4 : decode b_Md_state 4 = .ok (.iload_n 1, 1) := by decide +kernel
theorem d_Md_state_5 : decode b_Md_state 5 = .ok (.invokevirtual 146, 3) := by decide +kernel
theorem d_Md_state_8 : decode b_Md_state 8 = .ok (.ireturn, 1) := by decide +kernel
def f_Md_moveAt (r_md : Nat → Int32) (r_co : Nat → Int32) (r_ta : Nat → Int32) (r_gu : Nat → Int32) (r_so : Nat → Int32) (r_cn : Nat → Int32) (r_de : Nat → Int32) (v1 : Int32) (v2 : Int32) (v3 : Int32) : Option (Int32) :=
  (f_Co_reaches r_co v1 v2).bind fun y1 =>
  if y1 = 0 then
    some ((-1))
  else
    (f_Co_isTaken r_co r_ta v1 v2).bind fun y3 =>
    if y3 = 0 then
      some ((-1))
    else
      (f_Co_part r_co r_gu r_so r_cn r_de v1 v2 v3).bind fun y5 =>
      some (y5)
def f_Md_clear (r_md : Nat → Int32) (r_co : Nat → Int32) (r_ta : Nat → Int32)  : Option ((Nat → Int32)) :=
  (f_Co_erase r_co r_ta).bind fun y1 =>
  some (y1)
def f_Md_forget (r_md : Nat → Int32) (r_op : Nat → Int32)  : Option (Int32 × (Nat → Int32)) :=
  (f_Op_drop r_op).bind fun y1 =>
  some (y1.1, y1.2)
def f_Md_judge (r_md : Nat → Int32) (r_co : Nat → Int32) (r_ta : Nat → Int32) (r_gu : Nat → Int32) (r_so : Nat → Int32) (r_cn : Nat → Int32) (r_de : Nat → Int32) (r_ju : Nat → Int32) (r_jb : Nat → Int32) (r_ch : Nat → Int32) (r_rd : Nat → Int64) (r_fr : Nat → Int64) (r_ub : Nat → Int64) (r_wr : Nat → Int64)  : Option (Int32 × (Nat → Int32) × (Nat → Int32) × (Nat → Int32) × (Nat → Int32) × (Nat → Int64) × (Nat → Int64)) :=
  (f_Ju_leastWrongCycle r_co r_ta r_gu r_so r_cn r_de r_ju r_jb r_ch r_rd r_fr r_ub r_wr).bind fun y1 =>
  (f_Ju_leastFault y1.2.1).bind fun y2 =>
  some (y1.1, upd r_md 5 y2, y1.2.1, y1.2.2.1, y1.2.2.2.1, y1.2.2.2.2.1, y1.2.2.2.2.2)
def f_Md_fault (r_md : Nat → Int32) (v1 : Int32) : Option (Int32) :=
  if v1 = 0 then
    some ((r_md 5))
  else
    if v1 = 1 then
      some ((r_md 6))
    else
      some ((-1))
def f_Md_reset (r_md : Nat → Int32) (r_ma : Nat → Int32) (r_od : Nat → Int32) (r_rs : Nat → Int32)  : Option ((Nat → Int32) × (Nat → Int32) × (Nat → Int32)) :=
  (f_Ma_restart r_ma r_od r_rs).bind fun y1 =>
  some (y1.1, y1.2.1, y1.2.2)
def f_Md_state (r_md : Nat → Int32) (r_ma : Nat → Int32) (r_od : Nat → Int32) (r_rs : Nat → Int32) (v1 : Int32) : Option (Int32) :=
  (f_Ma_show r_ma r_od r_rs v1).bind fun y1 =>
  some (y1)
abbrev rm_Md_moveAt : Room := { frames := 2, cells := 0, slots := 0, locals := 45 }
set_option maxHeartbeats 4000000 in
set_option maxRecDepth 100000 in
theorem c_Md_moveAt (l : Launch) (g : GT) (a_md : Nat) (a_co : Nat) (a_ta : Nat) (a_gu : Nat) (a_so : Nat) (a_cn : Nat) (a_de : Nat) (a_ma : Nat) (a_op : Nat) (a_pl : Nat) (a_ju : Nat) (r_md : Nat → Int32) (r_co : Nat → Int32) (r_ta : Nat → Int32) (r_gu : Nat → Int32) (r_so : Nat → Int32) (r_cn : Nat → Int32) (r_de : Nat → Int32) (v1 : Int32) (v2 : Int32) (v3 : Int32) (y : Int32) (hy : some y = f_Md_moveAt r_md r_co r_ta r_gu r_so r_cn r_de v1 v2 v3) : Ct l y_Md_moveAt (.code y_Md_moveAt b_Md_moveAt 4 (some .int)) rm_Md_moveAt g [.ref a_md, .int v1, .int v2, .int v3] (w_md_7_922b g a_md a_co a_ta a_gu a_so a_cn a_de a_ma a_op a_pl a_ju r_md r_co r_ta r_gu r_so r_cn r_de) (w_md_7_922b g a_md a_co a_ta a_gu a_so a_cn a_de a_ma a_op a_pl a_ju r_md r_co r_ta r_gu r_so r_cn r_de) (some (.int y)) := by
  refine ct_in (C := "MoveDesk") rfl (by decide) (Nat.le_of_ble_eq_true rfl) (fun p e s m below meth c A ls M hP hD hS hl => ?_)
  obtain ⟨hx, hb, hr, hml, hown, hts, hlocks, hA, hK, hG⟩ := id M
  have hl : lv_has ls 4 [(0, .ref a_md), (1, .int v1), (2, .int v2), (3, .int v3)] := hl
  have hE := hy
  rw [f_Md_moveAt] at hE
  refine lv_aload_n hx hb d_Md_moveAt_0 rfl (lv_at hl 0 rfl) ?_
  refine va_get (D := g.1) (ci := 6) (v := .ref a_co) (C := "MoveDesk") (T := F_Md) (N := 7) hx hb hts i_Md hown hK hP 0 rfl rfl 0 (by decide) (hts _ m_271) (fun _ h9 => h9) rfl d_Md_moveAt_1 ?_
  refine lv_iload_n hx hb d_Md_moveAt_4 rfl (lv_at hl 1 rfl) ?_
  refine lv_iload_n hx hb d_Md_moveAt_5 rfl (lv_at hl 2 rfl) ?_
  obtain ⟨y1, hy1, hE⟩ := bd_at hE
  refine kV (C := "MoveDesk$Code") (index := 66) (As := [.int v1, .int v2]) (rest := []) (ws2 := (w_md_7_922b g a_md a_co a_ta a_gu a_so a_cn a_de a_ma a_op a_pl a_ju r_md r_co r_ta r_gu r_so r_cn r_de)) M hP hD hS hl.1 (c_Co_reaches l g a_co a_ta a_gu a_so a_cn a_de r_co v1 v2 y1 hy1) m_297 m_298 m_299 m_3 m_300 hd_Co_reaches rfl rfl rfl ⟨by decide, by decide⟩ ⟨by decide, by decide⟩ 1 0 rfl rfl rfl [1] [0, 2, 3, 4, 5, 6] [0, 6, 1, 2, 3, 4, 5] rfl rfl rfl rfl (by decide) rfl rfl rfl (Nat.le_of_ble_eq_true rfl) d_Md_moveAt_6 (fun H locs hP hD hS => ?_)
  refine W.eq (g2 := F0 m 9 ls [.int y1]) rfl ?_
  refine lv_if_eq (tgt := 37) hx hb d_Md_moveAt_9 (by decide) (fun c2 => ?_) (fun c2 => ?_)
  · have hE := it_t hE c2
    refine lv_iconst (v := (-1)) hx hb d_Md_moveAt_37 (by decide) ?_
    have hE := Option.some.inj hE
    rw [hE]
    exact W.iret (v := (-1)) hx hb hr (fun t ht hW => ⟨⟨rfl, by rw [ht]; exact hP, va_K.moved hW.alike hK, hD⟩, hS.F ht⟩) hS.2.2 d_Md_moveAt_38 hlocks
  · have hE := it_f hE c2
    refine lv_aload_n hx hb d_Md_moveAt_12 rfl (lv_at hl 0 rfl) ?_
    refine va_get (D := g.1) (ci := 6) (v := .ref a_co) (C := "MoveDesk") (T := F_Md) (N := 7) hx hb hts i_Md hown hK hP 0 rfl rfl 0 (by decide) (hts _ m_271) (fun _ h9 => h9) rfl d_Md_moveAt_13 ?_
    refine lv_iload_n hx hb d_Md_moveAt_16 rfl (lv_at hl 1 rfl) ?_
    refine lv_iload_n hx hb d_Md_moveAt_17 rfl (lv_at hl 2 rfl) ?_
    obtain ⟨y3, hy3, hE⟩ := bd_at hE
    refine kV (C := "MoveDesk$Code") (index := 86) (As := [.int v1, .int v2]) (rest := []) (ws2 := (w_md_7_922b g a_md a_co a_ta a_gu a_so a_cn a_de a_ma a_op a_pl a_ju r_md r_co r_ta r_gu r_so r_cn r_de)) M hP hD hS hl.1 (c_Co_isTaken l g a_co a_ta a_gu a_so a_cn a_de r_co r_ta v1 v2 y3 hy3) m_301 m_302 m_303 m_3 m_304 hd_Co_isTaken rfl rfl rfl ⟨by decide, by decide⟩ ⟨by decide, by decide⟩ 1 0 rfl rfl rfl [1, 2] [0, 3, 4, 5, 6] [0, 5, 6, 1, 2, 3, 4] rfl rfl rfl rfl (by decide) rfl rfl rfl (Nat.le_of_ble_eq_true rfl) d_Md_moveAt_18 (fun H locs hP hD hS => ?_)
    refine W.eq (g2 := F0 m 21 ls [.int y3]) rfl ?_
    refine lv_if_eq (tgt := 37) hx hb d_Md_moveAt_21 (by decide) (fun c4 => ?_) (fun c4 => ?_)
    · have hE := it_t hE c4
      refine lv_iconst (v := (-1)) hx hb d_Md_moveAt_37 (by decide) ?_
      have hE := Option.some.inj hE
      rw [hE]
      exact W.iret (v := (-1)) hx hb hr (fun t ht hW => ⟨⟨rfl, by rw [ht]; exact hP, va_K.moved hW.alike hK, hD⟩, hS.F ht⟩) hS.2.2 d_Md_moveAt_38 hlocks
    · have hE := it_f hE c4
      refine lv_aload_n hx hb d_Md_moveAt_24 rfl (lv_at hl 0 rfl) ?_
      refine va_get (D := g.1) (ci := 6) (v := .ref a_co) (C := "MoveDesk") (T := F_Md) (N := 7) hx hb hts i_Md hown hK hP 0 rfl rfl 0 (by decide) (hts _ m_271) (fun _ h9 => h9) rfl d_Md_moveAt_25 ?_
      refine lv_iload_n hx hb d_Md_moveAt_28 rfl (lv_at hl 1 rfl) ?_
      refine lv_iload_n hx hb d_Md_moveAt_29 rfl (lv_at hl 2 rfl) ?_
      refine lv_iload_n hx hb d_Md_moveAt_30 rfl (lv_at hl 3 rfl) ?_
      obtain ⟨y5, hy5, hE⟩ := bd_at hE
      refine kV (C := "MoveDesk$Code") (index := 89) (As := [.int v1, .int v2, .int v3]) (rest := []) (ws2 := (w_md_7_922b g a_md a_co a_ta a_gu a_so a_cn a_de a_ma a_op a_pl a_ju r_md r_co r_ta r_gu r_so r_cn r_de)) M hP hD hS hl.1 (c_Co_part l g a_co a_ta a_gu a_so a_cn a_de r_co r_gu r_so r_cn r_de v1 v2 v3 y5 hy5) m_305 m_306 m_307 m_3 m_308 hd_Co_part rfl rfl rfl ⟨by decide, by decide⟩ ⟨by decide, by decide⟩ 1 0 rfl rfl rfl [1, 3, 4, 5, 6] [0, 2] [0, 2, 1, 3, 4, 5, 6] rfl rfl rfl rfl (by decide) rfl rfl rfl (Nat.le_of_ble_eq_true rfl) d_Md_moveAt_31 (fun H locs hP hD hS => ?_)
      refine W.eq (g2 := F0 m 34 ls [.int y5]) rfl ?_
      refine lv_goto (tgt := 38) hx hb d_Md_moveAt_34 (by decide) ?_
      have hE := Option.some.inj hE
      rw [hE]
      exact W.iret (v := y5) hx hb hr (fun t ht hW => ⟨⟨rfl, by rw [ht]; exact hP, va_K.moved hW.alike hK, hD⟩, hS.F ht⟩) hS.2.2 d_Md_moveAt_38 hlocks
abbrev rm_Md_clear : Room := { frames := 1, cells := 0, slots := 0, locals := 21 }
set_option maxHeartbeats 4000000 in
set_option maxRecDepth 100000 in
theorem c_Md_clear (l : Launch) (g : GT) (a_md : Nat) (a_co : Nat) (a_ta : Nat) (a_gu : Nat) (a_so : Nat) (a_cn : Nat) (a_de : Nat) (a_ma : Nat) (a_op : Nat) (a_pl : Nat) (a_ju : Nat) (r_md : Nat → Int32) (r_co : Nat → Int32) (r_ta : Nat → Int32)  (y : (Nat → Int32)) (hy : some y = f_Md_clear r_md r_co r_ta) : Ct l y_Md_clear (.code y_Md_clear b_Md_clear 1 none) rm_Md_clear g [.ref a_md] (w_md_co_ta g a_md a_co a_ta a_gu a_so a_cn a_de a_ma a_op a_pl a_ju r_md r_co r_ta) (w_md_co_ta g a_md a_co a_ta a_gu a_so a_cn a_de a_ma a_op a_pl a_ju r_md r_co y) none := by
  refine ct_in (C := "MoveDesk") rfl (by decide) (Nat.le_of_ble_eq_true rfl) (fun p e s m below meth c A ls M hP hD hS hl => ?_)
  obtain ⟨hx, hb, hr, hml, hown, hts, hlocks, hA, hK, hG⟩ := id M
  have hl : lv_has ls 1 [(0, .ref a_md)] := hl
  have hE := hy
  rw [f_Md_clear] at hE
  refine lv_aload_n hx hb d_Md_clear_0 rfl (lv_at hl 0 rfl) ?_
  refine va_get (D := g.1) (ci := 6) (v := .ref a_co) (C := "MoveDesk") (T := F_Md) (N := 7) hx hb hts i_Md hown hK hP 0 rfl rfl 0 (by decide) (hts _ m_271) (fun _ h9 => h9) rfl d_Md_clear_1 ?_
  obtain ⟨y1, hy1, hE⟩ := bd_at hE
  refine kV (C := "MoveDesk$Code") (index := 93) (As := []) (rest := []) (ws2 := (w_md_co_ta g a_md a_co a_ta a_gu a_so a_cn a_de a_ma a_op a_pl a_ju r_md r_co y1)) M hP hD hS hl.1 (c_Co_erase l g a_co a_ta a_gu a_so a_cn a_de r_co r_ta  y1 hy1) m_325 m_326 m_327 m_3 m_328 hd_Co_erase rfl rfl rfl ⟨by decide, by decide⟩ ⟨by decide, by decide⟩ 1 0 rfl rfl rfl [1, 2] [0] [0, 1, 2] rfl rfl rfl rfl (by decide) rfl rfl rfl (Nat.le_of_ble_eq_true rfl) d_Md_clear_4 (fun H locs hP hD hS => ?_)
  refine W.eq (g2 := F0 m 7 ls []) rfl ?_
  have hE := Option.some.inj hE
  rw [hE]
  exact W.vret hx hb hr (fun t ht hW => ⟨⟨rfl, by rw [ht]; exact hP, va_K.moved hW.alike hK, hD⟩, hS.F ht⟩) hS.2.2 d_Md_clear_7 hlocks
abbrev rm_Md_forget : Room := { frames := 1, cells := 0, slots := 0, locals := 21 }
set_option maxHeartbeats 4000000 in
set_option maxRecDepth 100000 in
theorem c_Md_forget (l : Launch) (g : GT) (a_md : Nat) (a_co : Nat) (a_ma : Nat) (a_op : Nat) (a_ki : Nat) (a_tg : Nat) (a_fi : Nat) (a_se : Nat) (a_oc : Nat) (a_cp : Nat) (a_pl : Nat) (a_ju : Nat) (r_md : Nat → Int32) (r_op : Nat → Int32)  (y : Int32 × (Nat → Int32)) (hy : some y = f_Md_forget r_md r_op) : Ct l y_Md_forget (.code y_Md_forget b_Md_forget 1 (some .int)) rm_Md_forget g [.ref a_md] (w_md_op g a_md a_co a_ma a_op a_ki a_tg a_fi a_se a_oc a_cp a_pl a_ju r_md r_op) (w_md_op g a_md a_co a_ma a_op a_ki a_tg a_fi a_se a_oc a_cp a_pl a_ju r_md y.2) (some (.int y.1)) := by
  refine ct_in (C := "MoveDesk") rfl (by decide) (Nat.le_of_ble_eq_true rfl) (fun p e s m below meth c A ls M hP hD hS hl => ?_)
  obtain ⟨hx, hb, hr, hml, hown, hts, hlocks, hA, hK, hG⟩ := id M
  have hl : lv_has ls 1 [(0, .ref a_md)] := hl
  have hE := hy
  rw [f_Md_forget] at hE
  refine lv_aload_n hx hb d_Md_forget_0 rfl (lv_at hl 0 rfl) ?_
  refine va_get (D := g.1) (ci := 6) (v := .ref a_op) (C := "MoveDesk") (T := F_Md) (N := 7) hx hb hts i_Md hown hK hP 0 rfl rfl 2 (by decide) (hts _ m_273) (fun _ h9 => h9) rfl d_Md_forget_1 ?_
  obtain ⟨y1, hy1, hE⟩ := bd_at hE
  refine kV (C := "MoveDesk$Operations") (index := 111) (As := []) (rest := []) (ws2 := (w_md_op g a_md a_co a_ma a_op a_ki a_tg a_fi a_se a_oc a_cp a_pl a_ju r_md y1.2)) M hP hD hS hl.1 (c_Op_drop l g a_op a_ki a_tg a_fi a_se a_oc a_cp r_op  y1 hy1) m_333 m_334 m_335 m_6 m_336 hd_Op_drop rfl rfl rfl ⟨by decide, by decide⟩ ⟨by decide, by decide⟩ 4 0 rfl rfl rfl [1] [0] [0, 1] rfl rfl rfl rfl (by decide) rfl rfl rfl (Nat.le_of_ble_eq_true rfl) d_Md_forget_4 (fun H locs hP hD hS => ?_)
  refine W.eq (g2 := F0 m 7 ls [.int y1.1]) rfl ?_
  have hE := Option.some.inj hE
  rw [hE]
  exact W.iret (v := y1.1) hx hb hr (fun t ht hW => ⟨⟨rfl, by rw [ht]; exact hP, va_K.moved hW.alike hK, hD⟩, hS.F ht⟩) hS.2.2 d_Md_forget_7 hlocks
abbrev rm_Md_judge : Room := { frames := 5, cells := 0, slots := 0, locals := 129 }
set_option maxHeartbeats 4000000 in
set_option maxRecDepth 100000 in
theorem c_Md_judge (l : Launch) (g : GT) (a_md : Nat) (a_co : Nat) (a_ta : Nat) (a_gu : Nat) (a_so : Nat) (a_cn : Nat) (a_de : Nat) (a_ma : Nat) (a_op : Nat) (a_pl : Nat) (a_ju : Nat) (a_jb : Nat) (a_ch : Nat) (a_rd : Nat) (a_fr : Nat) (a_ub : Nat) (a_wr : Nat) (r_md : Nat → Int32) (r_co : Nat → Int32) (r_ta : Nat → Int32) (r_gu : Nat → Int32) (r_so : Nat → Int32) (r_cn : Nat → Int32) (r_de : Nat → Int32) (r_ju : Nat → Int32) (r_jb : Nat → Int32) (r_ch : Nat → Int32) (r_rd : Nat → Int64) (r_fr : Nat → Int64) (r_ub : Nat → Int64) (r_wr : Nat → Int64)  (y : Int32 × (Nat → Int32) × (Nat → Int32) × (Nat → Int32) × (Nat → Int32) × (Nat → Int64) × (Nat → Int64)) (hy : some y = f_Md_judge r_md r_co r_ta r_gu r_so r_cn r_de r_ju r_jb r_ch r_rd r_fr r_ub r_wr) : Ct l y_Md_judge (.code y_Md_judge b_Md_judge 2 (some .int)) rm_Md_judge g [.ref a_md] (w_md_14_34d0 g a_md a_co a_ta a_gu a_so a_cn a_de a_ma a_op a_pl a_ju a_jb a_ch a_rd a_fr a_ub a_wr r_md r_co r_ta r_gu r_so r_cn r_de r_ju r_jb r_ch r_rd r_fr r_ub r_wr) (w_md_14_34d0 g a_md a_co a_ta a_gu a_so a_cn a_de a_ma a_op a_pl a_ju a_jb a_ch a_rd a_fr a_ub a_wr y.2.1 r_co r_ta r_gu r_so r_cn r_de y.2.2.1 y.2.2.2.1 y.2.2.2.2.1 y.2.2.2.2.2.1 y.2.2.2.2.2.2 r_ub r_wr) (some (.int y.1)) := by
  refine ct_in (C := "MoveDesk") rfl (by decide) (Nat.le_of_ble_eq_true rfl) (fun p e s m below meth c A ls M hP hD hS hl => ?_)
  obtain ⟨hx, hb, hr, hml, hown, hts, hlocks, hA, hK, hG⟩ := id M
  have hl : lv_has ls 2 [(0, .ref a_md)] := hl
  have hE := hy
  rw [f_Md_judge] at hE
  refine lv_aload_n hx hb d_Md_judge_0 rfl (lv_at hl 0 rfl) ?_
  refine va_get (D := g.1) (ci := 6) (v := .ref a_ju) (C := "MoveDesk") (T := F_Md) (N := 7) hx hb hts i_Md hown hK hP 0 rfl rfl 4 (by decide) (hts _ m_275) (fun _ h9 => h9) rfl d_Md_judge_1 ?_
  obtain ⟨y1, hy1, hE⟩ := bd_at hE
  refine kV (C := "MoveDesk$Judge") (index := 122) (As := []) (rest := []) (ws2 := (w_md_14_34d0 g a_md a_co a_ta a_gu a_so a_cn a_de a_ma a_op a_pl a_ju a_jb a_ch a_rd a_fr a_ub a_wr r_md r_co r_ta r_gu r_so r_cn r_de y1.2.1 y1.2.2.1 y1.2.2.2.1 y1.2.2.2.2.1 y1.2.2.2.2.2 r_ub r_wr)) M hP hD hS hl.1 (c_Ju_leastWrongCycle l g a_co a_ta a_gu a_so a_cn a_de a_ju a_jb a_ch a_rd a_fr a_ub a_wr r_co r_ta r_gu r_so r_cn r_de r_ju r_jb r_ch r_rd r_fr r_ub r_wr  y1 hy1) m_341 m_342 m_343 m_8 m_344 hd_Ju_leastWrongCycle rfl rfl rfl ⟨by decide, by decide⟩ ⟨by decide, by decide⟩ 2 6 rfl rfl rfl [1, 2, 3, 4, 5, 6, 7, 8, 9, 10, 11, 12, 13] [0] [0, 1, 2, 3, 4, 5, 6, 7, 8, 9, 10, 11, 12, 13] rfl rfl rfl rfl (by decide) rfl rfl rfl (Nat.le_of_ble_eq_true rfl) d_Md_judge_4 (fun H locs hP hD hS => ?_)
  refine W.eq (g2 := F0 m 7 ls [.int y1.1]) rfl ?_
  refine lv_istore_n (lv' := [(1, .int y1.1), (0, .ref a_md)]) hx hb d_Md_judge_7 rfl hl (by decide) rfl (fun ls hl => ?_)
  refine lv_aload_n hx hb d_Md_judge_8 rfl (lv_at hl 1 rfl) ?_
  refine lv_aload_n hx hb d_Md_judge_9 rfl (lv_at hl 1 rfl) ?_
  refine va_get (D := g.1) (ci := 6) (v := .ref a_ju) (C := "MoveDesk") (T := F_Md) (N := 7) hx hb hts i_Md hown hK hP 0 rfl rfl 4 (by decide) (hts _ m_275) (fun _ h9 => h9) rfl d_Md_judge_10 ?_
  obtain ⟨y2, hy2, hE⟩ := bd_at hE
  refine kV (C := "MoveDesk$Judge") (index := 125) (As := []) (rest := [.ref a_md]) (ws2 := (w_md_14_34d0 g a_md a_co a_ta a_gu a_so a_cn a_de a_ma a_op a_pl a_ju a_jb a_ch a_rd a_fr a_ub a_wr r_md r_co r_ta r_gu r_so r_cn r_de y1.2.1 y1.2.2.1 y1.2.2.2.1 y1.2.2.2.2.1 y1.2.2.2.2.2 r_ub r_wr)) M hP hD hS hl.1 (c_Ju_leastFault l g a_co a_ju a_jb a_ch a_rd a_fr a_ub a_wr y1.2.1  y2 hy2) m_420 m_421 m_422 m_8 m_423 hd_Ju_leastFault rfl rfl rfl ⟨by decide, by decide⟩ ⟨by decide, by decide⟩ 2 0 rfl rfl rfl [7] [0, 1, 2, 3, 4, 5, 6, 8, 9, 10, 11, 12, 13] [0, 1, 2, 3, 4, 5, 6, 13, 7, 8, 9, 10, 11, 12] rfl rfl rfl rfl (by decide) rfl rfl rfl (Nat.le_of_ble_eq_true rfl) d_Md_judge_13 (fun H locs hP hD hS => ?_)
  refine W.eq (g2 := F0 m 16 ls [.int y2, .ref a_md]) rfl ?_
  refine va_put (D := g.1) (ci := 6) (v := .int y2) (ty := .int) (C := "MoveDesk") (T := F_Md) (N := 7) hx hb hts i_Md t_Md t_Md_ok n_Md hown hK hP hD hS 0 rfl rfl 5 (by decide) (hts _ m_276) (fun _ h9 => h9) rfl (by decide +kernel) rfl rfl (Nat.le_of_ble_eq_true rfl) d_Md_judge_16 (fun H locs hP hD hS => ?_)
  have hP : va_P g.1 classes (w_md_14_34d0 g a_md a_co a_ta a_gu a_so a_cn a_de a_ma a_op a_pl a_ju a_jb a_ch a_rd a_fr a_ub a_wr (upd r_md 5 y2) r_co r_ta r_gu r_so r_cn r_de y1.2.1 y1.2.2.1 y1.2.2.2.1 y1.2.2.2.2.1 y1.2.2.2.2.2 r_ub r_wr) H := hP
  have hD : va_D A (w_md_14_34d0 g a_md a_co a_ta a_gu a_so a_cn a_de a_ma a_op a_pl a_ju a_jb a_ch a_rd a_fr a_ub a_wr (upd r_md 5 y2) r_co r_ta r_gu r_so r_cn r_de y1.2.1 y1.2.2.1 y1.2.2.2.1 y1.2.2.2.2.1 y1.2.2.2.2.2 r_ub r_wr) := hD
  refine lv_iload_n hx hb d_Md_judge_19 rfl (lv_at hl 0 rfl) ?_
  have hE := Option.some.inj hE
  rw [hE]
  exact W.iret (v := y1.1) hx hb hr (fun t ht hW => ⟨⟨rfl, by rw [ht]; exact hP, va_K.moved hW.alike hK, hD⟩, hS.F ht⟩) hS.2.2 d_Md_judge_20 hlocks
abbrev rm_Md_fault : Room := { frames := 0, cells := 0, slots := 0, locals := 0 }
set_option maxHeartbeats 4000000 in
set_option maxRecDepth 100000 in
theorem c_Md_fault (l : Launch) (g : GT) (a_md : Nat) (a_co : Nat) (a_ma : Nat) (a_op : Nat) (a_pl : Nat) (a_ju : Nat) (r_md : Nat → Int32) (v1 : Int32) (y : Int32) (hy : some y = f_Md_fault r_md v1) : Ct l y_Md_fault (.code y_Md_fault b_Md_fault 2 (some .int)) rm_Md_fault g [.ref a_md, .int v1] (w_md g a_md a_co a_ma a_op a_pl a_ju r_md) (w_md g a_md a_co a_ma a_op a_pl a_ju r_md) (some (.int y)) := by
  refine ct_in (C := "MoveDesk") rfl (by decide) (Nat.le_of_ble_eq_true rfl) (fun p e s m below meth c A ls M hP hD hS hl => ?_)
  obtain ⟨hx, hb, hr, hml, hown, hts, hlocks, hA, hK, hG⟩ := id M
  have hl : lv_has ls 2 [(0, .ref a_md), (1, .int v1)] := hl
  have hE := hy
  rw [f_Md_fault] at hE
  refine lv_iload_n hx hb d_Md_fault_0 rfl (lv_at hl 1 rfl) ?_
  by_cases c1 : v1 = 0
  · have hE := it_t hE c1
    refine lv_lookup (off := 27) (tgt := 28) hx hb d_Md_fault_1 (by decide) (by rw [c1] <;> rfl) (by decide) ?_
    refine lv_aload_n hx hb d_Md_fault_28 rfl (lv_at hl 0 rfl) ?_
    refine va_get (D := g.1) (ci := 6) (v := .int (r_md 5)) (C := "MoveDesk") (T := F_Md) (N := 7) hx hb hts i_Md hown hK hP 0 rfl rfl 5 (by decide) (hts _ m_276) (fun _ h9 => h9) rfl d_Md_fault_29 ?_
    have hE := Option.some.inj hE
    rw [hE]
    exact W.iret (v := (r_md 5)) hx hb hr (fun t ht hW => ⟨⟨rfl, by rw [ht]; exact hP, va_K.moved hW.alike hK, hD⟩, hS.F ht⟩) hS.2.2 d_Md_fault_32 hlocks
  · have hE := it_f hE c1
    by_cases c2 : v1 = 1
    · have hE := it_t hE c2
      refine lv_lookup (off := 32) (tgt := 33) hx hb d_Md_fault_1 (by decide) (by rw [c2] <;> rfl) (by decide) ?_
      refine lv_aload_n hx hb d_Md_fault_33 rfl (lv_at hl 0 rfl) ?_
      refine va_get (D := g.1) (ci := 6) (v := .int (r_md 6)) (C := "MoveDesk") (T := F_Md) (N := 7) hx hb hts i_Md hown hK hP 0 rfl rfl 6 (by decide) (hts _ m_277) (fun _ h9 => h9) rfl d_Md_fault_34 ?_
      have hE := Option.some.inj hE
      rw [hE]
      exact W.iret (v := (r_md 6)) hx hb hr (fun t ht hW => ⟨⟨rfl, by rw [ht]; exact hP, va_K.moved hW.alike hK, hD⟩, hS.F ht⟩) hS.2.2 d_Md_fault_37 hlocks
    · have hE := it_f hE c2
      refine lv_lookup (off := 37) (tgt := 38) hx hb d_Md_fault_1 (by decide) ((lv_osw c1 (by decide)).trans ((lv_osw c2 (by decide)).trans rfl)) (by decide) ?_
      refine lv_iconst (v := (-1)) hx hb d_Md_fault_38 (by decide) ?_
      have hE := Option.some.inj hE
      rw [hE]
      exact W.iret (v := (-1)) hx hb hr (fun t ht hW => ⟨⟨rfl, by rw [ht]; exact hP, va_K.moved hW.alike hK, hD⟩, hS.F ht⟩) hS.2.2 d_Md_fault_39 hlocks
abbrev rm_Md_reset : Room := { frames := 1, cells := 0, slots := 0, locals := 21 }
set_option maxHeartbeats 4000000 in
set_option maxRecDepth 100000 in
theorem c_Md_reset (l : Launch) (g : GT) (a_md : Nat) (a_lat : Nat) (a_co : Nat) (a_ma : Nat) (a_bu : Nat) (a_wo : Nat) (a_od : Nat) (a_rs : Nat) (a_ca : Nat) (a_cm : Nat) (a_op : Nat) (a_pl : Nat) (a_ju : Nat) (r_md : Nat → Int32) (r_ma : Nat → Int32) (r_od : Nat → Int32) (r_rs : Nat → Int32)  (y : (Nat → Int32) × (Nat → Int32) × (Nat → Int32)) (hy : some y = f_Md_reset r_md r_ma r_od r_rs) : Ct l y_Md_reset (.code y_Md_reset b_Md_reset 1 none) rm_Md_reset g [.ref a_md] (w_md_ma_od_rs g a_md a_lat a_co a_ma a_bu a_wo a_od a_rs a_ca a_cm a_op a_pl a_ju r_md r_ma r_od r_rs) (w_md_ma_od_rs g a_md a_lat a_co a_ma a_bu a_wo a_od a_rs a_ca a_cm a_op a_pl a_ju r_md y.1 y.2.1 y.2.2) none := by
  refine ct_in (C := "MoveDesk") rfl (by decide) (Nat.le_of_ble_eq_true rfl) (fun p e s m below meth c A ls M hP hD hS hl => ?_)
  obtain ⟨hx, hb, hr, hml, hown, hts, hlocks, hA, hK, hG⟩ := id M
  have hl : lv_has ls 1 [(0, .ref a_md)] := hl
  have hE := hy
  rw [f_Md_reset] at hE
  refine lv_aload_n hx hb d_Md_reset_0 rfl (lv_at hl 0 rfl) ?_
  refine va_get (D := g.1) (ci := 6) (v := .ref a_ma) (C := "MoveDesk") (T := F_Md) (N := 7) hx hb hts i_Md hown hK hP 0 rfl rfl 1 (by decide) (hts _ m_272) (fun _ h9 => h9) rfl d_Md_reset_1 ?_
  obtain ⟨y1, hy1, hE⟩ := bd_at hE
  refine kV (C := "MoveDesk$Machine") (index := 128) (As := []) (rest := []) (ws2 := (w_md_ma_od_rs g a_md a_lat a_co a_ma a_bu a_wo a_od a_rs a_ca a_cm a_op a_pl a_ju r_md y1.1 y1.2.1 y1.2.2)) M hP hD hS hl.1 (c_Ma_restart l g a_lat a_co a_ma a_bu a_wo a_od a_rs a_ca a_cm r_ma r_od r_rs  y1 hy1) m_432 m_433 m_434 m_4 m_435 hd_Ma_restart rfl rfl rfl ⟨by decide, by decide⟩ ⟨by decide, by decide⟩ 3 0 rfl rfl rfl [1, 2, 3] [0] [0, 1, 2, 3] rfl rfl rfl rfl (by decide) rfl rfl rfl (Nat.le_of_ble_eq_true rfl) d_Md_reset_4 (fun H locs hP hD hS => ?_)
  refine W.eq (g2 := F0 m 7 ls []) rfl ?_
  have hE := Option.some.inj hE
  rw [hE]
  exact W.vret hx hb hr (fun t ht hW => ⟨⟨rfl, by rw [ht]; exact hP, va_K.moved hW.alike hK, hD⟩, hS.F ht⟩) hS.2.2 d_Md_reset_7 hlocks
abbrev rm_Md_state : Room := { frames := 1, cells := 0, slots := 0, locals := 21 }
set_option maxHeartbeats 4000000 in
set_option maxRecDepth 100000 in
theorem c_Md_state (l : Launch) (g : GT) (a_md : Nat) (a_lat : Nat) (a_co : Nat) (a_ma : Nat) (a_bu : Nat) (a_wo : Nat) (a_od : Nat) (a_rs : Nat) (a_ca : Nat) (a_cm : Nat) (a_op : Nat) (a_pl : Nat) (a_ju : Nat) (r_md : Nat → Int32) (r_ma : Nat → Int32) (r_od : Nat → Int32) (r_rs : Nat → Int32) (v1 : Int32) (y : Int32) (hy : some y = f_Md_state r_md r_ma r_od r_rs v1) : Ct l y_Md_state (.code y_Md_state b_Md_state 2 (some .int)) rm_Md_state g [.ref a_md, .int v1] (w_md_ma_od_rs g a_md a_lat a_co a_ma a_bu a_wo a_od a_rs a_ca a_cm a_op a_pl a_ju r_md r_ma r_od r_rs) (w_md_ma_od_rs g a_md a_lat a_co a_ma a_bu a_wo a_od a_rs a_ca a_cm a_op a_pl a_ju r_md r_ma r_od r_rs) (some (.int y)) := by
  refine ct_in (C := "MoveDesk") rfl (by decide) (Nat.le_of_ble_eq_true rfl) (fun p e s m below meth c A ls M hP hD hS hl => ?_)
  obtain ⟨hx, hb, hr, hml, hown, hts, hlocks, hA, hK, hG⟩ := id M
  have hl : lv_has ls 2 [(0, .ref a_md), (1, .int v1)] := hl
  have hE := hy
  rw [f_Md_state] at hE
  refine lv_aload_n hx hb d_Md_state_0 rfl (lv_at hl 0 rfl) ?_
  refine va_get (D := g.1) (ci := 6) (v := .ref a_ma) (C := "MoveDesk") (T := F_Md) (N := 7) hx hb hts i_Md hown hK hP 0 rfl rfl 1 (by decide) (hts _ m_272) (fun _ h9 => h9) rfl d_Md_state_1 ?_
  refine lv_iload_n hx hb d_Md_state_4 rfl (lv_at hl 1 rfl) ?_
  obtain ⟨y1, hy1, hE⟩ := bd_at hE
  refine kV (C := "MoveDesk$Machine") (index := 146) (As := [.int v1]) (rest := []) (ws2 := (w_md_ma_od_rs g a_md a_lat a_co a_ma a_bu a_wo a_od a_rs a_ca a_cm a_op a_pl a_ju r_md r_ma r_od r_rs)) M hP hD hS hl.1 (c_Ma_show l g a_lat a_co a_ma a_bu a_wo a_od a_rs a_ca a_cm r_ma r_od r_rs v1 y1 hy1) m_440 m_441 m_442 m_4 m_443 hd_Ma_show rfl rfl rfl ⟨by decide, by decide⟩ ⟨by decide, by decide⟩ 3 0 rfl rfl rfl [1, 2, 3] [0] [0, 1, 2, 3] rfl rfl rfl rfl (by decide) rfl rfl rfl (Nat.le_of_ble_eq_true rfl) d_Md_state_5 (fun H locs hP hD hS => ?_)
  refine W.eq (g2 := F0 m 8 ls [.int y1]) rfl ?_
  have hE := Option.some.inj hE
  rw [hE]
  exact W.iret (v := y1) hx hb hr (fun t ht hW => ⟨⟨rfl, by rw [ht]; exact hP, va_K.moved hW.alike hK, hD⟩, hS.F ht⟩) hS.2.2 d_Md_state_8 hlocks
