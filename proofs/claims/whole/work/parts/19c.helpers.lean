theorem m_450 : (.classLink "MoveDeskLaw" 13 "java/lang/IndexOutOfBoundsException" : Cond) ∈ bw := mw 450 (by decide +kernel) rfl
theorem m_451 : (.classLink "MoveDeskLaw" 15 "java/lang/IllegalArgumentException" : Cond) ∈ bw := mw 451 (by decide +kernel) rfl
theorem m_452 : (.methodLink "MoveDeskLaw" 7 ⟨"MoveDesk", "move", "(IIIIII)V"⟩ : Cond) ∈ bw := mw 452 (by decide +kernel) rfl
theorem m_453 : (.instanceMethod ⟨"MoveDesk", "move", "(IIIIII)V"⟩ : Cond) ∈ bw := mw 453 (by decide +kernel) rfl
theorem m_454 : (.selects "MoveDesk" ⟨"MoveDesk", "move", "(IIIIII)V"⟩ ⟨"MoveDesk", "move", "(IIIIII)V"⟩ : Cond) ∈ bw := mw 454 (by decide +kernel) rfl
theorem m_455 : (.code ⟨"MoveDesk", "move", "(IIIIII)V"⟩ prog_1_method_2_code 7 none : Cond) ∈ bw := mw 455 (by decide +kernel) rfl
theorem m_545 : (.methodLink "MoveDeskLaw" 17 ⟨"MoveDesk", "free", "(II)Z"⟩ : Cond) ∈ bw := mw 545 (by decide +kernel) rfl
theorem m_546 : (.instanceMethod ⟨"MoveDesk", "free", "(II)Z"⟩ : Cond) ∈ bw := mw 546 (by decide +kernel) rfl
theorem m_547 : (.selects "MoveDesk" ⟨"MoveDesk", "free", "(II)Z"⟩ ⟨"MoveDesk", "free", "(II)Z"⟩ : Cond) ∈ bw := mw 547 (by decide +kernel) rfl
theorem m_548 : (.code ⟨"MoveDesk", "free", "(II)Z"⟩ prog_1_method_3_code 3 (some .boolean) : Cond) ∈ bw := mw 548 (by decide +kernel) rfl
theorem m_557 : (.classLink "MoveDeskLaw" 25 "java/lang/IllegalStateException" : Cond) ∈ bw := mw 557 (by decide +kernel) rfl
theorem m_558 : (.methodLink "MoveDeskLaw" 21 ⟨"MoveDesk", "operation", "(IIIII)I"⟩ : Cond) ∈ bw := mw 558 (by decide +kernel) rfl
theorem m_559 : (.instanceMethod ⟨"MoveDesk", "operation", "(IIIII)I"⟩ : Cond) ∈ bw := mw 559 (by decide +kernel) rfl
theorem m_560 : (.selects "MoveDesk" ⟨"MoveDesk", "operation", "(IIIII)I"⟩ ⟨"MoveDesk", "operation", "(IIIII)I"⟩ : Cond) ∈ bw := mw 560 (by decide +kernel) rfl
theorem m_561 : (.code ⟨"MoveDesk", "operation", "(IIIII)I"⟩ prog_1_method_6_code 6 (some .int) : Cond) ∈ bw := mw 561 (by decide +kernel) rfl
theorem m_593 : (.classLink "MoveDeskLaw" 31 "java/lang/UnsupportedOperationException" : Cond) ∈ bw := mw 593 (by decide +kernel) rfl
theorem m_594 : (.methodLink "MoveDeskLaw" 27 ⟨"MoveDesk", "compile", "()I"⟩ : Cond) ∈ bw := mw 594 (by decide +kernel) rfl
theorem m_595 : (.instanceMethod ⟨"MoveDesk", "compile", "()I"⟩ : Cond) ∈ bw := mw 595 (by decide +kernel) rfl
theorem m_596 : (.selects "MoveDesk" ⟨"MoveDesk", "compile", "()I"⟩ ⟨"MoveDesk", "compile", "()I"⟩ : Cond) ∈ bw := mw 596 (by decide +kernel) rfl
theorem m_597 : (.code ⟨"MoveDesk", "compile", "()I"⟩ prog_1_method_8_code 2 (some .int) : Cond) ∈ bw := mw 597 (by decide +kernel) rfl
theorem m_710 : (.methodLink "MoveDeskLaw" 33 ⟨"MoveDesk", "run", "(I)I"⟩ : Cond) ∈ bw := mw 710 (by decide +kernel) rfl
theorem m_711 : (.instanceMethod ⟨"MoveDesk", "run", "(I)I"⟩ : Cond) ∈ bw := mw 711 (by decide +kernel) rfl
theorem m_712 : (.selects "MoveDesk" ⟨"MoveDesk", "run", "(I)I"⟩ ⟨"MoveDesk", "run", "(I)I"⟩ : Cond) ∈ bw := mw 712 (by decide +kernel) rfl
theorem m_713 : (.code ⟨"MoveDesk", "run", "(I)I"⟩ prog_1_method_12_code 3 (some .int) : Cond) ∈ bw := mw 713 (by decide +kernel) rfl
theorem m_774 : (.methodLink "MoveDeskLaw" 37 ⟨"MoveDesk", "poke", "(II)V"⟩ : Cond) ∈ bw := mw 774 (by decide +kernel) rfl
theorem m_775 : (.instanceMethod ⟨"MoveDesk", "poke", "(II)V"⟩ : Cond) ∈ bw := mw 775 (by decide +kernel) rfl
theorem m_776 : (.selects "MoveDesk" ⟨"MoveDesk", "poke", "(II)V"⟩ ⟨"MoveDesk", "poke", "(II)V"⟩ : Cond) ∈ bw := mw 776 (by decide +kernel) rfl
theorem m_777 : (.code ⟨"MoveDesk", "poke", "(II)V"⟩ prog_1_method_13_code 3 none : Cond) ∈ bw := mw 777 (by decide +kernel) rfl
theorem m_784 : (.methodLink "MoveDeskLaw" 41 ⟨"MoveDesk", "peek", "(I)I"⟩ : Cond) ∈ bw := mw 784 (by decide +kernel) rfl
theorem m_785 : (.instanceMethod ⟨"MoveDesk", "peek", "(I)I"⟩ : Cond) ∈ bw := mw 785 (by decide +kernel) rfl
theorem m_786 : (.selects "MoveDesk" ⟨"MoveDesk", "peek", "(I)I"⟩ ⟨"MoveDesk", "peek", "(I)I"⟩ : Cond) ∈ bw := mw 786 (by decide +kernel) rfl
theorem m_787 : (.code ⟨"MoveDesk", "peek", "(I)I"⟩ prog_1_method_14_code 2 (some .int) : Cond) ∈ bw := mw 787 (by decide +kernel) rfl
theorem m_791 : (.methodLink "MoveDeskLaw" 44 ⟨"MoveDesk", "done", "(I)I"⟩ : Cond) ∈ bw := mw 791 (by decide +kernel) rfl
theorem m_792 : (.instanceMethod ⟨"MoveDesk", "done", "(I)I"⟩ : Cond) ∈ bw := mw 792 (by decide +kernel) rfl
theorem m_793 : (.selects "MoveDesk" ⟨"MoveDesk", "done", "(I)I"⟩ ⟨"MoveDesk", "done", "(I)I"⟩ : Cond) ∈ bw := mw 793 (by decide +kernel) rfl
theorem m_794 : (.code ⟨"MoveDesk", "done", "(I)I"⟩ prog_1_method_16_code 2 (some .int) : Cond) ∈ bw := mw 794 (by decide +kernel) rfl
abbrev b_La_move : ByteArray := method_3_code
abbrev y_La_move : MethodName := ⟨"MoveDeskLaw", "move", "(LMoveDesk;IIIIII)I"⟩
theorem hs_La_move : y_La_move.cls ≠ "java/lang/invoke/MethodHandle" ∧ y_La_move.cls ≠ "java/lang/invoke/VarHandle" ∧ (parseMethodDescriptor y_La_move.desc).map (fun d => d.parameters.length) = some 7 := by decide +kernel
theorem d_La_move_0 : decode b_La_move 0 = .ok (.aload_n 0, 1) := by decide +kernel
theorem d_La_move_1 : decode b_La_move 1 = .ok (.iload_n 1, 1) := by decide +kernel
theorem d_La_move_2 : decode b_La_move 2 = .ok (.iload_n 2, 1) := by decide +kernel
theorem d_La_move_3 : decode b_La_move 3 = .ok (.iload_n 3, 1) := by decide +kernel
theorem d_La_move_4 : decode b_La_move 4 = .ok (.iload 4, 2) := by decide +kernel
theorem d_La_move_6 : decode b_La_move 6 = .ok (.iload 5, 2) := by decide +kernel
theorem d_La_move_8 : decode b_La_move 8 = .ok (.iload 6, 2) := by decide +kernel
theorem d_La_move_10 : decode b_La_move 10 = .ok (.invokevirtual 7, 3) := by decide +kernel
theorem d_La_move_13 : decode b_La_move 13 = .ok (.goto 11, 3) := by decide +kernel
theorem d_La_move_16 : decode b_La_move 16 = .ok (.astore 7, 2) := by decide +kernel
theorem d_La_move_18 : decode b_La_move 18 = .ok (.iconst 1, 1) := by decide +kernel
theorem d_La_move_19 : decode b_La_move 19 = .ok (.ireturn, 1) := by decide +kernel
theorem d_La_move_20 : decode b_La_move 20 = .ok (.astore 7, 2) := by decide +kernel
theorem d_La_move_22 : decode b_La_move 22 = .ok (.iconst 2, 1) := by decide +kernel
theorem d_La_move_23 : decode b_La_move 23 = .ok (.ireturn, 1) := by decide +kernel
theorem d_La_move_24 : decode b_La_move 24 = .ok (.iconst 0, 1) := by decide +kernel
theorem d_La_move_25 : decode b_La_move 25 = .ok (.ireturn, 1) := by decide +kernel
abbrev w_md_co_ta_out (g : GT) (a_md : Nat) (a_co : Nat) (a_ta : Nat) (a_gu : Nat) (a_so : Nat) (a_cn : Nat) (a_de : Nat) (a_ma : Nat) (a_op : Nat) (a_pl : Nat) (a_ju : Nat) (a_out : Nat) (r_md : Nat → Int32) (r_co : Nat → Int32) (r_ta : Nat → Int32) (r_out : Nat → Int64) : va_W := [kO a_md 6 [.ref a_co, .ref a_ma, .ref a_op, .ref a_pl, .ref a_ju, .int (r_md 5), .int (r_md 6)], kO a_co 1 [.int (r_co 0), .ref a_ta, .ref a_gu, .ref a_so, .ref a_cn, .ref a_de], kI g a_ta 64 r_ta, kJ g a_out 1 r_out]
abbrev b_La_free : ByteArray := method_4_code
abbrev y_La_free : MethodName := ⟨"MoveDeskLaw", "free", "(LMoveDesk;II[J)I"⟩
theorem hs_La_free : y_La_free.cls ≠ "java/lang/invoke/MethodHandle" ∧ y_La_free.cls ≠ "java/lang/invoke/VarHandle" ∧ (parseMethodDescriptor y_La_free.desc).map (fun d => d.parameters.length) = some 4 := by decide +kernel
theorem d_La_free_0 : decode b_La_free 0 = .ok (.aload_n 3, 1) := by decide +kernel
theorem d_La_free_1 : decode b_La_free 1 = .ok (.iconst 0, 1) := by decide +kernel
theorem d_La_free_2 : decode b_La_free 2 = .ok (.aload_n 0, 1) := by decide +kernel
theorem d_La_free_3 : decode b_La_free 3 = .ok (.iload_n 1, 1) := by decide +kernel
theorem d_La_free_4 : decode b_La_free 4 = .ok (.iload_n 2, 1) := by decide +kernel
theorem d_La_free_5 : decode b_La_free 5 = .ok (.invokevirtual 17, 3) := by decide +kernel
theorem d_La_free_8 : decode b_La_free 8 = .ok (.ifCond .eq 7, 3) := by decide +kernel
theorem d_La_free_11 : decode b_La_free 11 = .ok (.lconst 1, 1) := by decide +kernel
theorem d_La_free_12 : decode b_La_free 12 = .ok (.goto 4, 3) := by decide +kernel
theorem d_La_free_15 : decode b_La_free 15 = .ok (.lconst 0, 1) := by decide +kernel
theorem d_La_free_16 : decode b_La_free 16 = .ok (.lastore, 1) := by decide +kernel
theorem d_La_free_17 : decode b_La_free 17 = .ok (.goto 7, 3) := by decide +kernel
theorem d_La_free_20 : decode b_La_free 20 = .ok (.astore 4, 2) := by decide +kernel
theorem d_La_free_22 : decode b_La_free 22 = .ok (.iconst 1, 1) := by decide +kernel
theorem d_La_free_23 : decode b_La_free 23 = .ok (.ireturn, 1) := by decide +kernel
theorem d_La_free_24 : decode b_La_free 24 = .ok (.iconst 0, 1) := by decide +kernel
theorem d_La_free_25 : decode b_La_free 25 = .ok (.ireturn, 1) := by decide +kernel
abbrev w_md_8_4890 (g : GT) (a_md : Nat) (a_co : Nat) (a_ma : Nat) (a_op : Nat) (a_ki : Nat) (a_tg : Nat) (a_fi : Nat) (a_se : Nat) (a_oc : Nat) (a_cp : Nat) (a_pl : Nat) (a_ju : Nat) (a_out : Nat) (r_md : Nat → Int32) (r_op : Nat → Int32) (r_ki : Nat → Int32) (r_tg : Nat → Int32) (r_fi : Nat → Int32) (r_se : Nat → Int32) (r_oc : Nat → Int32) (r_out : Nat → Int64) : va_W := [kO a_md 6 [.ref a_co, .ref a_ma, .ref a_op, .ref a_pl, .ref a_ju, .int (r_md 5), .int (r_md 6)], kO a_op 4 [.ref a_ki, .ref a_tg, .ref a_fi, .ref a_se, .ref a_oc, .ref a_cp, .int (r_op 6)], kI g a_ki 20 r_ki, kI g a_tg 20 r_tg, kI g a_fi 20 r_fi, kI g a_se 20 r_se, kI g a_oc 20 r_oc, kJ g a_out 1 r_out]
abbrev b_La_operation : ByteArray := method_5_code
abbrev y_La_operation : MethodName := ⟨"MoveDeskLaw", "operation", "(LMoveDesk;IIIII[J)I"⟩
theorem hs_La_operation : y_La_operation.cls ≠ "java/lang/invoke/MethodHandle" ∧ y_La_operation.cls ≠ "java/lang/invoke/VarHandle" ∧ (parseMethodDescriptor y_La_operation.desc).map (fun d => d.parameters.length) = some 7 := by decide +kernel
theorem d_La_operation_0 : decode b_La_operation 0 = .ok (.aload 6, 2) := by decide +kernel
theorem d_La_operation_2 : decode b_La_operation 2 = .ok (.iconst 0, 1) := by decide +kernel
theorem d_La_operation_3 : decode b_La_operation 3 = .ok (.aload_n 0, 1) := by decide +kernel
theorem d_La_operation_4 : decode b_La_operation 4 = .ok (.iload_n 1, 1) := by decide +kernel
theorem d_La_operation_5 : decode b_La_operation 5 = .ok (.iload_n 2, 1) := by decide +kernel
theorem d_La_operation_6 : decode b_La_operation 6 = .ok (.iload_n 3, 1) := by decide +kernel
theorem d_La_operation_7 : decode b_La_operation 7 = .ok (.iload 4, 2) := by decide +kernel
theorem d_La_operation_9 : decode b_La_operation 9 = .ok (.iload 5, 2) := by decide +kernel
theorem d_La_operation_11 : decode b_La_operation 11 = .ok (.invokevirtual 21, 3) := by decide +kernel
theorem d_La_operation_14 : decode b_La_operation 14 = .ok (.i2l, 1) := by decide +kernel
theorem d_La_operation_15 : decode b_La_operation 15 = .ok (.lastore, 1) := by decide +kernel
theorem d_La_operation_16 : decode b_La_operation 16 = .ok (.goto 11, 3) := by decide +kernel
theorem d_La_operation_19 : decode b_La_operation 19 = .ok (.astore 7, 2) := by decide +kernel
theorem d_La_operation_21 : decode b_La_operation 21 = .ok (.iconst 1, 1) := by decide +kernel
theorem d_La_operation_22 : decode b_La_operation 22 = .ok (.ireturn, 1) := by decide +kernel
theorem d_La_operation_23 : decode b_La_operation 23 = .ok (.astore 7, 2) := by decide +kernel
theorem d_La_operation_25 : decode b_La_operation 25 = .ok (.iconst 2, 1) := by decide +kernel
theorem d_La_operation_26 : decode b_La_operation 26 = .ok (.ireturn, 1) := by decide +kernel
theorem d_La_operation_27 : decode b_La_operation 27 = .ok (.iconst 0, 1) := by decide +kernel
theorem d_La_operation_28 : decode b_La_operation 28 = .ok (.ireturn, 1) := by decide +kernel
abbrev w_md_25_38b3 (g : GT) (a_md : Nat) (a_lat : Nat) (a_co : Nat) (a_ta : Nat) (a_gu : Nat) (a_so : Nat) (a_cn : Nat) (a_de : Nat) (a_ma : Nat) (a_op : Nat) (a_ki : Nat) (a_tg : Nat) (a_fi : Nat) (a_se : Nat) (a_oc : Nat) (a_cp : Nat) (a_pl : Nat) (a_bs : Nat) (a_rr : Nat) (a_hr : Nat) (a_lw : Nat) (a_lr : Nat) (a_lt : Nat) (a_lm : Nat) (a_tc : Nat) (a_rc : Nat) (a_ju : Nat) (a_out : Nat) (r_md : Nat → Int32) (r_lat : Nat → Int32) (r_co : Nat → Int32) (r_ta : Nat → Int32) (r_gu : Nat → Int32) (r_so : Nat → Int32) (r_cn : Nat → Int32) (r_de : Nat → Int32) (r_op : Nat → Int32) (r_ki : Nat → Int32) (r_tg : Nat → Int32) (r_fi : Nat → Int32) (r_se : Nat → Int32) (r_oc : Nat → Int32) (r_bs : Nat → Int32) (r_rr : Nat → Int32) (r_hr : Nat → Int32) (r_lw : Nat → Int32) (r_lr : Nat → Int32) (r_lt : Nat → Int32) (r_lm : Nat → Int32) (r_tc : Nat → Int32) (r_rc : Nat → Int32) (r_out : Nat → Int64) : va_W := [kO a_md 6 [.ref a_co, .ref a_ma, .ref a_op, .ref a_pl, .ref a_ju, .int (r_md 5), .int (r_md 6)], kI g a_lat 3 r_lat, kO a_co 1 [.int (r_co 0), .ref a_ta, .ref a_gu, .ref a_so, .ref a_cn, .ref a_de], kI g a_ta 64 r_ta, kI g a_gu 256 r_gu, kI g a_so 256 r_so, kI g a_cn 256 r_cn, kI g a_de 256 r_de, kO a_op 4 [.ref a_ki, .ref a_tg, .ref a_fi, .ref a_se, .ref a_oc, .ref a_cp, .int (r_op 6)], kI g a_ki 20 r_ki, kI g a_tg 20 r_tg, kI g a_fi 20 r_fi, kI g a_se 20 r_se, kI g a_oc 20 r_oc, kO a_pl 5 [.ref a_co, .ref a_op, .ref a_lat, .ref a_bs, .ref a_rr, .ref a_hr, .ref a_lw, .ref a_lr, .ref a_lt, .ref a_lm, .ref a_tc, .ref a_rc], kI g a_bs 64 r_bs, kI g a_rr 64 r_rr, kZ g a_hr 64 r_hr, kI g a_lw 8 r_lw, kI g a_lr 8 r_lr, kI g a_lt 3 r_lt, kI g a_lm 3 r_lm, kI g a_tc 20 r_tc, kI g a_rc 20 r_rc, kJ g a_out 1 r_out]
abbrev b_La_compile : ByteArray := method_6_code
abbrev y_La_compile : MethodName := ⟨"MoveDeskLaw", "compile", "(LMoveDesk;[J)I"⟩
theorem hs_La_compile : y_La_compile.cls ≠ "java/lang/invoke/MethodHandle" ∧ y_La_compile.cls ≠ "java/lang/invoke/VarHandle" ∧ (parseMethodDescriptor y_La_compile.desc).map (fun d => d.parameters.length) = some 2 := by decide +kernel
theorem d_La_compile_0 : decode b_La_compile 0 = .ok (.aload_n 1, 1) := by decide +kernel
theorem d_La_compile_1 : decode b_La_compile 1 = .ok (.iconst 0, 1) := by decide +kernel
theorem d_La_compile_2 : decode b_La_compile 2 = .ok (.aload_n 0, 1) := by decide +kernel
theorem d_La_compile_3 : decode b_La_compile 3 = .ok (.invokevirtual 27, 3) := by decide +kernel
theorem d_La_compile_6 : decode b_La_compile 6 = .ok (.i2l, 1) := by decide +kernel
theorem d_La_compile_7 : decode b_La_compile 7 = .ok (.lastore, 1) := by decide +kernel
theorem d_La_compile_8 : decode b_La_compile 8 = .ok (.goto 6, 3) := by decide +kernel
theorem d_La_compile_11 : decode b_La_compile 11 = .ok (.astore_n 2, 1) := by decide +kernel
theorem d_La_compile_12 : decode b_La_compile 12 = .ok (.iconst 1, 1) := by decide +kernel
theorem d_La_compile_13 : decode b_La_compile 13 = .ok (.ireturn, 1) := by decide +kernel
theorem d_La_compile_14 : decode b_La_compile 14 = .ok (.iconst 0, 1) := by decide +kernel
theorem d_La_compile_15 : decode b_La_compile 15 = .ok (.ireturn, 1) := by decide +kernel
abbrev w_md_16_9e7d (g : GT) (a_md : Nat) (a_lat : Nat) (a_co : Nat) (a_ta : Nat) (a_gu : Nat) (a_so : Nat) (a_cn : Nat) (a_de : Nat) (a_ma : Nat) (a_bu : Nat) (a_wo : Nat) (a_od : Nat) (a_rs : Nat) (a_ca : Nat) (a_cm : Nat) (a_op : Nat) (a_pl : Nat) (a_ju : Nat) (a_out : Nat) (r_md : Nat → Int32) (r_lat : Nat → Int32) (r_co : Nat → Int32) (r_ta : Nat → Int32) (r_gu : Nat → Int32) (r_so : Nat → Int32) (r_cn : Nat → Int32) (r_de : Nat → Int32) (r_ma : Nat → Int32) (r_bu : Nat → Int32) (r_wo : Nat → Int32) (r_od : Nat → Int32) (r_rs : Nat → Int32) (r_ca : Nat → Int32) (r_cm : Nat → Int32) (r_out : Nat → Int64) : va_W := [kO a_md 6 [.ref a_co, .ref a_ma, .ref a_op, .ref a_pl, .ref a_ju, .int (r_md 5), .int (r_md 6)], kI g a_lat 3 r_lat, kO a_co 1 [.int (r_co 0), .ref a_ta, .ref a_gu, .ref a_so, .ref a_cn, .ref a_de], kI g a_ta 64 r_ta, kI g a_gu 256 r_gu, kI g a_so 256 r_so, kI g a_cn 256 r_cn, kI g a_de 256 r_de, kO a_ma 3 [.ref a_co, .ref a_lat, .ref a_bu, .ref a_wo, .ref a_od, .ref a_rs, .ref a_ca, .ref a_cm, .int (r_ma 8), .int (r_ma 9), .int (r_ma 10), .int (r_ma 11), .int (r_ma 12), .int (r_ma 13), .int (r_ma 14), .int (r_ma 15)], kO a_bu 0 [.int (r_bu 0), .int (r_bu 1), .int (r_bu 2), .int (r_bu 3), .int (r_bu 4), .int (r_bu 5), .int (r_bu 6), .int (r_bu 7)], kI g a_wo 72 r_wo, kI g a_od 3 r_od, kI g a_rs 3 r_rs, kI g a_ca 4 r_ca, kI g a_cm 12 r_cm, kJ g a_out 1 r_out]
abbrev b_La_run : ByteArray := method_7_code
abbrev y_La_run : MethodName := ⟨"MoveDeskLaw", "run", "(LMoveDesk;I[J)I"⟩
theorem hs_La_run : y_La_run.cls ≠ "java/lang/invoke/MethodHandle" ∧ y_La_run.cls ≠ "java/lang/invoke/VarHandle" ∧ (parseMethodDescriptor y_La_run.desc).map (fun d => d.parameters.length) = some 3 := by decide +kernel
theorem d_La_run_0 : decode b_La_run 0 = .ok (.aload_n 2, 1) := by decide +kernel
theorem d_La_run_1 : decode b_La_run 1 = .ok (.iconst 0, 1) := by decide +kernel
theorem d_La_run_2 : decode b_La_run 2 = .ok (.aload_n 0, 1) := by decide +kernel
theorem d_La_run_3 : decode b_La_run 3 = .ok (.iload_n 1, 1) := by decide +kernel
theorem d_La_run_4 : decode b_La_run 4 = .ok (.invokevirtual 33, 3) := by decide +kernel
theorem d_La_run_7 : decode b_La_run 7 = .ok (.i2l, 1) := by decide +kernel
theorem d_La_run_8 : decode b_La_run 8 = .ok (.lastore, 1) := by decide +kernel
theorem d_La_run_9 : decode b_La_run 9 = .ok (.goto 6, 3) := by decide +kernel
theorem d_La_run_12 : decode b_La_run 12 = .ok (.astore_n 3, 1) := by decide +kernel
theorem d_La_run_13 : decode b_La_run 13 = .ok (.iconst 1, 1) := by decide +kernel
theorem d_La_run_14 : decode b_La_run 14 = .ok (.ireturn, 1) := by decide +kernel
theorem d_La_run_15 : decode b_La_run 15 = .ok (.iconst 0, 1) := by decide +kernel
theorem d_La_run_16 : decode b_La_run 16 = .ok (.ireturn, 1) := by decide +kernel
abbrev b_La_poke : ByteArray := method_8_code
abbrev y_La_poke : MethodName := ⟨"MoveDeskLaw", "poke", "(LMoveDesk;II)I"⟩
theorem hs_La_poke : y_La_poke.cls ≠ "java/lang/invoke/MethodHandle" ∧ y_La_poke.cls ≠ "java/lang/invoke/VarHandle" ∧ (parseMethodDescriptor y_La_poke.desc).map (fun d => d.parameters.length) = some 3 := by decide +kernel
theorem d_La_poke_0 : decode b_La_poke 0 = .ok (.aload_n 0, 1) := by decide +kernel
theorem d_La_poke_1 : decode b_La_poke 1 = .ok (.iload_n 1, 1) := by decide +kernel
theorem d_La_poke_2 : decode b_La_poke 2 = .ok (.iload_n 2, 1) := by decide +kernel
theorem d_La_poke_3 : decode b_La_poke 3 = .ok (.invokevirtual 37, 3) := by decide +kernel
theorem d_La_poke_6 : decode b_La_poke 6 = .ok (.goto 6, 3) := by decide +kernel
theorem d_La_poke_9 : decode b_La_poke 9 = .ok (.astore_n 3, 1) := by decide +kernel
theorem d_La_poke_10 : decode b_La_poke 10 = .ok (.iconst 1, 1) := by decide +kernel
theorem d_La_poke_11 : decode b_La_poke 11 = .ok (.ireturn, 1) := by decide +kernel
theorem d_La_poke_12 : decode b_La_poke 12 = .ok (.iconst 0, 1) := by decide +kernel
theorem d_La_poke_13 : decode b_La_poke 13 = .ok (.ireturn, 1) := by decide +kernel
abbrev w_md_ma_wo_out (g : GT) (a_md : Nat) (a_lat : Nat) (a_co : Nat) (a_ma : Nat) (a_bu : Nat) (a_wo : Nat) (a_od : Nat) (a_rs : Nat) (a_ca : Nat) (a_cm : Nat) (a_op : Nat) (a_pl : Nat) (a_ju : Nat) (a_out : Nat) (r_md : Nat → Int32) (r_ma : Nat → Int32) (r_wo : Nat → Int32) (r_out : Nat → Int64) : va_W := [kO a_md 6 [.ref a_co, .ref a_ma, .ref a_op, .ref a_pl, .ref a_ju, .int (r_md 5), .int (r_md 6)], kO a_ma 3 [.ref a_co, .ref a_lat, .ref a_bu, .ref a_wo, .ref a_od, .ref a_rs, .ref a_ca, .ref a_cm, .int (r_ma 8), .int (r_ma 9), .int (r_ma 10), .int (r_ma 11), .int (r_ma 12), .int (r_ma 13), .int (r_ma 14), .int (r_ma 15)], kI g a_wo 72 r_wo, kJ g a_out 1 r_out]
abbrev b_La_peek : ByteArray := method_9_code
abbrev y_La_peek : MethodName := ⟨"MoveDeskLaw", "peek", "(LMoveDesk;I[J)I"⟩
theorem hs_La_peek : y_La_peek.cls ≠ "java/lang/invoke/MethodHandle" ∧ y_La_peek.cls ≠ "java/lang/invoke/VarHandle" ∧ (parseMethodDescriptor y_La_peek.desc).map (fun d => d.parameters.length) = some 3 := by decide +kernel
theorem d_La_peek_0 : decode b_La_peek 0 = .ok (.aload_n 2, 1) := by decide +kernel
theorem d_La_peek_1 : decode b_La_peek 1 = .ok (.iconst 0, 1) := by decide +kernel
theorem d_La_peek_2 : decode b_La_peek 2 = .ok (.aload_n 0, 1) := by decide +kernel
theorem d_La_peek_3 : decode b_La_peek 3 = .ok (.iload_n 1, 1) := by decide +kernel
theorem d_La_peek_4 : decode b_La_peek 4 = .ok (.invokevirtual 41, 3) := by decide +kernel
theorem d_La_peek_7 : decode b_La_peek 7 = .ok (.i2l, 1) := by decide +kernel
theorem d_La_peek_8 : decode b_La_peek 8 = .ok (.lastore, 1) := by decide +kernel
theorem d_La_peek_9 : decode b_La_peek 9 = .ok (.goto 6, 3) := by decide +kernel
theorem d_La_peek_12 : decode b_La_peek 12 = .ok (.astore_n 3, 1) := by decide +kernel
theorem d_La_peek_13 : decode b_La_peek 13 = .ok (.iconst 1, 1) := by decide +kernel
theorem d_La_peek_14 : decode b_La_peek 14 = .ok (.ireturn, 1) := by decide +kernel
theorem d_La_peek_15 : decode b_La_peek 15 = .ok (.iconst 0, 1) := by decide +kernel
theorem d_La_peek_16 : decode b_La_peek 16 = .ok (.ireturn, 1) := by decide +kernel
abbrev w_md_11_ae77 (g : GT) (a_md : Nat) (a_lat : Nat) (a_co : Nat) (a_ma : Nat) (a_bu : Nat) (a_wo : Nat) (a_od : Nat) (a_rs : Nat) (a_ca : Nat) (a_cm : Nat) (a_op : Nat) (a_ki : Nat) (a_tg : Nat) (a_fi : Nat) (a_se : Nat) (a_oc : Nat) (a_cp : Nat) (a_pl : Nat) (a_ju : Nat) (a_out : Nat) (r_md : Nat → Int32) (r_ma : Nat → Int32) (r_wo : Nat → Int32) (r_op : Nat → Int32) (r_ki : Nat → Int32) (r_tg : Nat → Int32) (r_fi : Nat → Int32) (r_se : Nat → Int32) (r_oc : Nat → Int32) (r_cp : Nat → Int32) (r_out : Nat → Int64) : va_W := [kO a_md 6 [.ref a_co, .ref a_ma, .ref a_op, .ref a_pl, .ref a_ju, .int (r_md 5), .int (r_md 6)], kO a_ma 3 [.ref a_co, .ref a_lat, .ref a_bu, .ref a_wo, .ref a_od, .ref a_rs, .ref a_ca, .ref a_cm, .int (r_ma 8), .int (r_ma 9), .int (r_ma 10), .int (r_ma 11), .int (r_ma 12), .int (r_ma 13), .int (r_ma 14), .int (r_ma 15)], kI g a_wo 72 r_wo, kO a_op 4 [.ref a_ki, .ref a_tg, .ref a_fi, .ref a_se, .ref a_oc, .ref a_cp, .int (r_op 6)], kI g a_ki 20 r_ki, kI g a_tg 20 r_tg, kI g a_fi 20 r_fi, kI g a_se 20 r_se, kI g a_oc 20 r_oc, kI g a_cp 72 r_cp, kJ g a_out 1 r_out]
abbrev b_La_done : ByteArray := method_10_code
abbrev y_La_done : MethodName := ⟨"MoveDeskLaw", "done", "(LMoveDesk;I[J)I"⟩
theorem hs_La_done : y_La_done.cls ≠ "java/lang/invoke/MethodHandle" ∧ y_La_done.cls ≠ "java/lang/invoke/VarHandle" ∧ (parseMethodDescriptor y_La_done.desc).map (fun d => d.parameters.length) = some 3 := by decide +kernel
theorem d_La_done_0 : decode b_La_done 0 = .ok (.aload_n 2, 1) := by decide +kernel
theorem d_La_done_1 : decode b_La_done 1 = .ok (.iconst 0, 1) := by decide +kernel
theorem d_La_done_2 : decode b_La_done 2 = .ok (.aload_n 0, 1) := by decide +kernel
theorem d_La_done_3 : decode b_La_done 3 = .ok (.iload_n 1, 1) := by decide +kernel
theorem d_La_done_4 : decode b_La_done 4 = .ok (.invokevirtual 44, 3) := by decide +kernel
theorem d_La_done_7 : decode b_La_done 7 = .ok (.i2l, 1) := by decide +kernel
theorem d_La_done_8 : decode b_La_done 8 = .ok (.lastore, 1) := by decide +kernel
theorem d_La_done_9 : decode b_La_done 9 = .ok (.goto 6, 3) := by decide +kernel
theorem d_La_done_12 : decode b_La_done 12 = .ok (.astore_n 3, 1) := by decide +kernel
theorem d_La_done_13 : decode b_La_done 13 = .ok (.iconst 1, 1) := by decide +kernel
theorem d_La_done_14 : decode b_La_done 14 = .ok (.ireturn, 1) := by decide +kernel
theorem d_La_done_15 : decode b_La_done 15 = .ok (.iconst 0, 1) := by decide +kernel
theorem d_La_done_16 : decode b_La_done 16 = .ok (.ireturn, 1) := by decide +kernel
def f_La_move (r_md : Nat → Int32) (r_co : Nat → Int32) (r_ta : Nat → Int32) (r_gu : Nat → Int32) (r_so : Nat → Int32) (r_cn : Nat → Int32) (r_de : Nat → Int32) (v1 : Int32) (v2 : Int32) (v3 : Int32) (v4 : Int32) (v5 : Int32) (v6 : Int32) : Option (Int32 × (Nat → Int32) × (Nat → Int32) × (Nat → Int32) × (Nat → Int32) × (Nat → Int32)) :=
  (f_Md_move r_md r_co r_ta r_gu r_so r_cn r_de v1 v2 v3 v4 v5 v6).bind fun y1 =>
  if y1.1 = 0 then
    some (0, y1.2.1, y1.2.2.1, y1.2.2.2.1, y1.2.2.2.2.1, y1.2.2.2.2.2)
  else
    if y1.1 = 1 then
      some (1, y1.2.1, y1.2.2.1, y1.2.2.2.1, y1.2.2.2.2.1, y1.2.2.2.2.2)
    else
      if y1.1 = 2 then
        some (2, y1.2.1, y1.2.2.1, y1.2.2.2.1, y1.2.2.2.2.1, y1.2.2.2.2.2)
      else
        none
def f_La_free (r_md : Nat → Int32) (r_co : Nat → Int32) (r_ta : Nat → Int32) (r_out : Nat → Int64) (v1 : Int32) (v2 : Int32) : Option (Int32 × (Nat → Int32) × (Nat → Int64)) :=
  (f_Md_free r_md r_co r_ta v1 v2).bind fun y1 =>
  if y1.1 = 0 then
    if y1.2.1 = 0 then
      ck 0 1 <|
      some (0, y1.2.2, vp_updL r_out (0 : Int32).toNatClampNeg (0 : Int64))
    else
      ck 0 1 <|
      some (0, y1.2.2, vp_updL r_out (0 : Int32).toNatClampNeg (1 : Int64))
  else
    if y1.1 = 1 then
      some (1, y1.2.2, r_out)
    else
      none
def f_La_operation (r_md : Nat → Int32) (r_op : Nat → Int32) (r_ki : Nat → Int32) (r_tg : Nat → Int32) (r_fi : Nat → Int32) (r_se : Nat → Int32) (r_oc : Nat → Int32) (r_out : Nat → Int64) (v1 : Int32) (v2 : Int32) (v3 : Int32) (v4 : Int32) (v5 : Int32) : Option (Int32 × (Nat → Int32) × (Nat → Int32) × (Nat → Int32) × (Nat → Int32) × (Nat → Int32) × (Nat → Int32) × (Nat → Int64)) :=
  (f_Md_operation r_md r_op r_ki r_tg r_fi r_se r_oc v1 v2 v3 v4 v5).bind fun y1 =>
  if y1.1 = 0 then
    ck 0 1 <|
    some (0, y1.2.2.1, y1.2.2.2.1, y1.2.2.2.2.1, y1.2.2.2.2.2.1, y1.2.2.2.2.2.2.1, y1.2.2.2.2.2.2.2, vp_updL r_out (0 : Int32).toNatClampNeg y1.2.1.toInt64)
  else
    if y1.1 = 1 then
      some (1, y1.2.2.1, y1.2.2.2.1, y1.2.2.2.2.1, y1.2.2.2.2.2.1, y1.2.2.2.2.2.2.1, y1.2.2.2.2.2.2.2, r_out)
    else
      if y1.1 = 2 then
        some (2, y1.2.2.1, y1.2.2.2.1, y1.2.2.2.2.1, y1.2.2.2.2.2.1, y1.2.2.2.2.2.2.1, y1.2.2.2.2.2.2.2, r_out)
      else
        none
def f_La_compile (r_md : Nat → Int32) (r_lat : Nat → Int32) (r_co : Nat → Int32) (r_ta : Nat → Int32) (r_gu : Nat → Int32) (r_so : Nat → Int32) (r_cn : Nat → Int32) (r_de : Nat → Int32) (r_op : Nat → Int32) (r_ki : Nat → Int32) (r_tg : Nat → Int32) (r_fi : Nat → Int32) (r_se : Nat → Int32) (r_oc : Nat → Int32) (r_bs : Nat → Int32) (r_rr : Nat → Int32) (r_hr : Nat → Int32) (r_lw : Nat → Int32) (r_lr : Nat → Int32) (r_lt : Nat → Int32) (r_lm : Nat → Int32) (r_tc : Nat → Int32) (r_rc : Nat → Int32) (r_out : Nat → Int64)  : Option (Int32 × (Nat → Int32) × (Nat → Int32) × (Nat → Int32) × (Nat → Int32) × (Nat → Int32) × (Nat → Int32) × (Nat → Int32) × (Nat → Int32) × (Nat → Int32) × (Nat → Int32) × (Nat → Int32) × (Nat → Int32) × (Nat → Int32) × (Nat → Int32) × (Nat → Int64)) :=
  (f_Md_compile r_md r_lat r_co r_ta r_gu r_so r_cn r_de r_op r_ki r_tg r_fi r_se r_oc r_bs r_rr r_hr r_lw r_lr r_lt r_lm r_tc r_rc).bind fun y1 =>
  if y1.1 = 0 then
    ck 0 1 <|
    some (0, y1.2.2.1, y1.2.2.2.1, y1.2.2.2.2.1, y1.2.2.2.2.2.1, y1.2.2.2.2.2.2.1, y1.2.2.2.2.2.2.2.1, y1.2.2.2.2.2.2.2.2.1, y1.2.2.2.2.2.2.2.2.2.1, y1.2.2.2.2.2.2.2.2.2.2.1, y1.2.2.2.2.2.2.2.2.2.2.2.1, y1.2.2.2.2.2.2.2.2.2.2.2.2.1, y1.2.2.2.2.2.2.2.2.2.2.2.2.2.1, y1.2.2.2.2.2.2.2.2.2.2.2.2.2.2.1, y1.2.2.2.2.2.2.2.2.2.2.2.2.2.2.2, vp_updL r_out (0 : Int32).toNatClampNeg y1.2.1.toInt64)
  else
    if y1.1 = 1 then
      some (1, y1.2.2.1, y1.2.2.2.1, y1.2.2.2.2.1, y1.2.2.2.2.2.1, y1.2.2.2.2.2.2.1, y1.2.2.2.2.2.2.2.1, y1.2.2.2.2.2.2.2.2.1, y1.2.2.2.2.2.2.2.2.2.1, y1.2.2.2.2.2.2.2.2.2.2.1, y1.2.2.2.2.2.2.2.2.2.2.2.1, y1.2.2.2.2.2.2.2.2.2.2.2.2.1, y1.2.2.2.2.2.2.2.2.2.2.2.2.2.1, y1.2.2.2.2.2.2.2.2.2.2.2.2.2.2.1, y1.2.2.2.2.2.2.2.2.2.2.2.2.2.2.2, r_out)
    else
      none
def f_La_run (r_md : Nat → Int32) (r_lat : Nat → Int32) (r_co : Nat → Int32) (r_ta : Nat → Int32) (r_gu : Nat → Int32) (r_so : Nat → Int32) (r_cn : Nat → Int32) (r_de : Nat → Int32) (r_ma : Nat → Int32) (r_bu : Nat → Int32) (r_wo : Nat → Int32) (r_od : Nat → Int32) (r_rs : Nat → Int32) (r_ca : Nat → Int32) (r_cm : Nat → Int32) (r_out : Nat → Int64) (v1 : Int32) : Option (Int32 × (Nat → Int32) × (Nat → Int32) × (Nat → Int32) × (Nat → Int32) × (Nat → Int32) × (Nat → Int32) × (Nat → Int32) × (Nat → Int32) × (Nat → Int64)) :=
  (f_Md_run r_md r_lat r_co r_ta r_gu r_so r_cn r_de r_ma r_bu r_wo r_od r_rs r_ca r_cm v1).bind fun y1 =>
  if y1.1 = 0 then
    ck 0 1 <|
    some (0, y1.2.2.1, y1.2.2.2.1, y1.2.2.2.2.1, y1.2.2.2.2.2.1, y1.2.2.2.2.2.2.1, y1.2.2.2.2.2.2.2.1, y1.2.2.2.2.2.2.2.2.1, y1.2.2.2.2.2.2.2.2.2, vp_updL r_out (0 : Int32).toNatClampNeg y1.2.1.toInt64)
  else
    if y1.1 = 1 then
      some (1, y1.2.2.1, y1.2.2.2.1, y1.2.2.2.2.1, y1.2.2.2.2.2.1, y1.2.2.2.2.2.2.1, y1.2.2.2.2.2.2.2.1, y1.2.2.2.2.2.2.2.2.1, y1.2.2.2.2.2.2.2.2.2, r_out)
    else
      none
def f_La_poke (r_md : Nat → Int32) (r_ma : Nat → Int32) (r_wo : Nat → Int32) (v1 : Int32) (v2 : Int32) : Option (Int32 × (Nat → Int32)) :=
  (f_Md_poke r_md r_ma r_wo v1 v2).bind fun y1 =>
  if y1.1 = 0 then
    some (0, y1.2)
  else
    if y1.1 = 1 then
      some (1, y1.2)
    else
      none
def f_La_peek (r_md : Nat → Int32) (r_ma : Nat → Int32) (r_wo : Nat → Int32) (r_out : Nat → Int64) (v1 : Int32) : Option (Int32 × (Nat → Int64)) :=
  (f_Md_peek r_md r_ma r_wo v1).bind fun y1 =>
  if y1.1 = 0 then
    ck 0 1 <|
    some (0, vp_updL r_out (0 : Int32).toNatClampNeg y1.2.toInt64)
  else
    if y1.1 = 1 then
      some (1, r_out)
    else
      none
def f_La_done (r_md : Nat → Int32) (r_ma : Nat → Int32) (r_wo : Nat → Int32) (r_op : Nat → Int32) (r_ki : Nat → Int32) (r_tg : Nat → Int32) (r_fi : Nat → Int32) (r_se : Nat → Int32) (r_oc : Nat → Int32) (r_cp : Nat → Int32) (r_out : Nat → Int64) (v1 : Int32) : Option (Int32 × (Nat → Int32) × (Nat → Int64)) :=
  (f_Md_done r_md r_ma r_wo r_op r_ki r_tg r_fi r_se r_oc r_cp v1).bind fun y1 =>
  if y1.1 = 0 then
    ck 0 1 <|
    some (0, y1.2.2, vp_updL r_out (0 : Int32).toNatClampNeg y1.2.1.toInt64)
  else
    if y1.1 = 1 then
      some (1, y1.2.2, r_out)
    else
      none
abbrev rm_La_move : Room := { frames := 7, cells := 1, slots := 6, locals := 108 }
set_option maxHeartbeats 4000000 in
set_option maxRecDepth 100000 in
theorem c_La_move (l : Launch) (htr : ∀ e, l.admits e → e.platform.stackTraces = false) (g : GT) (a_md : Nat) (a_co : Nat) (a_ta : Nat) (a_gu : Nat) (a_so : Nat) (a_cn : Nat) (a_de : Nat) (a_ma : Nat) (a_op : Nat) (a_pl : Nat) (a_ju : Nat) (r_md : Nat → Int32) (r_co : Nat → Int32) (r_ta : Nat → Int32) (r_gu : Nat → Int32) (r_so : Nat → Int32) (r_cn : Nat → Int32) (r_de : Nat → Int32) (v1 : Int32) (v2 : Int32) (v3 : Int32) (v4 : Int32) (v5 : Int32) (v6 : Int32) (y : Int32 × (Nat → Int32) × (Nat → Int32) × (Nat → Int32) × (Nat → Int32) × (Nat → Int32)) (hy : some y = f_La_move r_md r_co r_ta r_gu r_so r_cn r_de v1 v2 v3 v4 v5 v6) : CtM l y_La_move (.codeWith y_La_move b_La_move 8 (some .int) [(0, 13, 16, 13), (0, 13, 20, 15)]) rm_La_move g [.ref a_md, .int v1, .int v2, .int v3, .int v4, .int v5, .int v6] (w_md_7_922b g a_md a_co a_ta a_gu a_so a_cn a_de a_ma a_op a_pl a_ju r_md r_co r_ta r_gu r_so r_cn r_de) (w_md_7_922b g a_md a_co a_ta a_gu a_so a_cn a_de a_ma a_op a_pl a_ju r_md r_co y.2.1 y.2.2.1 y.2.2.2.1 y.2.2.2.2.1 y.2.2.2.2.2) (some (.int y.1)) 1 6 := by
  refine ct_inW (C := "MoveDeskLaw") rfl (by decide) (Nat.le_of_ble_eq_true rfl) (fun p e s m below meth c A ls M htab hP hD hS hl => ?_)
  obtain ⟨hx, hb, hr, hml, hown, hts, hlocks, hA, hK, hG⟩ := id M
  have hl : lv_has ls 8 [(0, .ref a_md), (1, .int v1), (2, .int v2), (3, .int v3), (4, .int v4), (5, .int v5), (6, .int v6)] := hl
  have hE := hy
  rw [f_La_move] at hE
  refine lv_aload_n hx hb d_La_move_0 rfl (lv_at hl 0 rfl) ?_
  refine lv_iload_n hx hb d_La_move_1 rfl (lv_at hl 1 rfl) ?_
  refine lv_iload_n hx hb d_La_move_2 rfl (lv_at hl 2 rfl) ?_
  refine lv_iload_n hx hb d_La_move_3 rfl (lv_at hl 3 rfl) ?_
  refine lv_iload hx hb d_La_move_4 (lv_at hl 4 rfl) ?_
  refine lv_iload hx hb d_La_move_6 (lv_at hl 5 rfl) ?_
  refine lv_iload hx hb d_La_move_8 (lv_at hl 6 rfl) ?_
  obtain ⟨y1, hy1, hE⟩ := bd_at hE
  by_cases c2 : y1.1 = 0
  · have hE := it_t hE c2
    refine kV (C := "MoveDesk") (index := 7) (As := [.int v1, .int v2, .int v3, .int v4, .int v5, .int v6]) (rest := []) (ws2 := (w_md_7_922b g a_md a_co a_ta a_gu a_so a_cn a_de a_ma a_op a_pl a_ju r_md r_co y1.2.1 y1.2.2.1 y1.2.2.2.1 y1.2.2.2.2.1 y1.2.2.2.2.2)) M hP hD hS hl.1 (c_Md_move l g a_md a_co a_ta a_gu a_so a_cn a_de a_ma a_op a_pl a_ju r_md r_co r_ta r_gu r_so r_cn r_de v1 v2 v3 v4 v5 v6 y1 hy1 c2) m_452 m_453 m_454 m_1 m_455 hd_Md_move rfl rfl rfl ⟨by decide, by decide⟩ ⟨by decide, by decide⟩ 6 0 rfl rfl rfl [0, 1, 2, 3, 4, 5, 6] [] [0, 1, 2, 3, 4, 5, 6] rfl rfl rfl rfl (by decide) rfl rfl rfl (Nat.le_of_ble_eq_true rfl) d_La_move_10 (fun H locs hP hD hS => ?_)
    refine W.eq (g2 := F0 m 13 ls []) rfl ?_
    refine lv_goto (tgt := 24) hx hb d_La_move_13 (by decide) ?_
    refine lv_iconst (v := 0) hx hb d_La_move_24 (by decide) ?_
    have hE := Option.some.inj hE
    rw [hE]
    refine W.widen (k := 1) (n := 6) (by omega) (by omega) ?_
    exact W.iret (v := 0) hx hb hr (fun t ht hW => ⟨⟨rfl, by rw [ht]; exact hP, va_K.moved hW.alike hK, hD⟩, hS.F ht⟩) hS.2.2 d_La_move_25 hlocks
  · have hE := it_f hE c2
    by_cases c3 : y1.1 = 1
    · have hE := it_t hE c3
      refine kVT (C := "MoveDesk") (cls := "java/lang/IndexOutOfBoundsException") (hpc := 16) (index := 7) (As := [.int v1, .int v2, .int v3, .int v4, .int v5, .int v6]) (rest := []) (ws2 := (w_md_7_922b g a_md a_co a_ta a_gu a_so a_cn a_de a_ma a_op a_pl a_ju r_md r_co y1.2.1 y1.2.2.1 y1.2.2.2.1 y1.2.2.2.2.1 y1.2.2.2.2.2)) M hP hD hS hl.1 (t1_Md_move l htr g a_md a_co a_ta a_gu a_so a_cn a_de a_ma a_op a_pl a_ju r_md r_co r_ta r_gu r_so r_cn r_de v1 v2 v3 v4 v5 v6 y1 hy1 c3) m_452 m_453 m_454 m_1 m_455 hd_Md_move rfl rfl rfl ⟨by decide, by decide⟩ ⟨by decide, by decide⟩ 6 0 rfl rfl rfl [0, 1, 2, 3, 4, 5, 6] [] [0, 1, 2, 3, 4, 5, 6] rfl rfl rfl rfl (by decide) rfl rfl rfl (Nat.le_of_ble_eq_true rfl) d_La_move_10 (kf_first M htab (by decide) (by decide) m_450 (List.mem_of_getElem? (i := 0) rfl)) (fun a4 H locs hP hD hS => ?_)
      refine lv_astore (lv' := [(7, .ref a4), (0, .ref a_md), (1, .int v1), (2, .int v2), (3, .int v3), (4, .int v4), (5, .int v5), (6, .int v6)]) hx hb d_La_move_16 hl (by decide) rfl (fun ls hl => ?_)
      refine lv_iconst (v := 1) hx hb d_La_move_18 (by decide) ?_
      have hE := Option.some.inj hE
      rw [hE]
      refine W.widen (k := 1) (n := 6) (by omega) (by omega) ?_
      exact W.iret (v := 1) hx hb hr (fun t ht hW => ⟨⟨rfl, by rw [ht]; exact hP, va_K.moved hW.alike hK, hD⟩, hS.F ht⟩) hS.2.2 d_La_move_19 hlocks
    · have hE := it_f hE c3
      by_cases c5 : y1.1 = 2
      · have hE := it_t hE c5
        refine kVT (C := "MoveDesk") (cls := "java/lang/IllegalArgumentException") (hpc := 20) (index := 7) (As := [.int v1, .int v2, .int v3, .int v4, .int v5, .int v6]) (rest := []) (ws2 := (w_md_7_922b g a_md a_co a_ta a_gu a_so a_cn a_de a_ma a_op a_pl a_ju r_md r_co y1.2.1 y1.2.2.1 y1.2.2.2.1 y1.2.2.2.2.1 y1.2.2.2.2.2)) M hP hD hS hl.1 (t2_Md_move l htr g a_md a_co a_ta a_gu a_so a_cn a_de a_ma a_op a_pl a_ju r_md r_co r_ta r_gu r_so r_cn r_de v1 v2 v3 v4 v5 v6 y1 hy1 c5) m_452 m_453 m_454 m_1 m_455 hd_Md_move rfl rfl rfl ⟨by decide, by decide⟩ ⟨by decide, by decide⟩ 6 0 rfl rfl rfl [0, 1, 2, 3, 4, 5, 6] [] [0, 1, 2, 3, 4, 5, 6] rfl rfl rfl rfl (by decide) rfl rfl rfl (Nat.le_of_ble_eq_true rfl) d_La_move_10 (kf_second M htab (by decide) (by decide) m_450 hG.2.2.2.2.1.2.2.2.1 (by decide) (by decide) m_451 (List.mem_of_getElem? (i := 1) rfl)) (fun a6 H locs hP hD hS => ?_)
        refine lv_astore (lv' := [(7, .ref a6), (0, .ref a_md), (1, .int v1), (2, .int v2), (3, .int v3), (4, .int v4), (5, .int v5), (6, .int v6)]) hx hb d_La_move_20 hl (by decide) rfl (fun ls hl => ?_)
        refine lv_iconst (v := 2) hx hb d_La_move_22 (by decide) ?_
        have hE := Option.some.inj hE
        rw [hE]
        refine W.widen (k := 1) (n := 6) (by omega) (by omega) ?_
        exact W.iret (v := 2) hx hb hr (fun t ht hW => ⟨⟨rfl, by rw [ht]; exact hP, va_K.moved hW.alike hK, hD⟩, hS.F ht⟩) hS.2.2 d_La_move_23 hlocks
      · have hE := it_f hE c5
        cases hE
abbrev rm_La_free : Room := { frames := 7, cells := 1, slots := 6, locals := 104 }
set_option maxHeartbeats 4000000 in
set_option maxRecDepth 100000 in
theorem c_La_free (l : Launch) (htr : ∀ e, l.admits e → e.platform.stackTraces = false) (g : GT) (a_md : Nat) (a_co : Nat) (a_ta : Nat) (a_gu : Nat) (a_so : Nat) (a_cn : Nat) (a_de : Nat) (a_ma : Nat) (a_op : Nat) (a_pl : Nat) (a_ju : Nat) (a_out : Nat) (r_md : Nat → Int32) (r_co : Nat → Int32) (r_ta : Nat → Int32) (r_out : Nat → Int64) (v1 : Int32) (v2 : Int32) (y : Int32 × (Nat → Int32) × (Nat → Int64)) (hy : some y = f_La_free r_md r_co r_ta r_out v1 v2) : CtM l y_La_free (.codeWith y_La_free b_La_free 5 (some .int) [(0, 17, 20, 13)]) rm_La_free g [.ref a_md, .int v1, .int v2, .ref a_out] (w_md_co_ta_out g a_md a_co a_ta a_gu a_so a_cn a_de a_ma a_op a_pl a_ju a_out r_md r_co r_ta r_out) (w_md_co_ta_out g a_md a_co a_ta a_gu a_so a_cn a_de a_ma a_op a_pl a_ju a_out r_md r_co y.2.1 y.2.2) (some (.int y.1)) 1 6 := by
  refine ct_inW (C := "MoveDeskLaw") rfl (by decide) (Nat.le_of_ble_eq_true rfl) (fun p e s m below meth c A ls M htab hP hD hS hl => ?_)
  obtain ⟨hx, hb, hr, hml, hown, hts, hlocks, hA, hK, hG⟩ := id M
  have hl : lv_has ls 5 [(0, .ref a_md), (1, .int v1), (2, .int v2), (3, .ref a_out)] := hl
  have hE := hy
  rw [f_La_free] at hE
  refine lv_aload_n hx hb d_La_free_0 rfl (lv_at hl 3 rfl) ?_
  refine lv_iconst (v := 0) hx hb d_La_free_1 (by decide) ?_
  refine lv_aload_n hx hb d_La_free_2 rfl (lv_at hl 0 rfl) ?_
  refine lv_iload_n hx hb d_La_free_3 rfl (lv_at hl 1 rfl) ?_
  refine lv_iload_n hx hb d_La_free_4 rfl (lv_at hl 2 rfl) ?_
  obtain ⟨y1, hy1, hE⟩ := bd_at hE
  by_cases c2 : y1.1 = 0
  · have hE := it_t hE c2
    refine kV (C := "MoveDesk") (index := 17) (As := [.int v1, .int v2]) (rest := [.int 0, .ref a_out]) (ws2 := (w_md_co_ta_out g a_md a_co a_ta a_gu a_so a_cn a_de a_ma a_op a_pl a_ju a_out r_md r_co y1.2.2 r_out)) M hP hD hS hl.1 (c_Md_free l g a_md a_co a_ta a_gu a_so a_cn a_de a_ma a_op a_pl a_ju r_md r_co r_ta v1 v2 y1 hy1 c2) m_545 m_546 m_547 m_1 m_548 hd_Md_free rfl rfl rfl ⟨by decide, by decide⟩ ⟨by decide, by decide⟩ 6 0 rfl rfl rfl [0, 1, 2] [3] [1, 2, 3, 0] rfl rfl rfl rfl (by decide) rfl rfl rfl (Nat.le_of_ble_eq_true rfl) d_La_free_5 (fun H locs hP hD hS => ?_)
    refine W.eq (g2 := F0 m 8 ls [.int y1.2.1, .int 0, .ref a_out]) rfl ?_
    refine lv_if_eq (tgt := 15) hx hb d_La_free_8 (by decide) (fun c3 => ?_) (fun c3 => ?_)
    · have hE := it_t hE c3
      refine lv_lconst (v := 0) hx hb d_La_free_15 (by decide) ?_
      have ⟨h4, hE⟩ := ck_at hE
      refine va_last hx hb hK hP hD hS 3 2 rfl rfl h4 d_La_free_16 (fun H locs hP hD hS => ?_)
      have hP : va_P g.1 classes (w_md_co_ta_out g a_md a_co a_ta a_gu a_so a_cn a_de a_ma a_op a_pl a_ju a_out r_md r_co y1.2.2 (vp_updL r_out (0 : Int32).toNatClampNeg (0 : Int64))) H := hP
      have hD : va_D A (w_md_co_ta_out g a_md a_co a_ta a_gu a_so a_cn a_de a_ma a_op a_pl a_ju a_out r_md r_co y1.2.2 (vp_updL r_out (0 : Int32).toNatClampNeg (0 : Int64))) := hD
      refine lv_goto (tgt := 24) hx hb d_La_free_17 (by decide) ?_
      refine lv_iconst (v := 0) hx hb d_La_free_24 (by decide) ?_
      have hE := Option.some.inj hE
      rw [hE]
      refine W.widen (k := 1) (n := 6) (by omega) (by omega) ?_
      exact W.iret (v := 0) hx hb hr (fun t ht hW => ⟨⟨rfl, by rw [ht]; exact hP, va_K.moved hW.alike hK, hD⟩, hS.F ht⟩) hS.2.2 d_La_free_25 hlocks
    · have hE := it_f hE c3
      refine lv_lconst (v := 1) hx hb d_La_free_11 (by decide) ?_
      refine lv_goto (tgt := 16) hx hb d_La_free_12 (by decide) ?_
      have ⟨h5, hE⟩ := ck_at hE
      refine va_last hx hb hK hP hD hS 3 2 rfl rfl h5 d_La_free_16 (fun H locs hP hD hS => ?_)
      have hP : va_P g.1 classes (w_md_co_ta_out g a_md a_co a_ta a_gu a_so a_cn a_de a_ma a_op a_pl a_ju a_out r_md r_co y1.2.2 (vp_updL r_out (0 : Int32).toNatClampNeg (1 : Int64))) H := hP
      have hD : va_D A (w_md_co_ta_out g a_md a_co a_ta a_gu a_so a_cn a_de a_ma a_op a_pl a_ju a_out r_md r_co y1.2.2 (vp_updL r_out (0 : Int32).toNatClampNeg (1 : Int64))) := hD
      refine lv_goto (tgt := 24) hx hb d_La_free_17 (by decide) ?_
      refine lv_iconst (v := 0) hx hb d_La_free_24 (by decide) ?_
      have hE := Option.some.inj hE
      rw [hE]
      refine W.widen (k := 1) (n := 6) (by omega) (by omega) ?_
      exact W.iret (v := 0) hx hb hr (fun t ht hW => ⟨⟨rfl, by rw [ht]; exact hP, va_K.moved hW.alike hK, hD⟩, hS.F ht⟩) hS.2.2 d_La_free_25 hlocks
  · have hE := it_f hE c2
    by_cases c6 : y1.1 = 1
    · have hE := it_t hE c6
      refine kVT (C := "MoveDesk") (cls := "java/lang/IndexOutOfBoundsException") (hpc := 20) (index := 17) (As := [.int v1, .int v2]) (rest := [.int 0, .ref a_out]) (ws2 := (w_md_co_ta_out g a_md a_co a_ta a_gu a_so a_cn a_de a_ma a_op a_pl a_ju a_out r_md r_co y1.2.2 r_out)) M hP hD hS hl.1 (t1_Md_free l htr g a_md a_co a_ta a_gu a_so a_cn a_de a_ma a_op a_pl a_ju r_md r_co r_ta v1 v2 y1 hy1 c6) m_545 m_546 m_547 m_1 m_548 hd_Md_free rfl rfl rfl ⟨by decide, by decide⟩ ⟨by decide, by decide⟩ 6 0 rfl rfl rfl [0, 1, 2] [3] [1, 2, 3, 0] rfl rfl rfl rfl (by decide) rfl rfl rfl (Nat.le_of_ble_eq_true rfl) d_La_free_5 (kf_first M htab (by decide) (by decide) m_450 (List.mem_of_getElem? (i := 0) rfl)) (fun a7 H locs hP hD hS => ?_)
      refine lv_astore (lv' := [(4, .ref a7), (0, .ref a_md), (1, .int v1), (2, .int v2), (3, .ref a_out)]) hx hb d_La_free_20 hl (by decide) rfl (fun ls hl => ?_)
      refine lv_iconst (v := 1) hx hb d_La_free_22 (by decide) ?_
      have hE := Option.some.inj hE
      rw [hE]
      refine W.widen (k := 1) (n := 6) (by omega) (by omega) ?_
      exact W.iret (v := 1) hx hb hr (fun t ht hW => ⟨⟨rfl, by rw [ht]; exact hP, va_K.moved hW.alike hK, hD⟩, hS.F ht⟩) hS.2.2 d_La_free_23 hlocks
    · have hE := it_f hE c6
      cases hE
abbrev rm_La_operation : Room := { frames := 7, cells := 1, slots := 6, locals := 107 }
set_option maxHeartbeats 4000000 in
set_option maxRecDepth 100000 in
theorem c_La_operation (l : Launch) (htr : ∀ e, l.admits e → e.platform.stackTraces = false) (g : GT) (a_md : Nat) (a_co : Nat) (a_ma : Nat) (a_op : Nat) (a_ki : Nat) (a_tg : Nat) (a_fi : Nat) (a_se : Nat) (a_oc : Nat) (a_cp : Nat) (a_pl : Nat) (a_ju : Nat) (a_out : Nat) (r_md : Nat → Int32) (r_op : Nat → Int32) (r_ki : Nat → Int32) (r_tg : Nat → Int32) (r_fi : Nat → Int32) (r_se : Nat → Int32) (r_oc : Nat → Int32) (r_out : Nat → Int64) (v1 : Int32) (v2 : Int32) (v3 : Int32) (v4 : Int32) (v5 : Int32) (y : Int32 × (Nat → Int32) × (Nat → Int32) × (Nat → Int32) × (Nat → Int32) × (Nat → Int32) × (Nat → Int32) × (Nat → Int64)) (hy : some y = f_La_operation r_md r_op r_ki r_tg r_fi r_se r_oc r_out v1 v2 v3 v4 v5) : CtM l y_La_operation (.codeWith y_La_operation b_La_operation 8 (some .int) [(0, 16, 19, 15), (0, 16, 23, 25)]) rm_La_operation g [.ref a_md, .int v1, .int v2, .int v3, .int v4, .int v5, .ref a_out] (w_md_8_4890 g a_md a_co a_ma a_op a_ki a_tg a_fi a_se a_oc a_cp a_pl a_ju a_out r_md r_op r_ki r_tg r_fi r_se r_oc r_out) (w_md_8_4890 g a_md a_co a_ma a_op a_ki a_tg a_fi a_se a_oc a_cp a_pl a_ju a_out r_md y.2.1 y.2.2.1 y.2.2.2.1 y.2.2.2.2.1 y.2.2.2.2.2.1 y.2.2.2.2.2.2.1 y.2.2.2.2.2.2.2) (some (.int y.1)) 1 6 := by
  refine ct_inW (C := "MoveDeskLaw") rfl (by decide) (Nat.le_of_ble_eq_true rfl) (fun p e s m below meth c A ls M htab hP hD hS hl => ?_)
  obtain ⟨hx, hb, hr, hml, hown, hts, hlocks, hA, hK, hG⟩ := id M
  have hl : lv_has ls 8 [(0, .ref a_md), (1, .int v1), (2, .int v2), (3, .int v3), (4, .int v4), (5, .int v5), (6, .ref a_out)] := hl
  have hE := hy
  rw [f_La_operation] at hE
  refine lv_aload hx hb d_La_operation_0 (lv_at hl 6 rfl) ?_
  refine lv_iconst (v := 0) hx hb d_La_operation_2 (by decide) ?_
  refine lv_aload_n hx hb d_La_operation_3 rfl (lv_at hl 0 rfl) ?_
  refine lv_iload_n hx hb d_La_operation_4 rfl (lv_at hl 1 rfl) ?_
  refine lv_iload_n hx hb d_La_operation_5 rfl (lv_at hl 2 rfl) ?_
  refine lv_iload_n hx hb d_La_operation_6 rfl (lv_at hl 3 rfl) ?_
  refine lv_iload hx hb d_La_operation_7 (lv_at hl 4 rfl) ?_
  refine lv_iload hx hb d_La_operation_9 (lv_at hl 5 rfl) ?_
  obtain ⟨y1, hy1, hE⟩ := bd_at hE
  by_cases c2 : y1.1 = 0
  · have hE := it_t hE c2
    refine kV (C := "MoveDesk") (index := 21) (As := [.int v1, .int v2, .int v3, .int v4, .int v5]) (rest := [.int 0, .ref a_out]) (ws2 := (w_md_8_4890 g a_md a_co a_ma a_op a_ki a_tg a_fi a_se a_oc a_cp a_pl a_ju a_out r_md y1.2.2.1 y1.2.2.2.1 y1.2.2.2.2.1 y1.2.2.2.2.2.1 y1.2.2.2.2.2.2.1 y1.2.2.2.2.2.2.2 r_out)) M hP hD hS hl.1 (c_Md_operation l g a_md a_co a_ma a_op a_ki a_tg a_fi a_se a_oc a_cp a_pl a_ju r_md r_op r_ki r_tg r_fi r_se r_oc v1 v2 v3 v4 v5 y1 hy1 c2) m_558 m_559 m_560 m_1 m_561 hd_Md_operation rfl rfl rfl ⟨by decide, by decide⟩ ⟨by decide, by decide⟩ 6 0 rfl rfl rfl [0, 1, 2, 3, 4, 5, 6] [7] [1, 2, 3, 4, 5, 6, 7, 0] rfl rfl rfl rfl (by decide) rfl rfl rfl (Nat.le_of_ble_eq_true rfl) d_La_operation_11 (fun H locs hP hD hS => ?_)
    refine W.eq (g2 := F0 m 14 ls [.int y1.2.1, .int 0, .ref a_out]) rfl ?_
    refine lv_i2l hx hb d_La_operation_14 rfl ?_
    have ⟨h3, hE⟩ := ck_at hE
    refine va_last hx hb hK hP hD hS 7 2 rfl rfl h3 d_La_operation_15 (fun H locs hP hD hS => ?_)
    have hP : va_P g.1 classes (w_md_8_4890 g a_md a_co a_ma a_op a_ki a_tg a_fi a_se a_oc a_cp a_pl a_ju a_out r_md y1.2.2.1 y1.2.2.2.1 y1.2.2.2.2.1 y1.2.2.2.2.2.1 y1.2.2.2.2.2.2.1 y1.2.2.2.2.2.2.2 (vp_updL r_out (0 : Int32).toNatClampNeg y1.2.1.toInt64)) H := hP
    have hD : va_D A (w_md_8_4890 g a_md a_co a_ma a_op a_ki a_tg a_fi a_se a_oc a_cp a_pl a_ju a_out r_md y1.2.2.1 y1.2.2.2.1 y1.2.2.2.2.1 y1.2.2.2.2.2.1 y1.2.2.2.2.2.2.1 y1.2.2.2.2.2.2.2 (vp_updL r_out (0 : Int32).toNatClampNeg y1.2.1.toInt64)) := hD
    refine lv_goto (tgt := 27) hx hb d_La_operation_16 (by decide) ?_
    refine lv_iconst (v := 0) hx hb d_La_operation_27 (by decide) ?_
    have hE := Option.some.inj hE
    rw [hE]
    refine W.widen (k := 1) (n := 6) (by omega) (by omega) ?_
    exact W.iret (v := 0) hx hb hr (fun t ht hW => ⟨⟨rfl, by rw [ht]; exact hP, va_K.moved hW.alike hK, hD⟩, hS.F ht⟩) hS.2.2 d_La_operation_28 hlocks
  · have hE := it_f hE c2
    by_cases c4 : y1.1 = 1
    · have hE := it_t hE c4
      refine kVT (C := "MoveDesk") (cls := "java/lang/IllegalArgumentException") (hpc := 19) (index := 21) (As := [.int v1, .int v2, .int v3, .int v4, .int v5]) (rest := [.int 0, .ref a_out]) (ws2 := (w_md_8_4890 g a_md a_co a_ma a_op a_ki a_tg a_fi a_se a_oc a_cp a_pl a_ju a_out r_md y1.2.2.1 y1.2.2.2.1 y1.2.2.2.2.1 y1.2.2.2.2.2.1 y1.2.2.2.2.2.2.1 y1.2.2.2.2.2.2.2 r_out)) M hP hD hS hl.1 (t1_Md_operation l htr g a_md a_co a_ma a_op a_ki a_tg a_fi a_se a_oc a_cp a_pl a_ju r_md r_op r_ki r_tg r_fi r_se r_oc v1 v2 v3 v4 v5 y1 hy1 c4) m_558 m_559 m_560 m_1 m_561 hd_Md_operation rfl rfl rfl ⟨by decide, by decide⟩ ⟨by decide, by decide⟩ 6 0 rfl rfl rfl [0, 1, 2, 3, 4, 5, 6] [7] [1, 2, 3, 4, 5, 6, 7, 0] rfl rfl rfl rfl (by decide) rfl rfl rfl (Nat.le_of_ble_eq_true rfl) d_La_operation_11 (kf_first M htab (by decide) (by decide) m_451 (List.mem_of_getElem? (i := 1) rfl)) (fun a5 H locs hP hD hS => ?_)
      refine lv_astore (lv' := [(7, .ref a5), (0, .ref a_md), (1, .int v1), (2, .int v2), (3, .int v3), (4, .int v4), (5, .int v5), (6, .ref a_out)]) hx hb d_La_operation_19 hl (by decide) rfl (fun ls hl => ?_)
      refine lv_iconst (v := 1) hx hb d_La_operation_21 (by decide) ?_
      have hE := Option.some.inj hE
      rw [hE]
      refine W.widen (k := 1) (n := 6) (by omega) (by omega) ?_
      exact W.iret (v := 1) hx hb hr (fun t ht hW => ⟨⟨rfl, by rw [ht]; exact hP, va_K.moved hW.alike hK, hD⟩, hS.F ht⟩) hS.2.2 d_La_operation_22 hlocks
    · have hE := it_f hE c4
      by_cases c6 : y1.1 = 2
      · have hE := it_t hE c6
        refine kVT (C := "MoveDesk") (cls := "java/lang/IllegalStateException") (hpc := 23) (index := 21) (As := [.int v1, .int v2, .int v3, .int v4, .int v5]) (rest := [.int 0, .ref a_out]) (ws2 := (w_md_8_4890 g a_md a_co a_ma a_op a_ki a_tg a_fi a_se a_oc a_cp a_pl a_ju a_out r_md y1.2.2.1 y1.2.2.2.1 y1.2.2.2.2.1 y1.2.2.2.2.2.1 y1.2.2.2.2.2.2.1 y1.2.2.2.2.2.2.2 r_out)) M hP hD hS hl.1 (t2_Md_operation l htr g a_md a_co a_ma a_op a_ki a_tg a_fi a_se a_oc a_cp a_pl a_ju r_md r_op r_ki r_tg r_fi r_se r_oc v1 v2 v3 v4 v5 y1 hy1 c6) m_558 m_559 m_560 m_1 m_561 hd_Md_operation rfl rfl rfl ⟨by decide, by decide⟩ ⟨by decide, by decide⟩ 6 0 rfl rfl rfl [0, 1, 2, 3, 4, 5, 6] [7] [1, 2, 3, 4, 5, 6, 7, 0] rfl rfl rfl rfl (by decide) rfl rfl rfl (Nat.le_of_ble_eq_true rfl) d_La_operation_11 (kf_second M htab (by decide) (by decide) m_451 hG.2.2.2.2.1.2.2.2.2 (by decide) (by decide) m_557 (List.mem_of_getElem? (i := 2) rfl)) (fun a7 H locs hP hD hS => ?_)
        refine lv_astore (lv' := [(7, .ref a7), (0, .ref a_md), (1, .int v1), (2, .int v2), (3, .int v3), (4, .int v4), (5, .int v5), (6, .ref a_out)]) hx hb d_La_operation_23 hl (by decide) rfl (fun ls hl => ?_)
        refine lv_iconst (v := 2) hx hb d_La_operation_25 (by decide) ?_
        have hE := Option.some.inj hE
        rw [hE]
        refine W.widen (k := 1) (n := 6) (by omega) (by omega) ?_
        exact W.iret (v := 2) hx hb hr (fun t ht hW => ⟨⟨rfl, by rw [ht]; exact hP, va_K.moved hW.alike hK, hD⟩, hS.F ht⟩) hS.2.2 d_La_operation_26 hlocks
      · have hE := it_f hE c6
        cases hE
abbrev rm_La_compile : Room := { frames := 7, cells := 1, slots := 6, locals := 154 }
set_option maxHeartbeats 4000000 in
set_option maxRecDepth 100000 in
theorem c_La_compile (l : Launch) (htr : ∀ e, l.admits e → e.platform.stackTraces = false) (g : GT) (a_md : Nat) (a_lat : Nat) (a_co : Nat) (a_ta : Nat) (a_gu : Nat) (a_so : Nat) (a_cn : Nat) (a_de : Nat) (a_ma : Nat) (a_op : Nat) (a_ki : Nat) (a_tg : Nat) (a_fi : Nat) (a_se : Nat) (a_oc : Nat) (a_cp : Nat) (a_pl : Nat) (a_bs : Nat) (a_rr : Nat) (a_hr : Nat) (a_lw : Nat) (a_lr : Nat) (a_lt : Nat) (a_lm : Nat) (a_tc : Nat) (a_rc : Nat) (a_ju : Nat) (a_out : Nat) (r_md : Nat → Int32) (r_lat : Nat → Int32) (r_co : Nat → Int32) (r_ta : Nat → Int32) (r_gu : Nat → Int32) (r_so : Nat → Int32) (r_cn : Nat → Int32) (r_de : Nat → Int32) (r_op : Nat → Int32) (r_ki : Nat → Int32) (r_tg : Nat → Int32) (r_fi : Nat → Int32) (r_se : Nat → Int32) (r_oc : Nat → Int32) (r_bs : Nat → Int32) (r_rr : Nat → Int32) (r_hr : Nat → Int32) (r_lw : Nat → Int32) (r_lr : Nat → Int32) (r_lt : Nat → Int32) (r_lm : Nat → Int32) (r_tc : Nat → Int32) (r_rc : Nat → Int32) (r_out : Nat → Int64)  (y : Int32 × (Nat → Int32) × (Nat → Int32) × (Nat → Int32) × (Nat → Int32) × (Nat → Int32) × (Nat → Int32) × (Nat → Int32) × (Nat → Int32) × (Nat → Int32) × (Nat → Int32) × (Nat → Int32) × (Nat → Int32) × (Nat → Int32) × (Nat → Int32) × (Nat → Int64)) (hy : some y = f_La_compile r_md r_lat r_co r_ta r_gu r_so r_cn r_de r_op r_ki r_tg r_fi r_se r_oc r_bs r_rr r_hr r_lw r_lr r_lt r_lm r_tc r_rc r_out) : CtM l y_La_compile (.codeWith y_La_compile b_La_compile 3 (some .int) [(0, 8, 11, 31)]) rm_La_compile g [.ref a_md, .ref a_out] (w_md_25_38b3 g a_md a_lat a_co a_ta a_gu a_so a_cn a_de a_ma a_op a_ki a_tg a_fi a_se a_oc a_cp a_pl a_bs a_rr a_hr a_lw a_lr a_lt a_lm a_tc a_rc a_ju a_out r_md r_lat r_co r_ta r_gu r_so r_cn r_de r_op r_ki r_tg r_fi r_se r_oc r_bs r_rr r_hr r_lw r_lr r_lt r_lm r_tc r_rc r_out) (w_md_25_38b3 g a_md a_lat a_co a_ta a_gu a_so a_cn a_de a_ma a_op a_ki a_tg a_fi a_se a_oc a_cp a_pl a_bs a_rr a_hr a_lw a_lr a_lt a_lm a_tc a_rc a_ju a_out r_md r_lat r_co y.2.1 y.2.2.1 y.2.2.2.1 y.2.2.2.2.1 y.2.2.2.2.2.1 r_op r_ki r_tg r_fi r_se r_oc y.2.2.2.2.2.2.1 y.2.2.2.2.2.2.2.1 y.2.2.2.2.2.2.2.2.1 y.2.2.2.2.2.2.2.2.2.1 y.2.2.2.2.2.2.2.2.2.2.1 y.2.2.2.2.2.2.2.2.2.2.2.1 y.2.2.2.2.2.2.2.2.2.2.2.2.1 y.2.2.2.2.2.2.2.2.2.2.2.2.2.1 y.2.2.2.2.2.2.2.2.2.2.2.2.2.2.1 y.2.2.2.2.2.2.2.2.2.2.2.2.2.2.2) (some (.int y.1)) 1 6 := by
  refine ct_inW (C := "MoveDeskLaw") rfl (by decide) (Nat.le_of_ble_eq_true rfl) (fun p e s m below meth c A ls M htab hP hD hS hl => ?_)
  obtain ⟨hx, hb, hr, hml, hown, hts, hlocks, hA, hK, hG⟩ := id M
  have hl : lv_has ls 3 [(0, .ref a_md), (1, .ref a_out)] := hl
  have hE := hy
  rw [f_La_compile] at hE
  refine lv_aload_n hx hb d_La_compile_0 rfl (lv_at hl 1 rfl) ?_
  refine lv_iconst (v := 0) hx hb d_La_compile_1 (by decide) ?_
  refine lv_aload_n hx hb d_La_compile_2 rfl (lv_at hl 0 rfl) ?_
  obtain ⟨y1, hy1, hE⟩ := bd_at hE
  by_cases c2 : y1.1 = 0
  · have hE := it_t hE c2
    refine kV (C := "MoveDesk") (index := 27) (As := []) (rest := [.int 0, .ref a_out]) (ws2 := (w_md_25_38b3 g a_md a_lat a_co a_ta a_gu a_so a_cn a_de a_ma a_op a_ki a_tg a_fi a_se a_oc a_cp a_pl a_bs a_rr a_hr a_lw a_lr a_lt a_lm a_tc a_rc a_ju a_out r_md r_lat r_co y1.2.2.1 y1.2.2.2.1 y1.2.2.2.2.1 y1.2.2.2.2.2.1 y1.2.2.2.2.2.2.1 r_op r_ki r_tg r_fi r_se r_oc y1.2.2.2.2.2.2.2.1 y1.2.2.2.2.2.2.2.2.1 y1.2.2.2.2.2.2.2.2.2.1 y1.2.2.2.2.2.2.2.2.2.2.1 y1.2.2.2.2.2.2.2.2.2.2.2.1 y1.2.2.2.2.2.2.2.2.2.2.2.2.1 y1.2.2.2.2.2.2.2.2.2.2.2.2.2.1 y1.2.2.2.2.2.2.2.2.2.2.2.2.2.2.1 y1.2.2.2.2.2.2.2.2.2.2.2.2.2.2.2 r_out)) M hP hD hS hl.1 (c_Md_compile l g a_md a_lat a_co a_ta a_gu a_so a_cn a_de a_ma a_op a_ki a_tg a_fi a_se a_oc a_cp a_pl a_bs a_rr a_hr a_lw a_lr a_lt a_lm a_tc a_rc a_ju r_md r_lat r_co r_ta r_gu r_so r_cn r_de r_op r_ki r_tg r_fi r_se r_oc r_bs r_rr r_hr r_lw r_lr r_lt r_lm r_tc r_rc  y1 hy1 c2) m_594 m_595 m_596 m_1 m_597 hd_Md_compile rfl rfl rfl ⟨by decide, by decide⟩ ⟨by decide, by decide⟩ 6 0 rfl rfl rfl [0, 1, 2, 3, 4, 5, 6, 7, 8, 9, 10, 11, 12, 13, 14, 15, 16, 17, 18, 19, 20, 21, 22, 23] [24] [1, 2, 3, 4, 5, 6, 7, 8, 9, 10, 11, 12, 13, 14, 15, 16, 17, 18, 19, 20, 21, 22, 23, 24, 0] rfl rfl rfl rfl (by decide) rfl rfl rfl (Nat.le_of_ble_eq_true rfl) d_La_compile_3 (fun H locs hP hD hS => ?_)
    refine W.eq (g2 := F0 m 6 ls [.int y1.2.1, .int 0, .ref a_out]) rfl ?_
    refine lv_i2l hx hb d_La_compile_6 rfl ?_
    have ⟨h3, hE⟩ := ck_at hE
    refine va_last hx hb hK hP hD hS 24 2 rfl rfl h3 d_La_compile_7 (fun H locs hP hD hS => ?_)
    have hP : va_P g.1 classes (w_md_25_38b3 g a_md a_lat a_co a_ta a_gu a_so a_cn a_de a_ma a_op a_ki a_tg a_fi a_se a_oc a_cp a_pl a_bs a_rr a_hr a_lw a_lr a_lt a_lm a_tc a_rc a_ju a_out r_md r_lat r_co y1.2.2.1 y1.2.2.2.1 y1.2.2.2.2.1 y1.2.2.2.2.2.1 y1.2.2.2.2.2.2.1 r_op r_ki r_tg r_fi r_se r_oc y1.2.2.2.2.2.2.2.1 y1.2.2.2.2.2.2.2.2.1 y1.2.2.2.2.2.2.2.2.2.1 y1.2.2.2.2.2.2.2.2.2.2.1 y1.2.2.2.2.2.2.2.2.2.2.2.1 y1.2.2.2.2.2.2.2.2.2.2.2.2.1 y1.2.2.2.2.2.2.2.2.2.2.2.2.2.1 y1.2.2.2.2.2.2.2.2.2.2.2.2.2.2.1 y1.2.2.2.2.2.2.2.2.2.2.2.2.2.2.2 (vp_updL r_out (0 : Int32).toNatClampNeg y1.2.1.toInt64)) H := hP
    have hD : va_D A (w_md_25_38b3 g a_md a_lat a_co a_ta a_gu a_so a_cn a_de a_ma a_op a_ki a_tg a_fi a_se a_oc a_cp a_pl a_bs a_rr a_hr a_lw a_lr a_lt a_lm a_tc a_rc a_ju a_out r_md r_lat r_co y1.2.2.1 y1.2.2.2.1 y1.2.2.2.2.1 y1.2.2.2.2.2.1 y1.2.2.2.2.2.2.1 r_op r_ki r_tg r_fi r_se r_oc y1.2.2.2.2.2.2.2.1 y1.2.2.2.2.2.2.2.2.1 y1.2.2.2.2.2.2.2.2.2.1 y1.2.2.2.2.2.2.2.2.2.2.1 y1.2.2.2.2.2.2.2.2.2.2.2.1 y1.2.2.2.2.2.2.2.2.2.2.2.2.1 y1.2.2.2.2.2.2.2.2.2.2.2.2.2.1 y1.2.2.2.2.2.2.2.2.2.2.2.2.2.2.1 y1.2.2.2.2.2.2.2.2.2.2.2.2.2.2.2 (vp_updL r_out (0 : Int32).toNatClampNeg y1.2.1.toInt64)) := hD
    refine lv_goto (tgt := 14) hx hb d_La_compile_8 (by decide) ?_
    refine lv_iconst (v := 0) hx hb d_La_compile_14 (by decide) ?_
    have hE := Option.some.inj hE
    rw [hE]
    refine W.widen (k := 1) (n := 6) (by omega) (by omega) ?_
    exact W.iret (v := 0) hx hb hr (fun t ht hW => ⟨⟨rfl, by rw [ht]; exact hP, va_K.moved hW.alike hK, hD⟩, hS.F ht⟩) hS.2.2 d_La_compile_15 hlocks
  · have hE := it_f hE c2
    by_cases c4 : y1.1 = 1
    · have hE := it_t hE c4
      refine kVT (C := "MoveDesk") (cls := "java/lang/UnsupportedOperationException") (hpc := 11) (index := 27) (As := []) (rest := [.int 0, .ref a_out]) (ws2 := (w_md_25_38b3 g a_md a_lat a_co a_ta a_gu a_so a_cn a_de a_ma a_op a_ki a_tg a_fi a_se a_oc a_cp a_pl a_bs a_rr a_hr a_lw a_lr a_lt a_lm a_tc a_rc a_ju a_out r_md r_lat r_co y1.2.2.1 y1.2.2.2.1 y1.2.2.2.2.1 y1.2.2.2.2.2.1 y1.2.2.2.2.2.2.1 r_op r_ki r_tg r_fi r_se r_oc y1.2.2.2.2.2.2.2.1 y1.2.2.2.2.2.2.2.2.1 y1.2.2.2.2.2.2.2.2.2.1 y1.2.2.2.2.2.2.2.2.2.2.1 y1.2.2.2.2.2.2.2.2.2.2.2.1 y1.2.2.2.2.2.2.2.2.2.2.2.2.1 y1.2.2.2.2.2.2.2.2.2.2.2.2.2.1 y1.2.2.2.2.2.2.2.2.2.2.2.2.2.2.1 y1.2.2.2.2.2.2.2.2.2.2.2.2.2.2.2 r_out)) M hP hD hS hl.1 (t1_Md_compile l htr g a_md a_lat a_co a_ta a_gu a_so a_cn a_de a_ma a_op a_ki a_tg a_fi a_se a_oc a_cp a_pl a_bs a_rr a_hr a_lw a_lr a_lt a_lm a_tc a_rc a_ju r_md r_lat r_co r_ta r_gu r_so r_cn r_de r_op r_ki r_tg r_fi r_se r_oc r_bs r_rr r_hr r_lw r_lr r_lt r_lm r_tc r_rc  y1 hy1 c4) m_594 m_595 m_596 m_1 m_597 hd_Md_compile rfl rfl rfl ⟨by decide, by decide⟩ ⟨by decide, by decide⟩ 6 0 rfl rfl rfl [0, 1, 2, 3, 4, 5, 6, 7, 8, 9, 10, 11, 12, 13, 14, 15, 16, 17, 18, 19, 20, 21, 22, 23] [24] [1, 2, 3, 4, 5, 6, 7, 8, 9, 10, 11, 12, 13, 14, 15, 16, 17, 18, 19, 20, 21, 22, 23, 24, 0] rfl rfl rfl rfl (by decide) rfl rfl rfl (Nat.le_of_ble_eq_true rfl) d_La_compile_3 (kf_first M htab (by decide) (by decide) m_593 (List.mem_of_getElem? (i := 3) rfl)) (fun a5 H locs hP hD hS => ?_)
      refine lv_astore_n (lv' := [(2, .ref a5), (0, .ref a_md), (1, .ref a_out)]) hx hb d_La_compile_11 rfl hl (by decide) rfl (fun ls hl => ?_)
      refine lv_iconst (v := 1) hx hb d_La_compile_12 (by decide) ?_
      have hE := Option.some.inj hE
      rw [hE]
      refine W.widen (k := 1) (n := 6) (by omega) (by omega) ?_
      exact W.iret (v := 1) hx hb hr (fun t ht hW => ⟨⟨rfl, by rw [ht]; exact hP, va_K.moved hW.alike hK, hD⟩, hS.F ht⟩) hS.2.2 d_La_compile_13 hlocks
    · have hE := it_f hE c4
      cases hE
abbrev rm_La_run : Room := { frames := 7, cells := 1, slots := 6, locals := 111 }
set_option maxHeartbeats 4000000 in
set_option maxRecDepth 100000 in
theorem c_La_run (l : Launch) (htr : ∀ e, l.admits e → e.platform.stackTraces = false) (g : GT) (a_md : Nat) (a_lat : Nat) (a_co : Nat) (a_ta : Nat) (a_gu : Nat) (a_so : Nat) (a_cn : Nat) (a_de : Nat) (a_ma : Nat) (a_bu : Nat) (a_wo : Nat) (a_od : Nat) (a_rs : Nat) (a_ca : Nat) (a_cm : Nat) (a_op : Nat) (a_pl : Nat) (a_ju : Nat) (a_out : Nat) (r_md : Nat → Int32) (r_lat : Nat → Int32) (r_co : Nat → Int32) (r_ta : Nat → Int32) (r_gu : Nat → Int32) (r_so : Nat → Int32) (r_cn : Nat → Int32) (r_de : Nat → Int32) (r_ma : Nat → Int32) (r_bu : Nat → Int32) (r_wo : Nat → Int32) (r_od : Nat → Int32) (r_rs : Nat → Int32) (r_ca : Nat → Int32) (r_cm : Nat → Int32) (r_out : Nat → Int64) (v1 : Int32) (y : Int32 × (Nat → Int32) × (Nat → Int32) × (Nat → Int32) × (Nat → Int32) × (Nat → Int32) × (Nat → Int32) × (Nat → Int32) × (Nat → Int32) × (Nat → Int64)) (hy : some y = f_La_run r_md r_lat r_co r_ta r_gu r_so r_cn r_de r_ma r_bu r_wo r_od r_rs r_ca r_cm r_out v1) : CtM l y_La_run (.codeWith y_La_run b_La_run 4 (some .int) [(0, 9, 12, 15)]) rm_La_run g [.ref a_md, .int v1, .ref a_out] (w_md_16_9e7d g a_md a_lat a_co a_ta a_gu a_so a_cn a_de a_ma a_bu a_wo a_od a_rs a_ca a_cm a_op a_pl a_ju a_out r_md r_lat r_co r_ta r_gu r_so r_cn r_de r_ma r_bu r_wo r_od r_rs r_ca r_cm r_out) (w_md_16_9e7d g a_md a_lat a_co a_ta a_gu a_so a_cn a_de a_ma a_bu a_wo a_od a_rs a_ca a_cm a_op a_pl a_ju a_out y.2.1 r_lat r_co r_ta r_gu r_so r_cn r_de y.2.2.1 y.2.2.2.1 y.2.2.2.2.1 y.2.2.2.2.2.1 y.2.2.2.2.2.2.1 y.2.2.2.2.2.2.2.1 y.2.2.2.2.2.2.2.2.1 y.2.2.2.2.2.2.2.2.2) (some (.int y.1)) 1 6 := by
  refine ct_inW (C := "MoveDeskLaw") rfl (by decide) (Nat.le_of_ble_eq_true rfl) (fun p e s m below meth c A ls M htab hP hD hS hl => ?_)
  obtain ⟨hx, hb, hr, hml, hown, hts, hlocks, hA, hK, hG⟩ := id M
  have hl : lv_has ls 4 [(0, .ref a_md), (1, .int v1), (2, .ref a_out)] := hl
  have hE := hy
  rw [f_La_run] at hE
  refine lv_aload_n hx hb d_La_run_0 rfl (lv_at hl 2 rfl) ?_
  refine lv_iconst (v := 0) hx hb d_La_run_1 (by decide) ?_
  refine lv_aload_n hx hb d_La_run_2 rfl (lv_at hl 0 rfl) ?_
  refine lv_iload_n hx hb d_La_run_3 rfl (lv_at hl 1 rfl) ?_
  obtain ⟨y1, hy1, hE⟩ := bd_at hE
  by_cases c2 : y1.1 = 0
  · have hE := it_t hE c2
    refine kV (C := "MoveDesk") (index := 33) (As := [.int v1]) (rest := [.int 0, .ref a_out]) (ws2 := (w_md_16_9e7d g a_md a_lat a_co a_ta a_gu a_so a_cn a_de a_ma a_bu a_wo a_od a_rs a_ca a_cm a_op a_pl a_ju a_out y1.2.2.1 r_lat r_co r_ta r_gu r_so r_cn r_de y1.2.2.2.1 y1.2.2.2.2.1 y1.2.2.2.2.2.1 y1.2.2.2.2.2.2.1 y1.2.2.2.2.2.2.2.1 y1.2.2.2.2.2.2.2.2.1 y1.2.2.2.2.2.2.2.2.2 r_out)) M hP hD hS hl.1 (c_Md_run l g a_md a_lat a_co a_ta a_gu a_so a_cn a_de a_ma a_bu a_wo a_od a_rs a_ca a_cm a_op a_pl a_ju r_md r_lat r_co r_ta r_gu r_so r_cn r_de r_ma r_bu r_wo r_od r_rs r_ca r_cm v1 y1 hy1 c2) m_710 m_711 m_712 m_1 m_713 hd_Md_run rfl rfl rfl ⟨by decide, by decide⟩ ⟨by decide, by decide⟩ 6 0 rfl rfl rfl [0, 1, 2, 3, 4, 5, 6, 7, 8, 9, 10, 11, 12, 13, 14] [15] [1, 2, 3, 4, 5, 6, 7, 8, 9, 10, 11, 12, 13, 14, 15, 0] rfl rfl rfl rfl (by decide) rfl rfl rfl (Nat.le_of_ble_eq_true rfl) d_La_run_4 (fun H locs hP hD hS => ?_)
    refine W.eq (g2 := F0 m 7 ls [.int y1.2.1, .int 0, .ref a_out]) rfl ?_
    refine lv_i2l hx hb d_La_run_7 rfl ?_
    have ⟨h3, hE⟩ := ck_at hE
    refine va_last hx hb hK hP hD hS 15 2 rfl rfl h3 d_La_run_8 (fun H locs hP hD hS => ?_)
    have hP : va_P g.1 classes (w_md_16_9e7d g a_md a_lat a_co a_ta a_gu a_so a_cn a_de a_ma a_bu a_wo a_od a_rs a_ca a_cm a_op a_pl a_ju a_out y1.2.2.1 r_lat r_co r_ta r_gu r_so r_cn r_de y1.2.2.2.1 y1.2.2.2.2.1 y1.2.2.2.2.2.1 y1.2.2.2.2.2.2.1 y1.2.2.2.2.2.2.2.1 y1.2.2.2.2.2.2.2.2.1 y1.2.2.2.2.2.2.2.2.2 (vp_updL r_out (0 : Int32).toNatClampNeg y1.2.1.toInt64)) H := hP
    have hD : va_D A (w_md_16_9e7d g a_md a_lat a_co a_ta a_gu a_so a_cn a_de a_ma a_bu a_wo a_od a_rs a_ca a_cm a_op a_pl a_ju a_out y1.2.2.1 r_lat r_co r_ta r_gu r_so r_cn r_de y1.2.2.2.1 y1.2.2.2.2.1 y1.2.2.2.2.2.1 y1.2.2.2.2.2.2.1 y1.2.2.2.2.2.2.2.1 y1.2.2.2.2.2.2.2.2.1 y1.2.2.2.2.2.2.2.2.2 (vp_updL r_out (0 : Int32).toNatClampNeg y1.2.1.toInt64)) := hD
    refine lv_goto (tgt := 15) hx hb d_La_run_9 (by decide) ?_
    refine lv_iconst (v := 0) hx hb d_La_run_15 (by decide) ?_
    have hE := Option.some.inj hE
    rw [hE]
    refine W.widen (k := 1) (n := 6) (by omega) (by omega) ?_
    exact W.iret (v := 0) hx hb hr (fun t ht hW => ⟨⟨rfl, by rw [ht]; exact hP, va_K.moved hW.alike hK, hD⟩, hS.F ht⟩) hS.2.2 d_La_run_16 hlocks
  · have hE := it_f hE c2
    by_cases c4 : y1.1 = 1
    · have hE := it_t hE c4
      refine kVT (C := "MoveDesk") (cls := "java/lang/IllegalArgumentException") (hpc := 12) (index := 33) (As := [.int v1]) (rest := [.int 0, .ref a_out]) (ws2 := (w_md_16_9e7d g a_md a_lat a_co a_ta a_gu a_so a_cn a_de a_ma a_bu a_wo a_od a_rs a_ca a_cm a_op a_pl a_ju a_out y1.2.2.1 r_lat r_co r_ta r_gu r_so r_cn r_de y1.2.2.2.1 y1.2.2.2.2.1 y1.2.2.2.2.2.1 y1.2.2.2.2.2.2.1 y1.2.2.2.2.2.2.2.1 y1.2.2.2.2.2.2.2.2.1 y1.2.2.2.2.2.2.2.2.2 r_out)) M hP hD hS hl.1 (t1_Md_run l htr g a_md a_lat a_co a_ta a_gu a_so a_cn a_de a_ma a_bu a_wo a_od a_rs a_ca a_cm a_op a_pl a_ju r_md r_lat r_co r_ta r_gu r_so r_cn r_de r_ma r_bu r_wo r_od r_rs r_ca r_cm v1 y1 hy1 c4) m_710 m_711 m_712 m_1 m_713 hd_Md_run rfl rfl rfl ⟨by decide, by decide⟩ ⟨by decide, by decide⟩ 6 0 rfl rfl rfl [0, 1, 2, 3, 4, 5, 6, 7, 8, 9, 10, 11, 12, 13, 14] [15] [1, 2, 3, 4, 5, 6, 7, 8, 9, 10, 11, 12, 13, 14, 15, 0] rfl rfl rfl rfl (by decide) rfl rfl rfl (Nat.le_of_ble_eq_true rfl) d_La_run_4 (kf_first M htab (by decide) (by decide) m_451 (List.mem_of_getElem? (i := 1) rfl)) (fun a5 H locs hP hD hS => ?_)
      refine lv_astore_n (lv' := [(3, .ref a5), (0, .ref a_md), (1, .int v1), (2, .ref a_out)]) hx hb d_La_run_12 rfl hl (by decide) rfl (fun ls hl => ?_)
      refine lv_iconst (v := 1) hx hb d_La_run_13 (by decide) ?_
      have hE := Option.some.inj hE
      rw [hE]
      refine W.widen (k := 1) (n := 6) (by omega) (by omega) ?_
      exact W.iret (v := 1) hx hb hr (fun t ht hW => ⟨⟨rfl, by rw [ht]; exact hP, va_K.moved hW.alike hK, hD⟩, hS.F ht⟩) hS.2.2 d_La_run_14 hlocks
    · have hE := it_f hE c4
      cases hE
abbrev rm_La_poke : Room := { frames := 7, cells := 1, slots := 6, locals := 104 }
set_option maxHeartbeats 4000000 in
set_option maxRecDepth 100000 in
theorem c_La_poke (l : Launch) (htr : ∀ e, l.admits e → e.platform.stackTraces = false) (g : GT) (a_md : Nat) (a_lat : Nat) (a_co : Nat) (a_ma : Nat) (a_bu : Nat) (a_wo : Nat) (a_od : Nat) (a_rs : Nat) (a_ca : Nat) (a_cm : Nat) (a_op : Nat) (a_pl : Nat) (a_ju : Nat) (r_md : Nat → Int32) (r_ma : Nat → Int32) (r_wo : Nat → Int32) (v1 : Int32) (v2 : Int32) (y : Int32 × (Nat → Int32)) (hy : some y = f_La_poke r_md r_ma r_wo v1 v2) : CtM l y_La_poke (.codeWith y_La_poke b_La_poke 4 (some .int) [(0, 6, 9, 13)]) rm_La_poke g [.ref a_md, .int v1, .int v2] (w_md_ma_wo g a_md a_lat a_co a_ma a_bu a_wo a_od a_rs a_ca a_cm a_op a_pl a_ju r_md r_ma r_wo) (w_md_ma_wo g a_md a_lat a_co a_ma a_bu a_wo a_od a_rs a_ca a_cm a_op a_pl a_ju r_md r_ma y.2) (some (.int y.1)) 1 6 := by
  refine ct_inW (C := "MoveDeskLaw") rfl (by decide) (Nat.le_of_ble_eq_true rfl) (fun p e s m below meth c A ls M htab hP hD hS hl => ?_)
  obtain ⟨hx, hb, hr, hml, hown, hts, hlocks, hA, hK, hG⟩ := id M
  have hl : lv_has ls 4 [(0, .ref a_md), (1, .int v1), (2, .int v2)] := hl
  have hE := hy
  rw [f_La_poke] at hE
  refine lv_aload_n hx hb d_La_poke_0 rfl (lv_at hl 0 rfl) ?_
  refine lv_iload_n hx hb d_La_poke_1 rfl (lv_at hl 1 rfl) ?_
  refine lv_iload_n hx hb d_La_poke_2 rfl (lv_at hl 2 rfl) ?_
  obtain ⟨y1, hy1, hE⟩ := bd_at hE
  by_cases c2 : y1.1 = 0
  · have hE := it_t hE c2
    refine kV (C := "MoveDesk") (index := 37) (As := [.int v1, .int v2]) (rest := []) (ws2 := (w_md_ma_wo g a_md a_lat a_co a_ma a_bu a_wo a_od a_rs a_ca a_cm a_op a_pl a_ju r_md r_ma y1.2)) M hP hD hS hl.1 (c_Md_poke l g a_md a_lat a_co a_ma a_bu a_wo a_od a_rs a_ca a_cm a_op a_pl a_ju r_md r_ma r_wo v1 v2 y1 hy1 c2) m_774 m_775 m_776 m_1 m_777 hd_Md_poke rfl rfl rfl ⟨by decide, by decide⟩ ⟨by decide, by decide⟩ 6 0 rfl rfl rfl [0, 1, 2] [] [0, 1, 2] rfl rfl rfl rfl (by decide) rfl rfl rfl (Nat.le_of_ble_eq_true rfl) d_La_poke_3 (fun H locs hP hD hS => ?_)
    refine W.eq (g2 := F0 m 6 ls []) rfl ?_
    refine lv_goto (tgt := 12) hx hb d_La_poke_6 (by decide) ?_
    refine lv_iconst (v := 0) hx hb d_La_poke_12 (by decide) ?_
    have hE := Option.some.inj hE
    rw [hE]
    refine W.widen (k := 1) (n := 6) (by omega) (by omega) ?_
    exact W.iret (v := 0) hx hb hr (fun t ht hW => ⟨⟨rfl, by rw [ht]; exact hP, va_K.moved hW.alike hK, hD⟩, hS.F ht⟩) hS.2.2 d_La_poke_13 hlocks
  · have hE := it_f hE c2
    by_cases c3 : y1.1 = 1
    · have hE := it_t hE c3
      refine kVT (C := "MoveDesk") (cls := "java/lang/IndexOutOfBoundsException") (hpc := 9) (index := 37) (As := [.int v1, .int v2]) (rest := []) (ws2 := (w_md_ma_wo g a_md a_lat a_co a_ma a_bu a_wo a_od a_rs a_ca a_cm a_op a_pl a_ju r_md r_ma y1.2)) M hP hD hS hl.1 (t1_Md_poke l htr g a_md a_lat a_co a_ma a_bu a_wo a_od a_rs a_ca a_cm a_op a_pl a_ju r_md r_ma r_wo v1 v2 y1 hy1 c3) m_774 m_775 m_776 m_1 m_777 hd_Md_poke rfl rfl rfl ⟨by decide, by decide⟩ ⟨by decide, by decide⟩ 6 0 rfl rfl rfl [0, 1, 2] [] [0, 1, 2] rfl rfl rfl rfl (by decide) rfl rfl rfl (Nat.le_of_ble_eq_true rfl) d_La_poke_3 (kf_first M htab (by decide) (by decide) m_450 (List.mem_of_getElem? (i := 0) rfl)) (fun a4 H locs hP hD hS => ?_)
      refine lv_astore_n (lv' := [(3, .ref a4), (0, .ref a_md), (1, .int v1), (2, .int v2)]) hx hb d_La_poke_9 rfl hl (by decide) rfl (fun ls hl => ?_)
      refine lv_iconst (v := 1) hx hb d_La_poke_10 (by decide) ?_
      have hE := Option.some.inj hE
      rw [hE]
      refine W.widen (k := 1) (n := 6) (by omega) (by omega) ?_
      exact W.iret (v := 1) hx hb hr (fun t ht hW => ⟨⟨rfl, by rw [ht]; exact hP, va_K.moved hW.alike hK, hD⟩, hS.F ht⟩) hS.2.2 d_La_poke_11 hlocks
    · have hE := it_f hE c3
      cases hE
abbrev rm_La_peek : Room := { frames := 7, cells := 1, slots := 6, locals := 103 }
set_option maxHeartbeats 4000000 in
set_option maxRecDepth 100000 in
theorem c_La_peek (l : Launch) (htr : ∀ e, l.admits e → e.platform.stackTraces = false) (g : GT) (a_md : Nat) (a_lat : Nat) (a_co : Nat) (a_ma : Nat) (a_bu : Nat) (a_wo : Nat) (a_od : Nat) (a_rs : Nat) (a_ca : Nat) (a_cm : Nat) (a_op : Nat) (a_pl : Nat) (a_ju : Nat) (a_out : Nat) (r_md : Nat → Int32) (r_ma : Nat → Int32) (r_wo : Nat → Int32) (r_out : Nat → Int64) (v1 : Int32) (y : Int32 × (Nat → Int64)) (hy : some y = f_La_peek r_md r_ma r_wo r_out v1) : CtM l y_La_peek (.codeWith y_La_peek b_La_peek 4 (some .int) [(0, 9, 12, 13)]) rm_La_peek g [.ref a_md, .int v1, .ref a_out] (w_md_ma_wo_out g a_md a_lat a_co a_ma a_bu a_wo a_od a_rs a_ca a_cm a_op a_pl a_ju a_out r_md r_ma r_wo r_out) (w_md_ma_wo_out g a_md a_lat a_co a_ma a_bu a_wo a_od a_rs a_ca a_cm a_op a_pl a_ju a_out r_md r_ma r_wo y.2) (some (.int y.1)) 1 6 := by
  refine ct_inW (C := "MoveDeskLaw") rfl (by decide) (Nat.le_of_ble_eq_true rfl) (fun p e s m below meth c A ls M htab hP hD hS hl => ?_)
  obtain ⟨hx, hb, hr, hml, hown, hts, hlocks, hA, hK, hG⟩ := id M
  have hl : lv_has ls 4 [(0, .ref a_md), (1, .int v1), (2, .ref a_out)] := hl
  have hE := hy
  rw [f_La_peek] at hE
  refine lv_aload_n hx hb d_La_peek_0 rfl (lv_at hl 2 rfl) ?_
  refine lv_iconst (v := 0) hx hb d_La_peek_1 (by decide) ?_
  refine lv_aload_n hx hb d_La_peek_2 rfl (lv_at hl 0 rfl) ?_
  refine lv_iload_n hx hb d_La_peek_3 rfl (lv_at hl 1 rfl) ?_
  obtain ⟨y1, hy1, hE⟩ := bd_at hE
  by_cases c2 : y1.1 = 0
  · have hE := it_t hE c2
    refine kV (C := "MoveDesk") (index := 41) (As := [.int v1]) (rest := [.int 0, .ref a_out]) (ws2 := (w_md_ma_wo_out g a_md a_lat a_co a_ma a_bu a_wo a_od a_rs a_ca a_cm a_op a_pl a_ju a_out r_md r_ma r_wo r_out)) M hP hD hS hl.1 (c_Md_peek l g a_md a_lat a_co a_ma a_bu a_wo a_od a_rs a_ca a_cm a_op a_pl a_ju r_md r_ma r_wo v1 y1 hy1 c2) m_784 m_785 m_786 m_1 m_787 hd_Md_peek rfl rfl rfl ⟨by decide, by decide⟩ ⟨by decide, by decide⟩ 6 0 rfl rfl rfl [0, 1, 2] [3] [1, 2, 3, 0] rfl rfl rfl rfl (by decide) rfl rfl rfl (Nat.le_of_ble_eq_true rfl) d_La_peek_4 (fun H locs hP hD hS => ?_)
    refine W.eq (g2 := F0 m 7 ls [.int y1.2, .int 0, .ref a_out]) rfl ?_
    refine lv_i2l hx hb d_La_peek_7 rfl ?_
    have ⟨h3, hE⟩ := ck_at hE
    refine va_last hx hb hK hP hD hS 3 2 rfl rfl h3 d_La_peek_8 (fun H locs hP hD hS => ?_)
    have hP : va_P g.1 classes (w_md_ma_wo_out g a_md a_lat a_co a_ma a_bu a_wo a_od a_rs a_ca a_cm a_op a_pl a_ju a_out r_md r_ma r_wo (vp_updL r_out (0 : Int32).toNatClampNeg y1.2.toInt64)) H := hP
    have hD : va_D A (w_md_ma_wo_out g a_md a_lat a_co a_ma a_bu a_wo a_od a_rs a_ca a_cm a_op a_pl a_ju a_out r_md r_ma r_wo (vp_updL r_out (0 : Int32).toNatClampNeg y1.2.toInt64)) := hD
    refine lv_goto (tgt := 15) hx hb d_La_peek_9 (by decide) ?_
    refine lv_iconst (v := 0) hx hb d_La_peek_15 (by decide) ?_
    have hE := Option.some.inj hE
    rw [hE]
    refine W.widen (k := 1) (n := 6) (by omega) (by omega) ?_
    exact W.iret (v := 0) hx hb hr (fun t ht hW => ⟨⟨rfl, by rw [ht]; exact hP, va_K.moved hW.alike hK, hD⟩, hS.F ht⟩) hS.2.2 d_La_peek_16 hlocks
  · have hE := it_f hE c2
    by_cases c4 : y1.1 = 1
    · have hE := it_t hE c4
      refine kVT (C := "MoveDesk") (cls := "java/lang/IndexOutOfBoundsException") (hpc := 12) (index := 41) (As := [.int v1]) (rest := [.int 0, .ref a_out]) (ws2 := (w_md_ma_wo_out g a_md a_lat a_co a_ma a_bu a_wo a_od a_rs a_ca a_cm a_op a_pl a_ju a_out r_md r_ma r_wo r_out)) M hP hD hS hl.1 (t1_Md_peek l htr g a_md a_lat a_co a_ma a_bu a_wo a_od a_rs a_ca a_cm a_op a_pl a_ju r_md r_ma r_wo v1 y1 hy1 c4) m_784 m_785 m_786 m_1 m_787 hd_Md_peek rfl rfl rfl ⟨by decide, by decide⟩ ⟨by decide, by decide⟩ 6 0 rfl rfl rfl [0, 1, 2] [3] [1, 2, 3, 0] rfl rfl rfl rfl (by decide) rfl rfl rfl (Nat.le_of_ble_eq_true rfl) d_La_peek_4 (kf_first M htab (by decide) (by decide) m_450 (List.mem_of_getElem? (i := 0) rfl)) (fun a5 H locs hP hD hS => ?_)
      refine lv_astore_n (lv' := [(3, .ref a5), (0, .ref a_md), (1, .int v1), (2, .ref a_out)]) hx hb d_La_peek_12 rfl hl (by decide) rfl (fun ls hl => ?_)
      refine lv_iconst (v := 1) hx hb d_La_peek_13 (by decide) ?_
      have hE := Option.some.inj hE
      rw [hE]
      refine W.widen (k := 1) (n := 6) (by omega) (by omega) ?_
      exact W.iret (v := 1) hx hb hr (fun t ht hW => ⟨⟨rfl, by rw [ht]; exact hP, va_K.moved hW.alike hK, hD⟩, hS.F ht⟩) hS.2.2 d_La_peek_14 hlocks
    · have hE := it_f hE c4
      cases hE
abbrev rm_La_done : Room := { frames := 7, cells := 1, slots := 6, locals := 103 }
set_option maxHeartbeats 4000000 in
set_option maxRecDepth 100000 in
theorem c_La_done (l : Launch) (htr : ∀ e, l.admits e → e.platform.stackTraces = false) (g : GT) (a_md : Nat) (a_lat : Nat) (a_co : Nat) (a_ma : Nat) (a_bu : Nat) (a_wo : Nat) (a_od : Nat) (a_rs : Nat) (a_ca : Nat) (a_cm : Nat) (a_op : Nat) (a_ki : Nat) (a_tg : Nat) (a_fi : Nat) (a_se : Nat) (a_oc : Nat) (a_cp : Nat) (a_pl : Nat) (a_ju : Nat) (a_out : Nat) (r_md : Nat → Int32) (r_ma : Nat → Int32) (r_wo : Nat → Int32) (r_op : Nat → Int32) (r_ki : Nat → Int32) (r_tg : Nat → Int32) (r_fi : Nat → Int32) (r_se : Nat → Int32) (r_oc : Nat → Int32) (r_cp : Nat → Int32) (r_out : Nat → Int64) (v1 : Int32) (y : Int32 × (Nat → Int32) × (Nat → Int64)) (hy : some y = f_La_done r_md r_ma r_wo r_op r_ki r_tg r_fi r_se r_oc r_cp r_out v1) : CtM l y_La_done (.codeWith y_La_done b_La_done 4 (some .int) [(0, 9, 12, 13)]) rm_La_done g [.ref a_md, .int v1, .ref a_out] (w_md_11_ae77 g a_md a_lat a_co a_ma a_bu a_wo a_od a_rs a_ca a_cm a_op a_ki a_tg a_fi a_se a_oc a_cp a_pl a_ju a_out r_md r_ma r_wo r_op r_ki r_tg r_fi r_se r_oc r_cp r_out) (w_md_11_ae77 g a_md a_lat a_co a_ma a_bu a_wo a_od a_rs a_ca a_cm a_op a_ki a_tg a_fi a_se a_oc a_cp a_pl a_ju a_out r_md r_ma r_wo r_op r_ki r_tg r_fi r_se r_oc y.2.1 y.2.2) (some (.int y.1)) 1 6 := by
  refine ct_inW (C := "MoveDeskLaw") rfl (by decide) (Nat.le_of_ble_eq_true rfl) (fun p e s m below meth c A ls M htab hP hD hS hl => ?_)
  obtain ⟨hx, hb, hr, hml, hown, hts, hlocks, hA, hK, hG⟩ := id M
  have hl : lv_has ls 4 [(0, .ref a_md), (1, .int v1), (2, .ref a_out)] := hl
  have hE := hy
  rw [f_La_done] at hE
  refine lv_aload_n hx hb d_La_done_0 rfl (lv_at hl 2 rfl) ?_
  refine lv_iconst (v := 0) hx hb d_La_done_1 (by decide) ?_
  refine lv_aload_n hx hb d_La_done_2 rfl (lv_at hl 0 rfl) ?_
  refine lv_iload_n hx hb d_La_done_3 rfl (lv_at hl 1 rfl) ?_
  obtain ⟨y1, hy1, hE⟩ := bd_at hE
  by_cases c2 : y1.1 = 0
  · have hE := it_t hE c2
    refine kV (C := "MoveDesk") (index := 44) (As := [.int v1]) (rest := [.int 0, .ref a_out]) (ws2 := (w_md_11_ae77 g a_md a_lat a_co a_ma a_bu a_wo a_od a_rs a_ca a_cm a_op a_ki a_tg a_fi a_se a_oc a_cp a_pl a_ju a_out r_md r_ma r_wo r_op r_ki r_tg r_fi r_se r_oc y1.2.2 r_out)) M hP hD hS hl.1 (c_Md_done l g a_md a_lat a_co a_ma a_bu a_wo a_od a_rs a_ca a_cm a_op a_ki a_tg a_fi a_se a_oc a_cp a_pl a_ju r_md r_ma r_wo r_op r_ki r_tg r_fi r_se r_oc r_cp v1 y1 hy1 c2) m_791 m_792 m_793 m_1 m_794 hd_Md_done rfl rfl rfl ⟨by decide, by decide⟩ ⟨by decide, by decide⟩ 6 0 rfl rfl rfl [0, 1, 2, 3, 4, 5, 6, 7, 8, 9] [10] [1, 2, 3, 4, 5, 6, 7, 8, 9, 10, 0] rfl rfl rfl rfl (by decide) rfl rfl rfl (Nat.le_of_ble_eq_true rfl) d_La_done_4 (fun H locs hP hD hS => ?_)
    refine W.eq (g2 := F0 m 7 ls [.int y1.2.1, .int 0, .ref a_out]) rfl ?_
    refine lv_i2l hx hb d_La_done_7 rfl ?_
    have ⟨h3, hE⟩ := ck_at hE
    refine va_last hx hb hK hP hD hS 10 2 rfl rfl h3 d_La_done_8 (fun H locs hP hD hS => ?_)
    have hP : va_P g.1 classes (w_md_11_ae77 g a_md a_lat a_co a_ma a_bu a_wo a_od a_rs a_ca a_cm a_op a_ki a_tg a_fi a_se a_oc a_cp a_pl a_ju a_out r_md r_ma r_wo r_op r_ki r_tg r_fi r_se r_oc y1.2.2 (vp_updL r_out (0 : Int32).toNatClampNeg y1.2.1.toInt64)) H := hP
    have hD : va_D A (w_md_11_ae77 g a_md a_lat a_co a_ma a_bu a_wo a_od a_rs a_ca a_cm a_op a_ki a_tg a_fi a_se a_oc a_cp a_pl a_ju a_out r_md r_ma r_wo r_op r_ki r_tg r_fi r_se r_oc y1.2.2 (vp_updL r_out (0 : Int32).toNatClampNeg y1.2.1.toInt64)) := hD
    refine lv_goto (tgt := 15) hx hb d_La_done_9 (by decide) ?_
    refine lv_iconst (v := 0) hx hb d_La_done_15 (by decide) ?_
    have hE := Option.some.inj hE
    rw [hE]
    refine W.widen (k := 1) (n := 6) (by omega) (by omega) ?_
    exact W.iret (v := 0) hx hb hr (fun t ht hW => ⟨⟨rfl, by rw [ht]; exact hP, va_K.moved hW.alike hK, hD⟩, hS.F ht⟩) hS.2.2 d_La_done_16 hlocks
  · have hE := it_f hE c2
    by_cases c4 : y1.1 = 1
    · have hE := it_t hE c4
      refine kVT (C := "MoveDesk") (cls := "java/lang/IndexOutOfBoundsException") (hpc := 12) (index := 44) (As := [.int v1]) (rest := [.int 0, .ref a_out]) (ws2 := (w_md_11_ae77 g a_md a_lat a_co a_ma a_bu a_wo a_od a_rs a_ca a_cm a_op a_ki a_tg a_fi a_se a_oc a_cp a_pl a_ju a_out r_md r_ma r_wo r_op r_ki r_tg r_fi r_se r_oc y1.2.2 r_out)) M hP hD hS hl.1 (t1_Md_done l htr g a_md a_lat a_co a_ma a_bu a_wo a_od a_rs a_ca a_cm a_op a_ki a_tg a_fi a_se a_oc a_cp a_pl a_ju r_md r_ma r_wo r_op r_ki r_tg r_fi r_se r_oc r_cp v1 y1 hy1 c4) m_791 m_792 m_793 m_1 m_794 hd_Md_done rfl rfl rfl ⟨by decide, by decide⟩ ⟨by decide, by decide⟩ 6 0 rfl rfl rfl [0, 1, 2, 3, 4, 5, 6, 7, 8, 9] [10] [1, 2, 3, 4, 5, 6, 7, 8, 9, 10, 0] rfl rfl rfl rfl (by decide) rfl rfl rfl (Nat.le_of_ble_eq_true rfl) d_La_done_4 (kf_first M htab (by decide) (by decide) m_450 (List.mem_of_getElem? (i := 0) rfl)) (fun a5 H locs hP hD hS => ?_)
      refine lv_astore_n (lv' := [(3, .ref a5), (0, .ref a_md), (1, .int v1), (2, .ref a_out)]) hx hb d_La_done_12 rfl hl (by decide) rfl (fun ls hl => ?_)
      refine lv_iconst (v := 1) hx hb d_La_done_13 (by decide) ?_
      have hE := Option.some.inj hE
      rw [hE]
      refine W.widen (k := 1) (n := 6) (by omega) (by omega) ?_
      exact W.iret (v := 1) hx hb hr (fun t ht hW => ⟨⟨rfl, by rw [ht]; exact hP, va_K.moved hW.alike hK, hD⟩, hS.F ht⟩) hS.2.2 d_La_done_14 hlocks
    · have hE := it_f hE c4
      cases hE
