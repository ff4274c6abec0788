theorem m_13 : (.initialized "java/lang/IndexOutOfBoundsException" : Cond) ∈ bw := mw 13 (by decide +kernel) rfl
theorem m_14 : (.initialized "java/lang/IllegalArgumentException" : Cond) ∈ bw := mw 14 (by decide +kernel) rfl
theorem m_15 : (.initialized "java/lang/IllegalStateException" : Cond) ∈ bw := mw 15 (by decide +kernel) rfl
theorem m_17 : (.initialized "java/lang/UnsupportedOperationException" : Cond) ∈ bw := mw 17 (by decide +kernel) rfl
theorem m_274 : (.fieldLink "MoveDesk" 48 "MoveDesk" "planner" "LMoveDesk$Planner;" : Cond) ∈ bw := mw 274 (by decide +kernel) rfl
theorem m_456 : (.classLink "MoveDesk" 70 "java/lang/IndexOutOfBoundsException" : Cond) ∈ bw := mw 456 (by decide +kernel) rfl
theorem m_457 : (.instantiable "java/lang/IndexOutOfBoundsException" 6 : Cond) ∈ bw := mw 457 (by decide +kernel) rfl
theorem m_523 : (.classLink "MoveDesk" 76 "java/lang/IllegalArgumentException" : Cond) ∈ bw := mw 523 (by decide +kernel) rfl
theorem m_524 : (.instantiable "java/lang/IllegalArgumentException" 6 : Cond) ∈ bw := mw 524 (by decide +kernel) rfl
theorem m_538 : (.methodLink "MoveDesk" 79 ⟨"MoveDesk$Code", "put", "(IIIIII)V"⟩ : Cond) ∈ bw := mw 538 (by decide +kernel) rfl
theorem m_549 : (.methodLink "MoveDesk" 83 ⟨"MoveDesk$Code", "drop", "(II)Z"⟩ : Cond) ∈ bw := mw 549 (by decide +kernel) rfl
theorem m_550 : (.instanceMethod ⟨"MoveDesk$Code", "drop", "(II)Z"⟩ : Cond) ∈ bw := mw 550 (by decide +kernel) rfl
theorem m_551 : (.selects "MoveDesk$Code" ⟨"MoveDesk$Code", "drop", "(II)Z"⟩ ⟨"MoveDesk$Code", "drop", "(II)Z"⟩ : Cond) ∈ bw := mw 551 (by decide +kernel) rfl
theorem m_552 : (.code ⟨"MoveDesk$Code", "drop", "(II)Z"⟩ prog_3_method_6_code 4 (some .boolean) : Cond) ∈ bw := mw 552 (by decide +kernel) rfl
theorem m_562 : (.methodLink "MoveDesk" 96 ⟨"MoveDesk$Operations", "mayBe", "(IIII)Z"⟩ : Cond) ∈ bw := mw 562 (by decide +kernel) rfl
theorem m_563 : (.instanceMethod ⟨"MoveDesk$Operations", "mayBe", "(IIII)Z"⟩ : Cond) ∈ bw := mw 563 (by decide +kernel) rfl
theorem m_564 : (.selects "MoveDesk$Operations" ⟨"MoveDesk$Operations", "mayBe", "(IIII)Z"⟩ ⟨"MoveDesk$Operations", "mayBe", "(IIII)Z"⟩ : Cond) ∈ bw := mw 564 (by decide +kernel) rfl
theorem m_565 : (.code ⟨"MoveDesk$Operations", "mayBe", "(IIII)Z"⟩ prog_6_method_2_code 5 (some .boolean) : Cond) ∈ bw := mw 565 (by decide +kernel) rfl
theorem m_567 : (.methodLink "MoveDesk" 100 ⟨"MoveDesk$Operations", "count", "()I"⟩ : Cond) ∈ bw := mw 567 (by decide +kernel) rfl
theorem m_571 : (.classLink "MoveDesk" 104 "java/lang/IllegalStateException" : Cond) ∈ bw := mw 571 (by decide +kernel) rfl
theorem m_572 : (.instantiable "java/lang/IllegalStateException" 6 : Cond) ∈ bw := mw 572 (by decide +kernel) rfl
theorem m_586 : (.methodLink "MoveDesk" 107 ⟨"MoveDesk$Operations", "append", "(IIIII)V"⟩ : Cond) ∈ bw := mw 586 (by decide +kernel) rfl
theorem m_587 : (.instanceMethod ⟨"MoveDesk$Operations", "append", "(IIIII)V"⟩ : Cond) ∈ bw := mw 587 (by decide +kernel) rfl
theorem m_588 : (.selects "MoveDesk$Operations" ⟨"MoveDesk$Operations", "append", "(IIIII)V"⟩ ⟨"MoveDesk$Operations", "append", "(IIIII)V"⟩ : Cond) ∈ bw := mw 588 (by decide +kernel) rfl
theorem m_589 : (.code ⟨"MoveDesk$Operations", "append", "(IIIII)V"⟩ prog_6_method_4_code 6 none : Cond) ∈ bw := mw 589 (by decide +kernel) rfl
theorem m_598 : (.methodLink "MoveDesk" 113 ⟨"MoveDesk$Planner", "plan", "()I"⟩ : Cond) ∈ bw := mw 598 (by decide +kernel) rfl
theorem m_599 : (.instanceMethod ⟨"MoveDesk$Planner", "plan", "()I"⟩ : Cond) ∈ bw := mw 599 (by decide +kernel) rfl
theorem m_600 : (.selects "MoveDesk$Planner" ⟨"MoveDesk$Planner", "plan", "()I"⟩ ⟨"MoveDesk$Planner", "plan", "()I"⟩ : Cond) ∈ bw := mw 600 (by decide +kernel) rfl
theorem m_601 : (.code ⟨"MoveDesk$Planner", "plan", "()I"⟩ prog_7_method_2_code 4 (some .int) : Cond) ∈ bw := mw 601 (by decide +kernel) rfl
theorem m_668 : (.classLink "MoveDesk" 116 "java/lang/UnsupportedOperationException" : Cond) ∈ bw := mw 668 (by decide +kernel) rfl
theorem m_669 : (.instantiable "java/lang/UnsupportedOperationException" 6 : Cond) ∈ bw := mw 669 (by decide +kernel) rfl
theorem m_683 : (.methodLink "MoveDesk" 119 ⟨"MoveDesk$Planner", "write", "(I)V"⟩ : Cond) ∈ bw := mw 683 (by decide +kernel) rfl
theorem m_684 : (.instanceMethod ⟨"MoveDesk$Planner", "write", "(I)V"⟩ : Cond) ∈ bw := mw 684 (by decide +kernel) rfl
theorem m_685 : (.selects "MoveDesk$Planner" ⟨"MoveDesk$Planner", "write", "(I)V"⟩ ⟨"MoveDesk$Planner", "write", "(I)V"⟩ : Cond) ∈ bw := mw 685 (by decide +kernel) rfl
theorem m_686 : (.code ⟨"MoveDesk$Planner", "write", "(I)V"⟩ prog_7_method_10_code 3 none : Cond) ∈ bw := mw 686 (by decide +kernel) rfl
theorem m_714 : (.methodLink "MoveDesk" 131 ⟨"MoveDesk$Machine", "isHalted", "()Z"⟩ : Cond) ∈ bw := mw 714 (by decide +kernel) rfl
theorem m_715 : (.instanceMethod ⟨"MoveDesk$Machine", "isHalted", "()Z"⟩ : Cond) ∈ bw := mw 715 (by decide +kernel) rfl
theorem m_716 : (.selects "MoveDesk$Machine" ⟨"MoveDesk$Machine", "isHalted", "()Z"⟩ ⟨"MoveDesk$Machine", "isHalted", "()Z"⟩ : Cond) ∈ bw := mw 716 (by decide +kernel) rfl
theorem m_717 : (.code ⟨"MoveDesk$Machine", "isHalted", "()Z"⟩ prog_5_method_3_code 1 (some .boolean) : Cond) ∈ bw := mw 717 (by decide +kernel) rfl
theorem m_718 : (.methodLink "MoveDesk" 135 ⟨"MoveDesk$Machine", "tryCycle", "()I"⟩ : Cond) ∈ bw := mw 718 (by decide +kernel) rfl
theorem m_719 : (.instanceMethod ⟨"MoveDesk$Machine", "tryCycle", "()I"⟩ : Cond) ∈ bw := mw 719 (by decide +kernel) rfl
theorem m_720 : (.selects "MoveDesk$Machine" ⟨"MoveDesk$Machine", "tryCycle", "()I"⟩ ⟨"MoveDesk$Machine", "tryCycle", "()I"⟩ : Cond) ∈ bw := mw 720 (by decide +kernel) rfl
theorem m_721 : (.code ⟨"MoveDesk$Machine", "tryCycle", "()I"⟩ prog_5_method_5_code 3 (some .int) : Cond) ∈ bw := mw 721 (by decide +kernel) rfl
theorem m_778 : (.methodLink "MoveDesk" 138 ⟨"MoveDesk", "isPlace", "(I)Z"⟩ : Cond) ∈ bw := mw 778 (by decide +kernel) rfl
theorem m_779 : (.static ⟨"MoveDesk", "isPlace", "(I)Z"⟩ : Cond) ∈ bw := mw 779 (by decide +kernel) rfl
theorem m_780 : (.code ⟨"MoveDesk", "isPlace", "(I)Z"⟩ prog_1_method_18_code 1 (some .boolean) : Cond) ∈ bw := mw 780 (by decide +kernel) rfl
theorem m_795 : (.methodLink "MoveDesk" 150 ⟨"MoveDesk$Operations", "valueBehind", "([II)I"⟩ : Cond) ∈ bw := mw 795 (by decide +kernel) rfl
theorem m_796 : (.instanceMethod ⟨"MoveDesk$Operations", "valueBehind", "([II)I"⟩ : Cond) ∈ bw := mw 796 (by decide +kernel) rfl
theorem m_797 : (.selects "MoveDesk$Operations" ⟨"MoveDesk$Operations", "valueBehind", "([II)I"⟩ ⟨"MoveDesk$Operations", "valueBehind", "([II)I"⟩ : Cond) ∈ bw := mw 797 (by decide +kernel) rfl
theorem m_798 : (.code ⟨"MoveDesk$Operations", "valueBehind", "([II)I"⟩ prog_6_method_17_code 4 (some .int) : Cond) ∈ bw := mw 798 (by decide +kernel) rfl
abbrev b_Md_move : ByteArray := prog_1_method_2_code
abbrev y_Md_move : MethodName := ⟨"MoveDesk", "move", "(IIIIII)V"⟩
theorem hd_Md_move : y_Md_move.cls = "MoveDesk" ∧ y_Md_move.cls ≠ "java/lang/invoke/MethodHandle" ∧ y_Md_move.cls ≠ "java/lang/invoke/VarHandle" ∧ (parseMethodDescriptor y_Md_move.desc).map (fun d => d.parameters.length) = some 6 := by decide +kernel
theorem d_Md_move_0 : decode b_Md_move 0 = .ok (.aload_n 0, 1) := by decide +kernel
theorem d_Md_move_1 : decode b_Md_move 1 = .ok (.getfield 23, 3) := by decide +kernel
theorem d_Md_move_4 : decode b_Md_move 4 = .ok (.iload_n 1, 1) := by decide +kernel
theorem d_Md_move_5 : decode b_Md_move 5 = .ok (.iload_n 2, 1) := by decide +kernel
theorem d_Md_move_6 : decode b_Md_move 6 = .ok (.invokevirtual 66, 3) := by decide +kernel
theorem d_Md_move_9 : decode b_Md_move 9 = .ok (.ifCond .ne 11, 3) := by decide +kernel
theorem d_Md_move_12 : decode b_Md_move 12 = .ok (.new 70, 3) := by decide +kernel
theorem d_Md_move_15 : decode b_Md_move 15 = .ok (.dup, 1) := by decide +kernel
theorem d_Md_move_16 : decode b_Md_move 16 = .ok (.invokespecial 72, 3) := by decide +kernel
theorem d_Md_move_19 : decode b_Md_move 19 = .ok (.athrow, 1) := by decide +kernel
theorem d_Md_move_20 : decode b_Md_move 20 = .ok (.iload_n 3, 1) := by decide +kernel
theorem d_Md_move_21 : decode b_Md_move 21 = .ok (.bipush 8, 2) := by decide +kernel
theorem d_Md_move_23 : decode b_Md_move 23 = .ok (.invokestatic 73, 3) := by decide +kernel
theorem d_Md_move_26 : decode b_Md_move 26 = .ok (.ifCond .eq 23, 3) := by decide +kernel
theorem d_Md_move_29 : decode b_Md_move 29 = .ok (.iload 4, 2) := by decide +kernel
theorem d_Md_move_31 : decode b_Md_move 31 = .ok (.bipush 11, 2) := by decide +kernel
theorem d_Md_move_33 : decode b_Md_move 33 = .ok (.invokestatic 73, 3) := by decide +kernel
theorem d_Md_move_36 : decode b_Md_move 36 = .ok (.ifCond .eq 13, 3) := by decide +kernel
theorem d_Md_move_39 : decode b_Md_move 39 = .ok (.iload 6, 2) := by decide +kernel
theorem d_Md_move_41 : decode b_Md_move 41 = .ok (.bipush 25, 2) := by decide +kernel
theorem d_Md_move_43 : decode b_Md_move 43 = .ok (.invokestatic 73, 3) := by decide +kernel
theorem d_Md_move_46 : decode b_Md_move 46 = .ok (.ifCond .ne 11, 3) := by decide +kernel
theorem d_Md_move_49 : decode b_Md_move 49 = .ok (.new 76, 3) := by decide +kernel
theorem d_Md_move_52 : decode b_Md_move 52 = .ok (.dup, 1) := by decide +kernel
theorem d_Md_move_53 : decode b_Md_move 53 = .ok (.invokespecial 78, 3) := by decide +kernel
theorem d_Md_move_56 : decode b_Md_move 56 = .ok (.athrow, 1) := by decide +kernel
theorem d_Md_move_57 : decode b_Md_move 57 = .ok (.aload_n 0, 1) := by decide +kernel
theorem d_Md_move_58 : decode b_Md_move 58 = .ok (.getfield 23, 3) := by decide +kernel
theorem d_Md_move_61 : decode b_Md_move 61 = .ok (.iload_n 1, 1) := by decide +kernel
theorem d_Md_move_62 : decode b_Md_move 62 = .ok (.iload_n 2, 1) := by decide +kernel
theorem d_Md_move_63 : decode b_Md_move 63 = .ok (.iload_n 3, 1) := by decide +kernel
theorem d_Md_move_64 : decode b_Md_move 64 = .ok (.iload 4, 2) := by decide +kernel
theorem d_Md_move_66 : decode b_Md_move 66 = .ok (.iload 5, 2) := by decide +kernel
theorem d_Md_move_68 : decode b_Md_move 68 = .ok (.iload 6, 2) := by decide +kernel
theorem d_Md_move_70 : decode b_Md_move 70 = .ok (.invokevirtual 79, 3) := by decide +kernel
theorem d_Md_move_73 : decode b_Md_move 73 = .ok (.return_, 1) := by decide +kernel
abbrev b_Md_free : ByteArray := prog_1_method_3_code
abbrev y_Md_free : MethodName := ⟨"MoveDesk", "free", "(II)Z"⟩
theorem hd_Md_free : y_Md_free.cls = "MoveDesk" ∧ y_Md_free.cls ≠ "java/lang/invoke/MethodHandle" ∧ y_Md_free.cls ≠ "java/lang/invoke/VarHandle" ∧ (parseMethodDescriptor y_Md_free.desc).map (fun d => d.parameters.length) = some 2 := by decide +kernel
theorem d_Md_free_0 : decode b_Md_free 0 = .ok (.aload_n 0, 1) := by decide +kernel
theorem d_Md_free_1 : decode b_Md_free 1 = .ok (.getfield 23, 3) := by decide +kernel
theorem d_Md_free_4 : decode b_Md_free 4 = .ok (.iload_n 1, 1) := by decide +kernel
theorem d_Md_free_5 : decode b_Md_free 5 = .ok (.iload_n 2, 1) := by decide +kernel
theorem d_Md_free_6 : decode b_Md_free 6 = .ok (.invokevirtual 66, 3) := by decide +kernel
theorem d_Md_free_9 : decode b_Md_free 9 = .ok (.ifCond .ne 11, 3) := by decide +kernel
theorem d_Md_free_12 : decode b_Md_free 12 = .ok (.new 70, 3) := by decide +kernel
theorem d_Md_free_15 : decode b_Md_free 15 = .ok (.dup, 1) := by decide +kernel
theorem d_Md_free_16 : decode b_Md_free 16 = .ok (.invokespecial 72, 3) := by decide +kernel
theorem d_Md_free_19 : decode b_Md_free 19 = .ok (.athrow, 1) := by decide +kernel
theorem d_Md_free_20 : decode b_Md_free 20 = .ok (.aload_n 0, 1) := by decide +kernel
theorem d_Md_free_21 : decode b_Md_free 21 = .ok (.getfield 23, 3) := by decide +kernel
theorem d_Md_free_24 : decode b_Md_free 24 = .ok (.iload_n 1, 1) := by decide +kernel
theorem d_Md_free_25 : decode b_Md_free 25 = .ok (.iload_n 2, 1) := by decide +kernel
theorem d_Md_free_26 : decode b_Md_free 26 = .ok (.invokevirtual 83, 3) := by decide +kernel
theorem d_Md_free_29 : decode b_Md_free 29 = .ok (.ireturn, 1) := by decide +kernel
abbrev w_md_7_188e (g : GT) (a_md : Nat) (a_co : Nat) (a_ma : Nat) (a_op : Nat) (a_ki : Nat) (a_tg : Nat) (a_fi : Nat) (a_se : Nat) (a_oc : Nat) (a_cp : Nat) (a_pl : Nat) (a_ju : Nat) (r_md : Nat → Int32) (r_op : Nat → Int32) (r_ki : Nat → Int32) (r_tg : Nat → Int32) (r_fi : Nat → Int32) (r_se : Nat → Int32) (r_oc : Nat → Int32) : va_W := [kO a_md 6 [.ref a_co, .ref a_ma, .ref a_op, .ref a_pl, .ref a_ju, .int (r_md 5), .int (r_md 6)], kO a_op 4 [.ref a_ki, .ref a_tg, .ref a_fi, .ref a_se, .ref a_oc, .ref a_cp, .int (r_op 6)], kI g a_ki 20 r_ki, kI g a_tg 20 r_tg, kI g a_fi 20 r_fi, kI g a_se 20 r_se, kI g a_oc 20 r_oc]
abbrev b_Md_operation : ByteArray := prog_1_method_6_code
abbrev y_Md_operation : MethodName := ⟨"MoveDesk", "operation", "(IIIII)I"⟩
theorem hd_Md_operation : y_Md_operation.cls = "MoveDesk" ∧ y_Md_operation.cls ≠ "java/lang/invoke/MethodHandle" ∧ y_Md_operation.cls ≠ "java/lang/invoke/VarHandle" ∧ (parseMethodDescriptor y_Md_operation.desc).map (fun d => d.parameters.length) = some 5 := by decide +kernel
theorem d_Md_operation_0 : decode b_Md_operation 0 = .ok (.aload_n 0, 1) := by decide +kernel
theorem d_Md_operation_1 : decode b_Md_operation 1 = .ok (.getfield 39, 3) := by decide +kernel
theorem d_Md_operation_4 : decode b_Md_operation 4 = .ok (.iload_n 1, 1) := by decide +kernel
theorem d_Md_operation_5 : decode b_Md_operation 5 = .ok (.iload_n 2, 1) := by decide +kernel
theorem d_Md_operation_6 : decode b_Md_operation 6 = .ok (.iload_n 3, 1) := by decide +kernel
theorem d_Md_operation_7 : decode b_Md_operation 7 = .ok (.iload 4, 2) := by decide +kernel
theorem d_Md_operation_9 : decode b_Md_operation 9 = .ok (.invokevirtual 96, 3) := by decide +kernel
theorem d_Md_operation_12 : decode b_Md_operation 12 = .ok (.ifCond .ne 11, 3) := by decide +kernel
theorem d_Md_operation_15 : decode b_Md_operation 15 = .ok (.new 76, 3) := by decide +kernel
theorem d_Md_operation_18 : decode b_Md_operation 18 = .ok (.dup, 1) := by decide +kernel
theorem d_Md_operation_19 : decode b_Md_operation 19 = .ok (.invokespecial 78, 3) := by decide +kernel
theorem d_Md_operation_22 : decode b_Md_operation 22 = .ok (.athrow, 1) := by decide +kernel
theorem d_Md_operation_23 : decode b_Md_operation 23 = .ok (.aload_n 0, 1) := by decide +kernel
theorem d_Md_operation_24 : decode b_Md_operation 24 = .ok (.getfield 39, 3) := by decide +kernel
theorem d_Md_operation_27 : decode b_Md_operation 27 = .ok (.invokevirtual 100, 3) := by decide +kernel
theorem d_Md_operation_30 : decode b_Md_operation 30 = .ok (.bipush 20, 2) := by decide +kernel
theorem d_Md_operation_32 : decode b_Md_operation 32 = .ok (.if_icmp .lt 11, 3) := by decide +kernel
theorem d_Md_operation_35 : decode b_Md_operation 35 = .ok (.new 104, 3) := by decide +kernel
theorem d_Md_operation_38 : decode b_Md_operation 38 = .ok (.dup, 1) := by decide +kernel
theorem d_Md_operation_39 : decode b_Md_operation 39 = .ok (.invokespecial 106, 3) := by decide +kernel
theorem d_Md_operation_42 : decode b_Md_operation 42 = .ok (.athrow, 1) := by decide +kernel
theorem d_Md_operation_43 : decode b_Md_operation 43 = .ok (.aload_n 0, 1) := by decide +kernel
theorem d_Md_operation_44 : decode b_Md_operation 44 = .ok (.getfield 39, 3) := by decide +kernel
theorem d_Md_operation_47 : decode b_Md_operation 47 = .ok (.iload_n 1, 1) := by decide +kernel
theorem d_Md_operation_48 : decode b_Md_operation 48 = .ok (.iload_n 2, 1) := by decide +kernel
theorem d_Md_operation_49 : decode b_Md_operation 49 = .ok (.iload_n 3, 1) := by decide +kernel
theorem d_Md_operation_50 : decode b_Md_operation 50 = .ok (.iload 4, 2) := by decide +kernel
theorem d_Md_operation_52 : decode b_Md_operation 52 = .ok (.iload 5, 2) := by decide +kernel
theorem d_Md_operation_54 : decode b_Md_operation 54 = .ok (.invokevirtual 107, 3) := by decide +kernel
theorem d_Md_operation_57 : decode b_Md_operation 57 = .ok (.aload_n 0, 1) := by decide +kernel
theorem d_Md_operation_58 : decode b_Md_operation 58 = .ok (.getfield 39, 3) := by decide +kernel
theorem d_Md_operation_61 : decode b_Md_operation 61 = .ok (.invokevirtual 100, 3) := by decide +kernel
theorem d_Md_operation_64 : decode b_Md_operation 64 = .ok (.ireturn, 1) := by decide +kernel
abbrev w_md_24_a833 (g : GT) (a_md : Nat) (a_lat : Nat) (a_co : Nat) (a_ta : Nat) (a_gu : Nat) (a_so : Nat) (a_cn : Nat) (a_de : Nat) (a_ma : Nat) (a_op : Nat) (a_ki : Nat) (a_tg : Nat) (a_fi : Nat) (a_se : Nat) (a_oc : Nat) (a_cp : Nat) (a_pl : Nat) (a_bs : Nat) (a_rr : Nat) (a_hr : Nat) (a_lw : Nat) (a_lr : Nat) (a_lt : Nat) (a_lm : Nat) (a_tc : Nat) (a_rc : Nat) (a_ju : Nat) (r_md : Nat → Int32) (r_lat : Nat → Int32) (r_co : Nat → Int32) (r_ta : Nat → Int32) (r_gu : Nat → Int32) (r_so : Nat → Int32) (r_cn : Nat → Int32) (r_de : Nat → Int32) (r_op : Nat → Int32) (r_ki : Nat → Int32) (r_tg : Nat → Int32) (r_fi : Nat → Int32) (r_se : Nat → Int32) (r_oc : Nat → Int32) (r_bs : Nat → Int32) (r_rr : Nat → Int32) (r_hr : Nat → Int32) (r_lw : Nat → Int32) (r_lr : Nat → Int32) (r_lt : Nat → Int32) (r_lm : Nat → Int32) (r_tc : Nat → Int32) (r_rc : Nat → Int32) : va_W := [kO a_md 6 [.ref a_co, .ref a_ma, .ref a_op, .ref a_pl, .ref a_ju, .int (r_md 5), .int (r_md 6)], kI g a_lat 3 r_lat, kO a_co 1 [.int (r_co 0), .ref a_ta, .ref a_gu, .ref a_so, .ref a_cn, .ref a_de], kI g a_ta 64 r_ta, kI g a_gu 256 r_gu, kI g a_so 256 r_so, kI g a_cn 256 r_cn, kI g a_de 256 r_de, kO a_op 4 [.ref a_ki, .ref a_tg, .ref a_fi, .ref a_se, .ref a_oc, .ref a_cp, .int (r_op 6)], kI g a_ki 20 r_ki, kI g a_tg 20 r_tg, kI g a_fi 20 r_fi, kI g a_se 20 r_se, kI g a_oc 20 r_oc, kO a_pl 5 [.ref a_co, .ref a_op, .ref a_lat, .ref a_bs, .ref a_rr, .ref a_hr, .ref a_lw, .ref a_lr, .ref a_lt, .ref a_lm, .ref a_tc, .ref a_rc], kI g a_bs 64 r_bs, kI g a_rr 64 r_rr, kZ g a_hr 64 r_hr, kI g a_lw 8 r_lw, kI g a_lr 8 r_lr, kI g a_lt 3 r_lt, kI g a_lm 3 r_lm, kI g a_tc 20 r_tc, kI g a_rc 20 r_rc]
abbrev b_Md_compile : ByteArray := prog_1_method_8_code
abbrev y_Md_compile : MethodName := ⟨"MoveDesk", "compile", "()I"⟩
theorem hd_Md_compile : y_Md_compile.cls = "MoveDesk" ∧ y_Md_compile.cls ≠ "java/lang/invoke/MethodHandle" ∧ y_Md_compile.cls ≠ "java/lang/invoke/VarHandle" ∧ (parseMethodDescriptor y_Md_compile.desc).map (fun d => d.parameters.length) = some 0 := by decide +kernel
theorem d_Md_compile_0 : decode b_Md_compile 0 = .ok (.aload_n 0, 1) := by decide +kernel
theorem d_Md_compile_1 : decode b_Md_compile 1 = .ok (.getfield 48, 3) := by decide +kernel
theorem d_Md_compile_4 : decode b_Md_compile 4 = .ok (.invokevirtual 113, 3) := by decide +kernel
theorem d_Md_compile_7 : decode b_Md_compile 7 = .ok (.istore_n 1, 1) := by decide +kernel
theorem d_Md_compile_8 : decode b_Md_compile 8 = .ok (.iload_n 1, 1) := by decide +kernel
theorem d_Md_compile_9 : decode b_Md_compile 9 = .ok (.iconst (-1), 1) := by decide +kernel
theorem d_Md_compile_10 : decode b_Md_compile 10 = .ok (.if_icmp .ne 11, 3) := by decide +kernel
theorem d_Md_compile_13 : decode b_Md_compile 13 = .ok (.new 116, 3) := by decide +kernel
theorem d_Md_compile_16 : decode b_Md_compile 16 = .ok (.dup, 1) := by decide +kernel
theorem d_Md_compile_17 : decode b_Md_compile 17 = .ok (.invokespecial 118, 3) := by decide +kernel
theorem d_Md_compile_20 : decode b_Md_compile 20 = .ok (.athrow, 1) := by decide +kernel
theorem d_Md_compile_21 : decode b_Md_compile 21 = .ok (.aload_n 0, 1) := by decide +kernel
theorem d_Md_compile_22 : decode b_Md_compile 22 = .ok (.getfield 48, 3) := by decide +kernel
theorem d_Md_compile_25 : decode b_Md_compile 25 = .ok (.iload_n 1, 1) := by decide +kernel
theorem d_Md_compile_26 : decode b_Md_compile 26 = .ok (.invokevirtual 119, 3) := by decide +kernel
theorem d_Md_compile_29 : decode b_Md_compile 29 = .ok (.iload_n 1, 1) := by decide +kernel
theorem d_Md_compile_30 : decode b_Md_compile 30 = .ok (.ireturn, 1) := by decide +kernel
abbrev w_md_15_1b84 (g : GT) (a_md : Nat) (a_lat : Nat) (a_co : Nat) (a_ta : Nat) (a_gu : Nat) (a_so : Nat) (a_cn : Nat) (a_de : Nat) (a_ma : Nat) (a_bu : Nat) (a_wo : Nat) (a_od : Nat) (a_rs : Nat) (a_ca : Nat) (a_cm : Nat) (a_op : Nat) (a_pl : Nat) (a_ju : Nat) (r_md : Nat → Int32) (r_lat : Nat → Int32) (r_co : Nat → Int32) (r_ta : Nat → Int32) (r_gu : Nat → Int32) (r_so : Nat → Int32) (r_cn : Nat → Int32) (r_de : Nat → Int32) (r_ma : Nat → Int32) (r_bu : Nat → Int32) (r_wo : Nat → Int32) (r_od : Nat → Int32) (r_rs : Nat → Int32) (r_ca : Nat → Int32) (r_cm : Nat → Int32) : va_W := [kO a_md 6 [.ref a_co, .ref a_ma, .ref a_op, .ref a_pl, .ref a_ju, .int (r_md 5), .int (r_md 6)], kI g a_lat 3 r_lat, kO a_co 1 [.int (r_co 0), .ref a_ta, .ref a_gu, .ref a_so, .ref a_cn, .ref a_de], kI g a_ta 64 r_ta, kI g a_gu 256 r_gu, kI g a_so 256 r_so, kI g a_cn 256 r_cn, kI g a_de 256 r_de, kO a_ma 3 [.ref a_co, .ref a_lat, .ref a_bu, .ref a_wo, .ref a_od, .ref a_rs, .ref a_ca, .ref a_cm, .int (r_ma 8), .int (r_ma 9), .int (r_ma 10), .int (r_ma 11), .int (r_ma 12), .int (r_ma 13), .int (r_ma 14), .int (r_ma 15)], kO a_bu 0 [.int (r_bu 0), .int (r_bu 1), .int (r_bu 2), .int (r_bu 3), .int (r_bu 4), .int (r_bu 5), .int (r_bu 6), .int (r_bu 7)], kI g a_wo 72 r_wo, kI g a_od 3 r_od, kI g a_rs 3 r_rs, kI g a_ca 4 r_ca, kI g a_cm 12 r_cm]
abbrev b_Md_run : ByteArray := prog_1_method_12_code
abbrev y_Md_run : MethodName := ⟨"MoveDesk", "run", "(I)I"⟩
theorem hd_Md_run : y_Md_run.cls = "MoveDesk" ∧ y_Md_run.cls ≠ "java/lang/invoke/MethodHandle" ∧ y_Md_run.cls ≠ "java/lang/invoke/VarHandle" ∧ (parseMethodDescriptor y_Md_run.desc).map (fun d => d.parameters.length) = some 1 := by decide +kernel
theorem d_Md_run_0 : decode b_Md_run 0 = .ok (.iload_n 1, 1) := by decide +kernel
theorem d_Md_run_1 : decode b_Md_run 1 = .ok (.sipush 1000, 3) := by decide +kernel
theorem d_Md_run_4 : decode b_Md_run 4 = .ok (.invokestatic 73, 3) := by decide +kernel
theorem d_Md_run_7 : decode b_Md_run 7 = .ok (.ifCond .ne 11, 3) := by decide +kernel
theorem d_Md_run_10 : decode b_Md_run 10 = .ok (.new 76, 3) := by decide +kernel
theorem d_Md_run_13 : decode b_Md_run 13 = .ok (.dup, 1) := by decide +kernel
theorem d_Md_run_14 : decode b_Md_run 14 = .ok (.invokespecial 78, 3) := by decide +kernel
theorem d_Md_run_17 : decode b_Md_run 17 = .ok (.athrow, 1) := by decide +kernel
theorem d_Md_run_18 : decode b_Md_run 18 = .ok (.aload_n 0, 1) := by decide +kernel
theorem d_Md_run_19 : decode b_Md_run 19 = .ok (.iconst 0, 1) := by decide +kernel
theorem d_Md_run_20 : decode b_Md_run 20 = .ok (.putfield 63, 3) := by decide +kernel
theorem d_Md_run_23 : decode b_Md_run 23 = .ok (.iconst 0, 1) := by decide +kernel
theorem d_Md_run_24 : decode b_Md_run 24 = .ok (.istore_n 2, 1) := by decide +kernel
theorem d_Md_run_25 : decode b_Md_run 25 = .ok (.iload_n 2, 1) := by decide +kernel
theorem d_Md_run_26 : decode b_Md_run 26 = .ok (.iload_n 1, 1) := by decide +kernel
theorem d_Md_run_27 : decode b_Md_run 27 = .ok (.if_icmp .ge 41, 3) := by decide +kernel
theorem d_Md_run_30 : decode b_Md_run 30 = .ok (.aload_n 0, 1) := by decide +kernel
theorem d_Md_run_31 : decode b_Md_run 31 = .ok (.getfield 32, 3) := by decide +kernel
theorem d_Md_run_34 : decode b_Md_run 34 = .ok (.invokevirtual 131, 3) := by decide +kernel
theorem d_Md_run_37 : decode b_Md_run 37 = .ok (.ifCond .eq 5, 3) := by decide +kernel
theorem d_Md_run_40 : decode b_Md_run 40 = .ok (.iload_n 2, 1) := by decide +kernel
theorem d_Md_run_41 : decode b_Md_run 41 = .ok (.ireturn, 1) := by decide +kernel
theorem d_Md_run_42 : decode b_Md_run 42 = .ok (.aload_n 0, 1) := by decide +kernel
theorem d_Md_run_43 : decode b_Md_run 43 = .ok (.aload_n 0, 1) := by decide +kernel
theorem d_Md_run_44 : decode b_Md_run 44 = .ok (.getfield 32, 3) := by decide +kernel
theorem d_Md_run_47 : decode b_Md_run 47 = .ok (.invokevirtual 135, 3) := by decide +kernel
theorem d_Md_run_50 : decode b_Md_run 50 = .ok (.putfield 63, 3) := by decide +kernel
theorem d_Md_run_53 : decode b_Md_run 53 = .ok (.aload_n 0, 1) := by decide +kernel
theorem d_Md_run_54 : decode b_Md_run 54 = .ok (.getfield 63, 3) := by decide +kernel
theorem d_Md_run_57 : decode b_Md_run 57 = .ok (.ifCond .eq 5, 3) := by decide +kernel
theorem d_Md_run_60 : decode b_Md_run 60 = .ok (.iload_n 2, 1) := by decide +kernel
theorem d_Md_run_61 : decode b_Md_run 61 = .ok (.ireturn, 1) := by decide +kernel
theorem d_Md_run_62 : decode b_Md_run 62 = .ok (.iinc 2 1, 3) := by decide +kernel
theorem d_Md_run_65 : decode b_Md_run 65 = .ok (.goto (-40), 3) := by decide +kernel
theorem d_Md_run_68 : decode b_Md_run 68 = .ok (.iload_n 1, 1) := by decide +kernel
theorem d_Md_run_69 : decode b_Md_run 69 = .ok (.ireturn, 1) := by decide +kernel
abbrev w_md_ma_wo (g : GT) (a_md : Nat) (a_lat : Nat) (a_co : Nat) (a_ma : Nat) (a_bu : Nat) (a_wo : Nat) (a_od : Nat) (a_rs : Nat) (a_ca : Nat) (a_cm : Nat) (a_op : Nat) (a_pl : Nat) (a_ju : Nat) (r_md : Nat → Int32) (r_ma : Nat → Int32) (r_wo : Nat → Int32) : va_W := [kO a_md 6 [.ref a_co, .ref a_ma, .ref a_op, .ref a_pl, .ref a_ju, .int (r_md 5), .int (r_md 6)], kO a_ma 3 [.ref a_co, .ref a_lat, .ref a_bu, .ref a_wo, .ref a_od, .ref a_rs, .ref a_ca, .ref a_cm, .int (r_ma 8), .int (r_ma 9), .int (r_ma 10), .int (r_ma 11), .int (r_ma 12), .int (r_ma 13), .int (r_ma 14), .int (r_ma 15)], kI g a_wo 72 r_wo]
abbrev b_Md_poke : ByteArray := prog_1_method_13_code
abbrev y_Md_poke : MethodName := ⟨"MoveDesk", "poke", "(II)V"⟩
theorem hd_Md_poke : y_Md_poke.cls = "MoveDesk" ∧ y_Md_poke.cls ≠ "java/lang/invoke/MethodHandle" ∧ y_Md_poke.cls ≠ "java/lang/invoke/VarHandle" ∧ (parseMethodDescriptor y_Md_poke.desc).map (fun d => d.parameters.length) = some 2 := by decide +kernel
theorem d_Md_poke_0 : decode b_Md_poke 0 = .ok (.iload_n 1, 1) := by decide +kernel
theorem d_Md_poke_1 : decode b_Md_poke 1 = .ok (.invokestatic 138, 3) := by decide +kernel
theorem d_Md_poke_4 : decode b_Md_poke 4 = .ok (.ifCond .ne 11, 3) := by decide +kernel
theorem d_Md_poke_7 : decode b_Md_poke 7 = .ok (.new 70, 3) := by decide +kernel
theorem d_Md_poke_10 : decode b_Md_poke 10 = .ok (.dup, 1) := by decide +kernel
theorem d_Md_poke_11 : decode b_Md_poke 11 = .ok (.invokespecial 72, 3) := by decide +kernel
theorem d_Md_poke_14 : decode b_Md_poke 14 = .ok (.athrow, 1) := by decide +kernel
theorem d_Md_poke_15 : decode b_Md_poke 15 = .ok (.aload_n 0, 1) := by decide +kernel
theorem d_Md_poke_16 : decode b_Md_poke 16 = .ok (.getfield 32, 3) := by decide +kernel
theorem d_Md_poke_19 : decode b_Md_poke 19 = .ok (.getfield 142, 3) := by decide +kernel
theorem d_Md_poke_22 : decode b_Md_poke 22 = .ok (.iload_n 1, 1) := by decide +kernel
theorem d_Md_poke_23 : decode b_Md_poke 23 = .ok (.iload_n 2, 1) := by decide +kernel
theorem d_Md_poke_24 : decode b_Md_poke 24 = .ok (.iastore, 1) := by decide +kernel
theorem d_Md_poke_25 : decode b_Md_poke 25 = .ok (.return_, 1) := by decide +kernel
abbrev b_Md_peek : ByteArray := prog_1_method_14_code
abbrev y_Md_peek : MethodName := ⟨"MoveDesk", "peek", "(I)I"⟩
theorem hd_Md_peek : y_Md_peek.cls = "MoveDesk" ∧ y_Md_peek.cls ≠ "java/lang/invoke/MethodHandle" ∧ y_Md_peek.cls ≠ "java/lang/invoke/VarHandle" ∧ (parseMethodDescriptor y_Md_peek.desc).map (fun d => d.parameters.length) = some 1 := by decide +kernel
theorem d_Md_peek_0 : decode b_Md_peek 0 = .ok (.iload_n 1, 1) := by decide +kernel
theorem d_Md_peek_1 : decode b_Md_peek 1 = .ok (.invokestatic 138, 3) := by decide +kernel
theorem d_Md_peek_4 : decode b_Md_peek 4 = .ok (.ifCond .ne 11, 3) := by decide +kernel
theorem d_Md_peek_7 : decode b_Md_peek 7 = .ok (.new 70, 3) := by decide +kernel
theorem d_Md_peek_10 : decode b_Md_peek 10 = .ok (.dup, 1) := by decide +kernel
theorem d_Md_peek_11 : decode b_Md_peek 11 = .ok (.invokespecial 72, 3) := by decide +kernel
theorem d_Md_peek_14 : decode b_Md_peek 14 = .ok (.athrow, 1) := by decide +kernel
theorem d_Md_peek_15 : decode b_Md_peek 15 = .ok (.aload_n 0, 1) := by decide +kernel
theorem d_Md_peek_16 : decode b_Md_peek 16 = .ok (.getfield 32, 3) := by decide +kernel
theorem d_Md_peek_19 : decode b_Md_peek 19 = .ok (.getfield 142, 3) := by decide +kernel
theorem d_Md_peek_22 : decode b_Md_peek 22 = .ok (.iload_n 1, 1) := by decide +kernel
theorem d_Md_peek_23 : decode b_Md_peek 23 = .ok (.iaload, 1) := by decide +kernel
theorem d_Md_peek_24 : decode b_Md_peek 24 = .ok (.ireturn, 1) := by decide +kernel
abbrev w_md_10_8c1e (g : GT) (a_md : Nat) (a_lat : Nat) (a_co : Nat) (a_ma : Nat) (a_bu : Nat) (a_wo : Nat) (a_od : Nat) (a_rs : Nat) (a_ca : Nat) (a_cm : Nat) (a_op : Nat) (a_ki : Nat) (a_tg : Nat) (a_fi : Nat) (a_se : Nat) (a_oc : Nat) (a_cp : Nat) (a_pl : Nat) (a_ju : Nat) (r_md : Nat → Int32) (r_ma : Nat → Int32) (r_wo : Nat → Int32) (r_op : Nat → Int32) (r_ki : Nat → Int32) (r_tg : Nat → Int32) (r_fi : Nat → Int32) (r_se : Nat → Int32) (r_oc : Nat → Int32) (r_cp : Nat → Int32) : va_W := [kO a_md 6 [.ref a_co, .ref a_ma, .ref a_op, .ref a_pl, .ref a_ju, .int (r_md 5), .int (r_md 6)], kO a_ma 3 [.ref a_co, .ref a_lat, .ref a_bu, .ref a_wo, .ref a_od, .ref a_rs, .ref a_ca, .ref a_cm, .int (r_ma 8), .int (r_ma 9), .int (r_ma 10), .int (r_ma 11), .int (r_ma 12), .int (r_ma 13), .int (r_ma 14), .int (r_ma 15)], kI g a_wo 72 r_wo, kO a_op 4 [.ref a_ki, .ref a_tg, .ref a_fi, .ref a_se, .ref a_oc, .ref a_cp, .int (r_op 6)], kI g a_ki 20 r_ki, kI g a_tg 20 r_tg, kI g a_fi 20 r_fi, kI g a_se 20 r_se, kI g a_oc 20 r_oc, kI g a_cp 72 r_cp]
abbrev b_Md_done : ByteArray := prog_1_method_16_code
abbrev y_Md_done : MethodName := ⟨"MoveDesk", "done", "(I)I"⟩
theorem hd_Md_done : y_Md_done.cls = "MoveDesk" ∧ y_Md_done.cls ≠ "java/lang/invoke/MethodHandle" ∧ y_Md_done.cls ≠ "java/lang/invoke/VarHandle" ∧ (parseMethodDescriptor y_Md_done.desc).map (fun d => d.parameters.length) = some 1 := by decide +kernel
theorem d_Md_done_0 : decode b_Md_done 0 = .ok (.iload_n 1, 1) := by decide +kernel
theorem d_Md_done_1 : decode b_Md_done 1 = .ok (.invokestatic 138, 3) := by decide +kernel
theorem d_Md_done_4 : decode b_Md_done 4 = .ok (.ifCond .ne 11, 3) := by decide +kernel
theorem d_Md_done_7 : decode b_Md_done 7 = .ok (.new 70, 3) := by decide +kernel
theorem d_Md_done_10 : decode b_Md_done 10 = .ok (.dup, 1) := by decide +kernel
theorem d_Md_done_11 : decode b_Md_done 11 = .ok (.invokespecial 72, 3) := by decide +kernel
theorem d_Md_done_14 : decode b_Md_done 14 = .ok (.athrow, 1) := by decide +kernel
theorem d_Md_done_15 : decode b_Md_done 15 = .ok (.aload_n 0, 1) := by decide +kernel
theorem d_Md_done_16 : decode b_Md_done 16 = .ok (.getfield 39, 3) := by decide +kernel
theorem d_Md_done_19 : decode b_Md_done 19 = .ok (.aload_n 0, 1) := by decide +kernel
theorem d_Md_done_20 : decode b_Md_done 20 = .ok (.getfield 32, 3) := by decide +kernel
theorem d_Md_done_23 : decode b_Md_done 23 = .ok (.getfield 142, 3) := by decide +kernel
theorem d_Md_done_26 : decode b_Md_done 26 = .ok (.iload_n 1, 1) := by decide +kernel
theorem d_Md_done_27 : decode b_Md_done 27 = .ok (.invokevirtual 150, 3) := by decide +kernel
theorem d_Md_done_30 : decode b_Md_done 30 = .ok (.ireturn, 1) := by decide +kernel
def f_Md_move_49 (r_md : Nat → Int32) (r_co : Nat → Int32) (r_ta : Nat → Int32) (r_gu : Nat → Int32) (r_so : Nat → Int32) (r_cn : Nat → Int32) (r_de : Nat → Int32)  : Option (Int32 × (Nat → Int32) × (Nat → Int32) × (Nat → Int32) × (Nat → Int32) × (Nat → Int32)) :=
  some (2, r_ta, r_gu, r_so, r_cn, r_de)
def f_Md_move (r_md : Nat → Int32) (r_co : Nat → Int32) (r_ta : Nat → Int32) (r_gu : Nat → Int32) (r_so : Nat → Int32) (r_cn : Nat → Int32) (r_de : Nat → Int32) (v1 : Int32) (v2 : Int32) (v3 : Int32) (v4 : Int32) (v5 : Int32) (v6 : Int32) : Option (Int32 × (Nat → Int32) × (Nat → Int32) × (Nat → Int32) × (Nat → Int32) × (Nat → Int32)) :=
  (f_Co_reaches r_co v1 v2).bind fun y1 =>
  if y1 = 0 then
    some (1, r_ta, r_gu, r_so, r_cn, r_de)
  else
    (f_Md_isWithin v3 (8 : Int32)).bind fun y3 =>
    if y3 = 0 then
      f_Md_move_49 r_md r_co r_ta r_gu r_so r_cn r_de
    else
      (f_Md_isWithin v4 (11 : Int32)).bind fun y5 =>
      if y5 = 0 then
        f_Md_move_49 r_md r_co r_ta r_gu r_so r_cn r_de
      else
        (f_Md_isWithin v6 (25 : Int32)).bind fun y7 =>
        if y7 = 0 then
          f_Md_move_49 r_md r_co r_ta r_gu r_so r_cn r_de
        else
          (f_Co_put r_co r_ta r_gu r_so r_cn r_de v1 v2 v3 v4 v5 v6).bind fun y9 =>
          some (0, y9.1, y9.2.1, y9.2.2.1, y9.2.2.2.1, y9.2.2.2.2)
def f_Md_free (r_md : Nat → Int32) (r_co : Nat → Int32) (r_ta : Nat → Int32) (v1 : Int32) (v2 : Int32) : Option (Int32 × Int32 × (Nat → Int32)) :=
  (f_Co_reaches r_co v1 v2).bind fun y1 =>
  if y1 = 0 then
    some (1, 0, r_ta)
  else
    (f_Co_drop r_co r_ta v1 v2).bind fun y3 =>
    bk y3.1 <|
    some (0, y3.1, y3.2)
def f_Md_operation (r_md : Nat → Int32) (r_op : Nat → Int32) (r_ki : Nat → Int32) (r_tg : Nat → Int32) (r_fi : Nat → Int32) (r_se : Nat → Int32) (r_oc : Nat → Int32) (v1 : Int32) (v2 : Int32) (v3 : Int32) (v4 : Int32) (v5 : Int32) : Option (Int32 × Int32 × (Nat → Int32) × (Nat → Int32) × (Nat → Int32) × (Nat → Int32) × (Nat → Int32) × (Nat → Int32)) :=
  (f_Op_mayBe r_op v1 v2 v3 v4).bind fun y1 =>
  if y1 = 0 then
    some (1, 0, r_op, r_ki, r_tg, r_fi, r_se, r_oc)
  else
    (f_Op_count r_op).bind fun y3 =>
    if y3 < (20 : Int32) then
      (f_Op_append r_op r_ki r_tg r_fi r_se r_oc v1 v2 v3 v4 v5).bind fun y5 =>
      (f_Op_count y5.1).bind fun y6 =>
      some (0, y6, y5.1, y5.2.1, y5.2.2.1, y5.2.2.2.1, y5.2.2.2.2.1, y5.2.2.2.2.2)
    else
      some (2, 0, r_op, r_ki, r_tg, r_fi, r_se, r_oc)
def f_Md_compile (r_md : Nat → Int32) (r_lat : Nat → Int32) (r_co : Nat → Int32) (r_ta : Nat → Int32) (r_gu : Nat → Int32) (r_so : Nat → Int32) (r_cn : Nat → Int32) (r_de : Nat → Int32) (r_op : Nat → Int32) (r_ki : Nat → Int32) (r_tg : Nat → Int32) (r_fi : Nat → Int32) (r_se : Nat → Int32) (r_oc : Nat → Int32) (r_bs : Nat → Int32) (r_rr : Nat → Int32) (r_hr : Nat → Int32) (r_lw : Nat → Int32) (r_lr : Nat → Int32) (r_lt : Nat → Int32) (r_lm : Nat → Int32) (r_tc : Nat → Int32) (r_rc : Nat → Int32)  : Option (Int32 × Int32 × (Nat → Int32) × (Nat → Int32) × (Nat → Int32) × (Nat → Int32) × (Nat → Int32) × (Nat → Int32) × (Nat → Int32) × (Nat → Int32) × (Nat → Int32) × (Nat → Int32) × (Nat → Int32) × (Nat → Int32) × (Nat → Int32) × (Nat → Int32)) :=
  (f_Pl_plan r_lat r_co r_op r_ki r_tg r_fi r_se r_bs r_rr r_hr r_lw r_lr r_lt r_lm r_tc r_rc).bind fun y1 =>
  if y1.1 = (-1 : Int32) then
    some (1, 0, r_ta, r_gu, r_so, r_cn, r_de, y1.2.1, y1.2.2.1, y1.2.2.2.1, y1.2.2.2.2.1, y1.2.2.2.2.2.1, y1.2.2.2.2.2.2.1, y1.2.2.2.2.2.2.2.1, y1.2.2.2.2.2.2.2.2.1, y1.2.2.2.2.2.2.2.2.2)
  else
    (f_Pl_write r_co r_ta r_gu r_so r_cn r_de r_op r_ki r_tg r_fi r_se r_oc y1.2.2.2.2.2.2.2.2.1 y1.2.2.2.2.2.2.2.2.2 y1.1).bind fun y3 =>
    some (0, y1.1, y3.1, y3.2.1, y3.2.2.1, y3.2.2.2.1, y3.2.2.2.2, y1.2.1, y1.2.2.1, y1.2.2.2.1, y1.2.2.2.2.1, y1.2.2.2.2.2.1, y1.2.2.2.2.2.2.1, y1.2.2.2.2.2.2.2.1, y1.2.2.2.2.2.2.2.2.1, y1.2.2.2.2.2.2.2.2.2)
def f_Md_run_25 : Nat → (Nat → Int32) → (Nat → Int32) → (Nat → Int32) → (Nat → Int32) → (Nat → Int32) → (Nat → Int32) → (Nat → Int32) → (Nat → Int32) → (Nat → Int32) → (Nat → Int32) → (Nat → Int32) → (Nat → Int32) → (Nat → Int32) → (Nat → Int32) → (Nat → Int32) → Int32 → Int32 → Option (Int32 × Int32 × (Nat → Int32) × (Nat → Int32) × (Nat → Int32) × (Nat → Int32) × (Nat → Int32) × (Nat → Int32) × (Nat → Int32) × (Nat → Int32))
  | 0, _, _, _, _, _, _, _, _, _, _, _, _, _, _, _, _, _ => none
  | n + 1, r_md, r_lat, r_co, r_ta, r_gu, r_so, r_cn, r_de, r_ma, r_bu, r_wo, r_od, r_rs, r_ca, r_cm, v1, v2 =>
    if v1 ≤ v2 then
      some (0, v1, r_md, r_ma, r_bu, r_wo, r_od, r_rs, r_ca, r_cm)
    else
      (f_Ma_isHalted r_ma).bind fun y2 =>
      if y2 = 0 then
        (f_Ma_tryCycle r_lat r_co r_ta r_gu r_so r_cn r_de r_ma r_bu r_wo r_od r_rs r_ca r_cm).bind fun y4 =>
        if y4.1 = 0 then
          nm (v2 + 1) fun x6 =>
          f_Md_run_25 n (upd r_md 6 y4.1) r_lat r_co r_ta r_gu r_so r_cn r_de y4.2.1 y4.2.2.1 y4.2.2.2.1 y4.2.2.2.2.1 y4.2.2.2.2.2.1 y4.2.2.2.2.2.2.1 y4.2.2.2.2.2.2.2 v1 x6
        else
          some (0, v2, upd r_md 6 y4.1, y4.2.1, y4.2.2.1, y4.2.2.2.1, y4.2.2.2.2.1, y4.2.2.2.2.2.1, y4.2.2.2.2.2.2.1, y4.2.2.2.2.2.2.2)
      else
        some (0, v2, r_md, r_ma, r_bu, r_wo, r_od, r_rs, r_ca, r_cm)
def f_Md_run (r_md : Nat → Int32) (r_lat : Nat → Int32) (r_co : Nat → Int32) (r_ta : Nat → Int32) (r_gu : Nat → Int32) (r_so : Nat → Int32) (r_cn : Nat → Int32) (r_de : Nat → Int32) (r_ma : Nat → Int32) (r_bu : Nat → Int32) (r_wo : Nat → Int32) (r_od : Nat → Int32) (r_rs : Nat → Int32) (r_ca : Nat → Int32) (r_cm : Nat → Int32) (v1 : Int32) : Option (Int32 × Int32 × (Nat → Int32) × (Nat → Int32) × (Nat → Int32) × (Nat → Int32) × (Nat → Int32) × (Nat → Int32) × (Nat → Int32) × (Nat → Int32)) :=
  (f_Md_isWithin v1 (1000 : Int32)).bind fun y1 =>
  if y1 = 0 then
    some (1, 0, r_md, r_ma, r_bu, r_wo, r_od, r_rs, r_ca, r_cm)
  else
    f_Md_run_25 5000 (upd r_md 6 0) r_lat r_co r_ta r_gu r_so r_cn r_de r_ma r_bu r_wo r_od r_rs r_ca r_cm v1 0
def f_Md_poke (r_md : Nat → Int32) (r_ma : Nat → Int32) (r_wo : Nat → Int32) (v1 : Int32) (v2 : Int32) : Option (Int32 × (Nat → Int32)) :=
  (f_Md_isPlace v1).bind fun y1 =>
  if y1 = 0 then
    some (1, r_wo)
  else
    ck v1 72 <|
    some (0, upd r_wo v1.toNatClampNeg v2)
def f_Md_peek (r_md : Nat → Int32) (r_ma : Nat → Int32) (r_wo : Nat → Int32) (v1 : Int32) : Option (Int32 × Int32) :=
  (f_Md_isPlace v1).bind fun y1 =>
  if y1 = 0 then
    some (1, 0)
  else
    ck v1 72 <|
    some (0, r_wo v1.toNatClampNeg)
def f_Md_done (r_md : Nat → Int32) (r_ma : Nat → Int32) (r_wo : Nat → Int32) (r_op : Nat → Int32) (r_ki : Nat → Int32) (r_tg : Nat → Int32) (r_fi : Nat → Int32) (r_se : Nat → Int32) (r_oc : Nat → Int32) (r_cp : Nat → Int32) (v1 : Int32) : Option (Int32 × Int32 × (Nat → Int32)) :=
  (f_Md_isPlace v1).bind fun y1 =>
  if y1 = 0 then
    some (1, 0, r_cp)
  else
    (f_Op_valueBehind r_wo r_op r_ki r_tg r_fi r_se r_oc r_cp v1).bind fun y3 =>
    some (0, y3.1, y3.2)
abbrev rm_Md_move : Room := { frames := 1, cells := 0, slots := 0, locals := 27 }
set_option maxHeartbeats 4000000 in
set_option maxRecDepth 100000 in
theorem wlc_Md_move_49 {p : Program} {l : Launch} {e : Env} {s : State} {m : MethodId} {args : Array Value} {below : List Frame} {meth : Method} {c : Code} {A : Nat → Prop} {g : GT} {a_md : Nat} {a_co : Nat} {a_ta : Nat} {a_gu : Nat} {a_so : Nat} {a_cn : Nat} {a_de : Nat} {a_ma : Nat} {a_op : Nat} {a_pl : Nat} {a_ju : Nat} {y : Int32 × (Nat → Int32) × (Nat → Int32) × (Nat → Int32) × (Nat → Int32) × (Nat → Int32)} (M : MX p s m args meth c b_Md_move 7 none "MoveDesk" g A) (hk : y.1 = 0) : ∀ (r_md : Nat → Int32) (r_co : Nat → Int32) (r_ta : Nat → Int32) (r_gu : Nat → Int32) (r_so : Nat → Int32) (r_cn : Nat → Int32) (r_de : Nat → Int32)  (H : Heap) (locs : List Loc) (ls : Array Slot), some y = f_Md_move_49 r_md r_co r_ta r_gu r_so r_cn r_de → va_P g.1 classes (w_md_7_922b g a_md a_co a_ta a_gu a_so a_cn a_de a_ma a_op a_pl a_ju r_md r_co r_ta r_gu r_so r_cn r_de) H → va_D A (w_md_7_922b g a_md a_co a_ta a_gu a_so a_cn a_de a_ma a_op a_pl a_ju r_md r_co r_ta r_gu r_so r_cn r_de) → va_S A s.heap H locs → lv_has ls 7 [] → W p l e rm_Md_move s m args below meth c H locs 0 0 (MQ below (QW g none (w_md_7_922b g a_md a_co a_ta a_gu a_so a_cn a_de a_ma a_op a_pl a_ju r_md r_co y.2.1 y.2.2.1 y.2.2.2.1 y.2.2.2.2.1 y.2.2.2.2.2) A) args s 0 0 A) (F0 m 49 ls []) := by
  obtain ⟨hx, hb, hr, hml, hown, hts, hlocks, hA, hK, hG⟩ := id M
  intro r_md r_co r_ta r_gu r_so r_cn r_de H locs ls hE hP hD hS hl
  rw [f_Md_move_49] at hE
  have hE := Option.some.inj hE
  have hk : (2 : Int32) = 0 := by rw [hE] at hk; exact hk
  exact absurd hk (by decide)
set_option maxHeartbeats 4000000 in
set_option maxRecDepth 100000 in
theorem c_Md_move (l : Launch) (g : GT) (a_md : Nat) (a_co : Nat) (a_ta : Nat) (a_gu : Nat) (a_so : Nat) (a_cn : Nat) (a_de : Nat) (a_ma : Nat) (a_op : Nat) (a_pl : Nat) (a_ju : Nat) (r_md : Nat → Int32) (r_co : Nat → Int32) (r_ta : Nat → Int32) (r_gu : Nat → Int32) (r_so : Nat → Int32) (r_cn : Nat → Int32) (r_de : Nat → Int32) (v1 : Int32) (v2 : Int32) (v3 : Int32) (v4 : Int32) (v5 : Int32) (v6 : Int32) (y : Int32 × (Nat → Int32) × (Nat → Int32) × (Nat → Int32) × (Nat → Int32) × (Nat → Int32)) (hy : some y = f_Md_move r_md r_co r_ta r_gu r_so r_cn r_de v1 v2 v3 v4 v5 v6) (hk : y.1 = 0) : Ct l y_Md_move (.code y_Md_move b_Md_move 7 none) rm_Md_move g [.ref a_md, .int v1, .int v2, .int v3, .int v4, .int v5, .int v6] (w_md_7_922b g a_md a_co a_ta a_gu a_so a_cn a_de a_ma a_op a_pl a_ju r_md r_co r_ta r_gu r_so r_cn r_de) (w_md_7_922b g a_md a_co a_ta a_gu a_so a_cn a_de a_ma a_op a_pl a_ju r_md r_co y.2.1 y.2.2.1 y.2.2.2.1 y.2.2.2.2.1 y.2.2.2.2.2) none := by
  refine ct_in (C := "MoveDesk") rfl (by decide) (Nat.le_of_ble_eq_true rfl) (fun p e s m below meth c A ls M hP hD hS hl => ?_)
  obtain ⟨hx, hb, hr, hml, hown, hts, hlocks, hA, hK, hG⟩ := id M
  have hl : lv_has ls 7 [(0, .ref a_md), (1, .int v1), (2, .int v2), (3, .int v3), (4, .int v4), (5, .int v5), (6, .int v6)] := hl
  have hE := hy
  rw [f_Md_move] at hE
  refine lv_aload_n hx hb d_Md_move_0 rfl (lv_at hl 0 rfl) ?_
  refine va_get (D := g.1) (ci := 6) (v := .ref a_co) (C := "MoveDesk") (T := F_Md) (N := 7) hx hb hts i_Md hown hK hP 0 rfl rfl 0 (by decide) (hts _ m_271) (fun _ h9 => h9) rfl d_Md_move_1 ?_
  refine lv_iload_n hx hb d_Md_move_4 rfl (lv_at hl 1 rfl) ?_
  refine lv_iload_n hx hb d_Md_move_5 rfl (lv_at hl 2 rfl) ?_
  obtain ⟨y1, hy1, hE⟩ := bd_at hE
  refine kV (C := "MoveDesk$Code") (index := 66) (As := [.int v1, .int v2]) (rest := []) (ws2 := (w_md_7_922b g a_md a_co a_ta a_gu a_so a_cn a_de a_ma a_op a_pl a_ju r_md r_co r_ta r_gu r_so r_cn r_de)) M hP hD hS hl.1 (c_Co_reaches l g a_co a_ta a_gu a_so a_cn a_de r_co v1 v2 y1 hy1) m_297 m_298 m_299 m_3 m_300 hd_Co_reaches rfl rfl rfl ⟨by decide, by decide⟩ ⟨by decide, by decide⟩ 1 0 rfl rfl rfl [1] [0, 2, 3, 4, 5, 6] [0, 6, 1, 2, 3, 4, 5] rfl rfl rfl rfl (by decide) rfl rfl rfl (Nat.le_of_ble_eq_true rfl) d_Md_move_6 (fun H locs hP hD hS => ?_)
  refine W.eq (g2 := F0 m 9 ls [.int y1]) rfl ?_
  refine lv_if_ne (tgt := 20) hx hb d_Md_move_9 (by decide) (fun c2 => ?_) (fun c2 => ?_)
  · have hE := it_f hE c2
    refine lv_iload_n hx hb d_Md_move_20 rfl (lv_at hl 3 rfl) ?_
    refine lv_bipush (v := 8) hx hb d_Md_move_21 (by decide) ?_
    obtain ⟨y3, hy3, hE⟩ := bd_at hE
    refine kS (index := 73) (As := [.int v3, .int 8]) (rest := []) (ws2 := (w_md_7_922b g a_md a_co a_ta a_gu a_so a_cn a_de a_ma a_op a_pl a_ju r_md r_co r_ta r_gu r_so r_cn r_de)) M hP hD hS hl.1 (c_Md_isWithin l g   v3 (8 : Int32) y3 hy3) m_520 m_521 m_1 m_522 hs_Md_isWithin rfl rfl rfl ⟨by decide, by decide⟩ ⟨by decide, by decide⟩ [] [0, 1, 2, 3, 4, 5, 6] [0, 1, 2, 3, 4, 5, 6] rfl rfl rfl rfl (by decide) rfl rfl rfl (Nat.le_of_ble_eq_true rfl) d_Md_move_23 (fun H locs hP hD hS => ?_)
    refine W.eq (g2 := F0 m 26 ls [.int y3]) rfl ?_
    refine lv_if_eq (tgt := 49) hx hb d_Md_move_26 (by decide) (fun c4 => ?_) (fun c4 => ?_)
    · have hE := it_t hE c4
      exact wlc_Md_move_49 M hk _ _ _ _ _ _ _ _ _ _ hE hP hD hS (lv_sub hl [] rfl)
    · have hE := it_f hE c4
      refine lv_iload hx hb d_Md_move_29 (lv_at hl 4 rfl) ?_
      refine lv_bipush (v := 11) hx hb d_Md_move_31 (by decide) ?_
      obtain ⟨y5, hy5, hE⟩ := bd_at hE
      refine kS (index := 73) (As := [.int v4, .int 11]) (rest := []) (ws2 := (w_md_7_922b g a_md a_co a_ta a_gu a_so a_cn a_de a_ma a_op a_pl a_ju r_md r_co r_ta r_gu r_so r_cn r_de)) M hP hD hS hl.1 (c_Md_isWithin l g   v4 (11 : Int32) y5 hy5) m_520 m_521 m_1 m_522 hs_Md_isWithin rfl rfl rfl ⟨by decide, by decide⟩ ⟨by decide, by decide⟩ [] [0, 1, 2, 3, 4, 5, 6] [0, 1, 2, 3, 4, 5, 6] rfl rfl rfl rfl (by decide) rfl rfl rfl (Nat.le_of_ble_eq_true rfl) d_Md_move_33 (fun H locs hP hD hS => ?_)
      refine W.eq (g2 := F0 m 36 ls [.int y5]) rfl ?_
      refine lv_if_eq (tgt := 49) hx hb d_Md_move_36 (by decide) (fun c6 => ?_) (fun c6 => ?_)
      · have hE := it_t hE c6
        exact wlc_Md_move_49 M hk _ _ _ _ _ _ _ _ _ _ hE hP hD hS (lv_sub hl [] rfl)
      · have hE := it_f hE c6
        refine lv_iload hx hb d_Md_move_39 (lv_at hl 6 rfl) ?_
        refine lv_bipush (v := 25) hx hb d_Md_move_41 (by decide) ?_
        obtain ⟨y7, hy7, hE⟩ := bd_at hE
        refine kS (index := 73) (As := [.int v6, .int 25]) (rest := []) (ws2 := (w_md_7_922b g a_md a_co a_ta a_gu a_so a_cn a_de a_ma a_op a_pl a_ju r_md r_co r_ta r_gu r_so r_cn r_de)) M hP hD hS hl.1 (c_Md_isWithin l g   v6 (25 : Int32) y7 hy7) m_520 m_521 m_1 m_522 hs_Md_isWithin rfl rfl rfl ⟨by decide, by decide⟩ ⟨by decide, by decide⟩ [] [0, 1, 2, 3, 4, 5, 6] [0, 1, 2, 3, 4, 5, 6] rfl rfl rfl rfl (by decide) rfl rfl rfl (Nat.le_of_ble_eq_true rfl) d_Md_move_43 (fun H locs hP hD hS => ?_)
        refine W.eq (g2 := F0 m 46 ls [.int y7]) rfl ?_
        refine lv_if_ne (tgt := 57) hx hb d_Md_move_46 (by decide) (fun c8 => ?_) (fun c8 => ?_)
        · have hE := it_f hE c8
          refine lv_aload_n hx hb d_Md_move_57 rfl (lv_at hl 0 rfl) ?_
          refine va_get (D := g.1) (ci := 6) (v := .ref a_co) (C := "MoveDesk") (T := F_Md) (N := 7) hx hb hts i_Md hown hK hP 0 rfl rfl 0 (by decide) (hts _ m_271) (fun _ h9 => h9) rfl d_Md_move_58 ?_
          refine lv_iload_n hx hb d_Md_move_61 rfl (lv_at hl 1 rfl) ?_
          refine lv_iload_n hx hb d_Md_move_62 rfl (lv_at hl 2 rfl) ?_
          refine lv_iload_n hx hb d_Md_move_63 rfl (lv_at hl 3 rfl) ?_
          refine lv_iload hx hb d_Md_move_64 (lv_at hl 4 rfl) ?_
          refine lv_iload hx hb d_Md_move_66 (lv_at hl 5 rfl) ?_
          refine lv_iload hx hb d_Md_move_68 (lv_at hl 6 rfl) ?_
          obtain ⟨y9, hy9, hE⟩ := bd_at hE
          refine kV (C := "MoveDesk$Code") (index := 79) (As := [.int v1, .int v2, .int v3, .int v4, .int v5, .int v6]) (rest := []) (ws2 := (w_md_7_922b g a_md a_co a_ta a_gu a_so a_cn a_de a_ma a_op a_pl a_ju r_md r_co y9.1 y9.2.1 y9.2.2.1 y9.2.2.2.1 y9.2.2.2.2)) M hP hD hS hl.1 (c_Co_put l g a_co a_ta a_gu a_so a_cn a_de r_co r_ta r_gu r_so r_cn r_de v1 v2 v3 v4 v5 v6 y9 hy9) m_538 m_539 m_540 m_3 m_541 hd_Co_put rfl rfl rfl ⟨by decide, by decide⟩ ⟨by decide, by decide⟩ 1 0 rfl rfl rfl [1, 2, 3, 4, 5, 6] [0] [0, 1, 2, 3, 4, 5, 6] rfl rfl rfl rfl (by decide) rfl rfl rfl (Nat.le_of_ble_eq_true rfl) d_Md_move_70 (fun H locs hP hD hS => ?_)
          refine W.eq (g2 := F0 m 73 ls []) rfl ?_
          have hE := Option.some.inj hE
          rw [hE]
          exact W.vret hx hb hr (fun t ht hW => ⟨⟨rfl, by rw [ht]; exact hP, va_K.moved hW.alike hK, hD⟩, hS.F ht⟩) hS.2.2 d_Md_move_73 hlocks
        · have hE := it_t hE c8
          exact wlc_Md_move_49 M hk _ _ _ _ _ _ _ _ _ _ hE hP hD hS (lv_sub hl [] rfl)
  · have hE := it_t hE c2
    have hE := Option.some.inj hE
    have hk : (1 : Int32) = 0 := by rw [hE] at hk; exact hk
    exact absurd hk (by decide)
abbrev rmT_Md_move : Room := { frames := 6, cells := 1, slots := 6, locals := 82 }
set_option maxHeartbeats 4000000 in
set_option maxRecDepth 100000 in
theorem wlt1_Md_move_49 {p : Program} {l : Launch} {e : Env} {s : State} {m : MethodId} {args : Array Value} {below : List Frame} {meth : Method} {c : Code} {A : Nat → Prop} {g : GT} {a_md : Nat} {a_co : Nat} {a_ta : Nat} {a_gu : Nat} {a_so : Nat} {a_cn : Nat} {a_de : Nat} {a_ma : Nat} {a_op : Nat} {a_pl : Nat} {a_ju : Nat} {y : Int32 × (Nat → Int32) × (Nat → Int32) × (Nat → Int32) × (Nat → Int32) × (Nat → Int32)} (M : MX p s m args meth c b_Md_move 7 none "MoveDesk" g A) (hk : y.1 = 1) (hne : c.exceptionTable.isEmpty = true) (htr : ∀ e, l.admits e → e.platform.stackTraces = false) : ∀ (r_md : Nat → Int32) (r_co : Nat → Int32) (r_ta : Nat → Int32) (r_gu : Nat → Int32) (r_so : Nat → Int32) (r_cn : Nat → Int32) (r_de : Nat → Int32)  (H : Heap) (locs : List Loc) (ls : Array Slot), some y = f_Md_move_49 r_md r_co r_ta r_gu r_so r_cn r_de → va_P g.1 classes (w_md_7_922b g a_md a_co a_ta a_gu a_so a_cn a_de a_ma a_op a_pl a_ju r_md r_co r_ta r_gu r_so r_cn r_de) H → va_D A (w_md_7_922b g a_md a_co a_ta a_gu a_so a_cn a_de a_ma a_op a_pl a_ju r_md r_co r_ta r_gu r_so r_cn r_de) → va_S A s.heap H locs → lv_has ls 7 [] → W p l e rmT_Md_move s m args below meth c H locs 0 0 (MQT below (QT g "java/lang/IndexOutOfBoundsException" (w_md_7_922b g a_md a_co a_ta a_gu a_so a_cn a_de a_ma a_op a_pl a_ju r_md r_co y.2.1 y.2.2.1 y.2.2.2.1 y.2.2.2.2.1 y.2.2.2.2.2) A s) s 1 6 A) (F0 m 49 ls []) := by
  obtain ⟨hx, hb, hr, hml, hown, hts, hlocks, hA, hK, hG⟩ := id M
  intro r_md r_co r_ta r_gu r_so r_cn r_de H locs ls hE hP hD hS hl
  rw [f_Md_move_49] at hE
  have hE := Option.some.inj hE
  have hk : (2 : Int32) = 1 := by rw [hE] at hk; exact hk
  exact absurd hk (by decide)
set_option maxHeartbeats 4000000 in
set_option maxRecDepth 100000 in
theorem t1_Md_move (l : Launch) (htr : ∀ e, l.admits e → e.platform.stackTraces = false) (g : GT) (a_md : Nat) (a_co : Nat) (a_ta : Nat) (a_gu : Nat) (a_so : Nat) (a_cn : Nat) (a_de : Nat) (a_ma : Nat) (a_op : Nat) (a_pl : Nat) (a_ju : Nat) (r_md : Nat → Int32) (r_co : Nat → Int32) (r_ta : Nat → Int32) (r_gu : Nat → Int32) (r_so : Nat → Int32) (r_cn : Nat → Int32) (r_de : Nat → Int32) (v1 : Int32) (v2 : Int32) (v3 : Int32) (v4 : Int32) (v5 : Int32) (v6 : Int32) (y : Int32 × (Nat → Int32) × (Nat → Int32) × (Nat → Int32) × (Nat → Int32) × (Nat → Int32)) (hy : some y = f_Md_move r_md r_co r_ta r_gu r_so r_cn r_de v1 v2 v3 v4 v5 v6) (hk : y.1 = 1) : CtT l y_Md_move (.code y_Md_move b_Md_move 7 none) rmT_Md_move g [.ref a_md, .int v1, .int v2, .int v3, .int v4, .int v5, .int v6] (w_md_7_922b g a_md a_co a_ta a_gu a_so a_cn a_de a_ma a_op a_pl a_ju r_md r_co r_ta r_gu r_so r_cn r_de) (w_md_7_922b g a_md a_co a_ta a_gu a_so a_cn a_de a_ma a_op a_pl a_ju r_md r_co y.2.1 y.2.2.1 y.2.2.2.1 y.2.2.2.2.1 y.2.2.2.2.2) "java/lang/IndexOutOfBoundsException" := by
  refine ct_inT (C := "MoveDesk") rfl (by decide) (Nat.le_of_ble_eq_true rfl) (fun p e s m below meth c A ls M hne hP hD hS hl => ?_)
  obtain ⟨hx, hb, hr, hml, hown, hts, hlocks, hA, hK, hG⟩ := id M
  have hl : lv_has ls 7 [(0, .ref a_md), (1, .int v1), (2, .int v2), (3, .int v3), (4, .int v4), (5, .int v5), (6, .int v6)] := hl
  have hE := hy
  rw [f_Md_move] at hE
  refine lv_aload_n hx hb d_Md_move_0 rfl (lv_at hl 0 rfl) ?_
  refine va_get (D := g.1) (ci := 6) (v := .ref a_co) (C := "MoveDesk") (T := F_Md) (N := 7) hx hb hts i_Md hown hK hP 0 rfl rfl 0 (by decide) (hts _ m_271) (fun _ h9 => h9) rfl d_Md_move_1 ?_
  refine lv_iload_n hx hb d_Md_move_4 rfl (lv_at hl 1 rfl) ?_
  refine lv_iload_n hx hb d_Md_move_5 rfl (lv_at hl 2 rfl) ?_
  obtain ⟨y1, hy1, hE⟩ := bd_at hE
  refine kV (C := "MoveDesk$Code") (index := 66) (As := [.int v1, .int v2]) (rest := []) (ws2 := (w_md_7_922b g a_md a_co a_ta a_gu a_so a_cn a_de a_ma a_op a_pl a_ju r_md r_co r_ta r_gu r_so r_cn r_de)) M hP hD hS hl.1 (c_Co_reaches l g a_co a_ta a_gu a_so a_cn a_de r_co v1 v2 y1 hy1) m_297 m_298 m_299 m_3 m_300 hd_Co_reaches rfl rfl rfl ⟨by decide, by decide⟩ ⟨by decide, by decide⟩ 1 0 rfl rfl rfl [1] [0, 2, 3, 4, 5, 6] [0, 6, 1, 2, 3, 4, 5] rfl rfl rfl rfl (by decide) rfl rfl rfl (Nat.le_of_ble_eq_true rfl) d_Md_move_6 (fun H locs hP hD hS => ?_)
  refine W.eq (g2 := F0 m 9 ls [.int y1]) rfl ?_
  refine lv_if_ne (tgt := 20) hx hb d_Md_move_9 (by decide) (fun c2 => ?_) (fun c2 => ?_)
  · have hE := it_f hE c2
    refine lv_iload_n hx hb d_Md_move_20 rfl (lv_at hl 3 rfl) ?_
    refine lv_bipush (v := 8) hx hb d_Md_move_21 (by decide) ?_
    obtain ⟨y3, hy3, hE⟩ := bd_at hE
    refine kS (index := 73) (As := [.int v3, .int 8]) (rest := []) (ws2 := (w_md_7_922b g a_md a_co a_ta a_gu a_so a_cn a_de a_ma a_op a_pl a_ju r_md r_co r_ta r_gu r_so r_cn r_de)) M hP hD hS hl.1 (c_Md_isWithin l g   v3 (8 : Int32) y3 hy3) m_520 m_521 m_1 m_522 hs_Md_isWithin rfl rfl rfl ⟨by decide, by decide⟩ ⟨by decide, by decide⟩ [] [0, 1, 2, 3, 4, 5, 6] [0, 1, 2, 3, 4, 5, 6] rfl rfl rfl rfl (by decide) rfl rfl rfl (Nat.le_of_ble_eq_true rfl) d_Md_move_23 (fun H locs hP hD hS => ?_)
    refine W.eq (g2 := F0 m 26 ls [.int y3]) rfl ?_
    refine lv_if_eq (tgt := 49) hx hb d_Md_move_26 (by decide) (fun c4 => ?_) (fun c4 => ?_)
    · have hE := it_t hE c4
      exact wlt1_Md_move_49 M hk hne htr _ _ _ _ _ _ _ _ _ _ hE hP hD hS (lv_sub hl [] rfl)
    · have hE := it_f hE c4
      refine lv_iload hx hb d_Md_move_29 (lv_at hl 4 rfl) ?_
      refine lv_bipush (v := 11) hx hb d_Md_move_31 (by decide) ?_
      obtain ⟨y5, hy5, hE⟩ := bd_at hE
      refine kS (index := 73) (As := [.int v4, .int 11]) (rest := []) (ws2 := (w_md_7_922b g a_md a_co a_ta a_gu a_so a_cn a_de a_ma a_op a_pl a_ju r_md r_co r_ta r_gu r_so r_cn r_de)) M hP hD hS hl.1 (c_Md_isWithin l g   v4 (11 : Int32) y5 hy5) m_520 m_521 m_1 m_522 hs_Md_isWithin rfl rfl rfl ⟨by decide, by decide⟩ ⟨by decide, by decide⟩ [] [0, 1, 2, 3, 4, 5, 6] [0, 1, 2, 3, 4, 5, 6] rfl rfl rfl rfl (by decide) rfl rfl rfl (Nat.le_of_ble_eq_true rfl) d_Md_move_33 (fun H locs hP hD hS => ?_)
      refine W.eq (g2 := F0 m 36 ls [.int y5]) rfl ?_
      refine lv_if_eq (tgt := 49) hx hb d_Md_move_36 (by decide) (fun c6 => ?_) (fun c6 => ?_)
      · have hE := it_t hE c6
        exact wlt1_Md_move_49 M hk hne htr _ _ _ _ _ _ _ _ _ _ hE hP hD hS (lv_sub hl [] rfl)
      · have hE := it_f hE c6
        refine lv_iload hx hb d_Md_move_39 (lv_at hl 6 rfl) ?_
        refine lv_bipush (v := 25) hx hb d_Md_move_41 (by decide) ?_
        obtain ⟨y7, hy7, hE⟩ := bd_at hE
        refine kS (index := 73) (As := [.int v6, .int 25]) (rest := []) (ws2 := (w_md_7_922b g a_md a_co a_ta a_gu a_so a_cn a_de a_ma a_op a_pl a_ju r_md r_co r_ta r_gu r_so r_cn r_de)) M hP hD hS hl.1 (c_Md_isWithin l g   v6 (25 : Int32) y7 hy7) m_520 m_521 m_1 m_522 hs_Md_isWithin rfl rfl rfl ⟨by decide, by decide⟩ ⟨by decide, by decide⟩ [] [0, 1, 2, 3, 4, 5, 6] [0, 1, 2, 3, 4, 5, 6] rfl rfl rfl rfl (by decide) rfl rfl rfl (Nat.le_of_ble_eq_true rfl) d_Md_move_43 (fun H locs hP hD hS => ?_)
        refine W.eq (g2 := F0 m 46 ls [.int y7]) rfl ?_
        refine lv_if_ne (tgt := 57) hx hb d_Md_move_46 (by decide) (fun c8 => ?_) (fun c8 => ?_)
        · have hE := it_f hE c8
          refine lv_aload_n hx hb d_Md_move_57 rfl (lv_at hl 0 rfl) ?_
          refine va_get (D := g.1) (ci := 6) (v := .ref a_co) (C := "MoveDesk") (T := F_Md) (N := 7) hx hb hts i_Md hown hK hP 0 rfl rfl 0 (by decide) (hts _ m_271) (fun _ h9 => h9) rfl d_Md_move_58 ?_
          refine lv_iload_n hx hb d_Md_move_61 rfl (lv_at hl 1 rfl) ?_
          refine lv_iload_n hx hb d_Md_move_62 rfl (lv_at hl 2 rfl) ?_
          refine lv_iload_n hx hb d_Md_move_63 rfl (lv_at hl 3 rfl) ?_
          refine lv_iload hx hb d_Md_move_64 (lv_at hl 4 rfl) ?_
          refine lv_iload hx hb d_Md_move_66 (lv_at hl 5 rfl) ?_
          refine lv_iload hx hb d_Md_move_68 (lv_at hl 6 rfl) ?_
          obtain ⟨y9, hy9, hE⟩ := bd_at hE
          refine kV (C := "MoveDesk$Code") (index := 79) (As := [.int v1, .int v2, .int v3, .int v4, .int v5, .int v6]) (rest := []) (ws2 := (w_md_7_922b g a_md a_co a_ta a_gu a_so a_cn a_de a_ma a_op a_pl a_ju r_md r_co y9.1 y9.2.1 y9.2.2.1 y9.2.2.2.1 y9.2.2.2.2)) M hP hD hS hl.1 (c_Co_put l g a_co a_ta a_gu a_so a_cn a_de r_co r_ta r_gu r_so r_cn r_de v1 v2 v3 v4 v5 v6 y9 hy9) m_538 m_539 m_540 m_3 m_541 hd_Co_put rfl rfl rfl ⟨by decide, by decide⟩ ⟨by decide, by decide⟩ 1 0 rfl rfl rfl [1, 2, 3, 4, 5, 6] [0] [0, 1, 2, 3, 4, 5, 6] rfl rfl rfl rfl (by decide) rfl rfl rfl (Nat.le_of_ble_eq_true rfl) d_Md_move_70 (fun H locs hP hD hS => ?_)
          refine W.eq (g2 := F0 m 73 ls []) rfl ?_
          have hE := Option.some.inj hE
          have hk : (0 : Int32) = 1 := by rw [hE] at hk; exact hk
          exact absurd hk (by decide)
        · have hE := it_t hE c8
          exact wlt1_Md_move_49 M hk hne htr _ _ _ _ _ _ _ _ _ _ hE hP hD hS (lv_sub hl [] rfl)
  · have hE := it_t hE c2
    have hE := Option.some.inj hE
    try rw [hE]
    exact k_throw M hP hD hS hne htr x_IOOBE (by decide) m_456 m_457 m_13 hl.1 (by decide) (by decide) (by decide) (by decide) d_Md_move_12 d_Md_move_15 d_Md_move_16 d_Md_move_19
set_option maxHeartbeats 4000000 in
set_option maxRecDepth 100000 in
theorem wlt2_Md_move_49 {p : Program} {l : Launch} {e : Env} {s : State} {m : MethodId} {args : Array Value} {below : List Frame} {meth : Method} {c : Code} {A : Nat → Prop} {g : GT} {a_md : Nat} {a_co : Nat} {a_ta : Nat} {a_gu : Nat} {a_so : Nat} {a_cn : Nat} {a_de : Nat} {a_ma : Nat} {a_op : Nat} {a_pl : Nat} {a_ju : Nat} {y : Int32 × (Nat → Int32) × (Nat → Int32) × (Nat → Int32) × (Nat → Int32) × (Nat → Int32)} (M : MX p s m args meth c b_Md_move 7 none "MoveDesk" g A) (hk : y.1 = 2) (hne : c.exceptionTable.isEmpty = true) (htr : ∀ e, l.admits e → e.platform.stackTraces = false) : ∀ (r_md : Nat → Int32) (r_co : Nat → Int32) (r_ta : Nat → Int32) (r_gu : Nat → Int32) (r_so : Nat → Int32) (r_cn : Nat → Int32) (r_de : Nat → Int32)  (H : Heap) (locs : List Loc) (ls : Array Slot), some y = f_Md_move_49 r_md r_co r_ta r_gu r_so r_cn r_de → va_P g.1 classes (w_md_7_922b g a_md a_co a_ta a_gu a_so a_cn a_de a_ma a_op a_pl a_ju r_md r_co r_ta r_gu r_so r_cn r_de) H → va_D A (w_md_7_922b g a_md a_co a_ta a_gu a_so a_cn a_de a_ma a_op a_pl a_ju r_md r_co r_ta r_gu r_so r_cn r_de) → va_S A s.heap H locs → lv_has ls 7 [] → W p l e rmT_Md_move s m args below meth c H locs 0 0 (MQT below (QT g "java/lang/IllegalArgumentException" (w_md_7_922b g a_md a_co a_ta a_gu a_so a_cn a_de a_ma a_op a_pl a_ju r_md r_co y.2.1 y.2.2.1 y.2.2.2.1 y.2.2.2.2.1 y.2.2.2.2.2) A s) s 1 6 A) (F0 m 49 ls []) := by
  obtain ⟨hx, hb, hr, hml, hown, hts, hlocks, hA, hK, hG⟩ := id M
  intro r_md r_co r_ta r_gu r_so r_cn r_de H locs ls hE hP hD hS hl
  rw [f_Md_move_49] at hE
  have hE := Option.some.inj hE
  try rw [hE]
  exact k_throw M hP hD hS hne htr x_IAE (by decide) m_523 m_524 m_14 hl.1 (by decide) (by decide) (by decide) (by decide) d_Md_move_49 d_Md_move_52 d_Md_move_53 d_Md_move_56
set_option maxHeartbeats 4000000 in
set_option maxRecDepth 100000 in
theorem t2_Md_move (l : Launch) (htr : ∀ e, l.admits e → e.platform.stackTraces = false) (g : GT) (a_md : Nat) (a_co : Nat) (a_ta : Nat) (a_gu : Nat) (a_so : Nat) (a_cn : Nat) (a_de : Nat) (a_ma : Nat) (a_op : Nat) (a_pl : Nat) (a_ju : Nat) (r_md : Nat → Int32) (r_co : Nat → Int32) (r_ta : Nat → Int32) (r_gu : Nat → Int32) (r_so : Nat → Int32) (r_cn : Nat → Int32) (r_de : Nat → Int32) (v1 : Int32) (v2 : Int32) (v3 : Int32) (v4 : Int32) (v5 : Int32) (v6 : Int32) (y : Int32 × (Nat → Int32) × (Nat → Int32) × (Nat → Int32) × (Nat → Int32) × (Nat → Int32)) (hy : some y = f_Md_move r_md r_co r_ta r_gu r_so r_cn r_de v1 v2 v3 v4 v5 v6) (hk : y.1 = 2) : CtT l y_Md_move (.code y_Md_move b_Md_move 7 none) rmT_Md_move g [.ref a_md, .int v1, .int v2, .int v3, .int v4, .int v5, .int v6] (w_md_7_922b g a_md a_co a_ta a_gu a_so a_cn a_de a_ma a_op a_pl a_ju r_md r_co r_ta r_gu r_so r_cn r_de) (w_md_7_922b g a_md a_co a_ta a_gu a_so a_cn a_de a_ma a_op a_pl a_ju r_md r_co y.2.1 y.2.2.1 y.2.2.2.1 y.2.2.2.2.1 y.2.2.2.2.2) "java/lang/IllegalArgumentException" := by
  refine ct_inT (C := "MoveDesk") rfl (by decide) (Nat.le_of_ble_eq_true rfl) (fun p e s m below meth c A ls M hne hP hD hS hl => ?_)
  obtain ⟨hx, hb, hr, hml, hown, hts, hlocks, hA, hK, hG⟩ := id M
  have hl : lv_has ls 7 [(0, .ref a_md), (1, .int v1), (2, .int v2), (3, .int v3), (4, .int v4), (5, .int v5), (6, .int v6)] := hl
  have hE := hy
  rw [f_Md_move] at hE
  refine lv_aload_n hx hb d_Md_move_0 rfl (lv_at hl 0 rfl) ?_
  refine va_get (D := g.1) (ci := 6) (v := .ref a_co) (C := "MoveDesk") (T := F_Md) (N := 7) hx hb hts i_Md hown hK hP 0 rfl rfl 0 (by decide) (hts _ m_271) (fun _ h9 => h9) rfl d_Md_move_1 ?_
  refine lv_iload_n hx hb d_Md_move_4 rfl (lv_at hl 1 rfl) ?_
  refine lv_iload_n hx hb d_Md_move_5 rfl (lv_at hl 2 rfl) ?_
  obtain ⟨y1, hy1, hE⟩ := bd_at hE
  refine kV (C := "MoveDesk$Code") (index := 66) (As := [.int v1, .int v2]) (rest := []) (ws2 := (w_md_7_922b g a_md a_co a_ta a_gu a_so a_cn a_de a_ma a_op a_pl a_ju r_md r_co r_ta r_gu r_so r_cn r_de)) M hP hD hS hl.1 (c_Co_reaches l g a_co a_ta a_gu a_so a_cn a_de r_co v1 v2 y1 hy1) m_297 m_298 m_299 m_3 m_300 hd_Co_reaches rfl rfl rfl ⟨by decide, by decide⟩ ⟨by decide, by decide⟩ 1 0 rfl rfl rfl [1] [0, 2, 3, 4, 5, 6] [0, 6, 1, 2, 3, 4, 5] rfl rfl rfl rfl (by decide) rfl rfl rfl (Nat.le_of_ble_eq_true rfl) d_Md_move_6 (fun H locs hP hD hS => ?_)
  refine W.eq (g2 := F0 m 9 ls [.int y1]) rfl ?_
  refine lv_if_ne (tgt := 20) hx hb d_Md_move_9 (by decide) (fun c2 => ?_) (fun c2 => ?_)
  · have hE := it_f hE c2
    refine lv_iload_n hx hb d_Md_move_20 rfl (lv_at hl 3 rfl) ?_
    refine lv_bipush (v := 8) hx hb d_Md_move_21 (by decide) ?_
    obtain ⟨y3, hy3, hE⟩ := bd_at hE
    refine kS (index := 73) (As := [.int v3, .int 8]) (rest := []) (ws2 := (w_md_7_922b g a_md a_co a_ta a_gu a_so a_cn a_de a_ma a_op a_pl a_ju r_md r_co r_ta r_gu r_so r_cn r_de)) M hP hD hS hl.1 (c_Md_isWithin l g   v3 (8 : Int32) y3 hy3) m_520 m_521 m_1 m_522 hs_Md_isWithin rfl rfl rfl ⟨by decide, by decide⟩ ⟨by decide, by decide⟩ [] [0, 1, 2, 3, 4, 5, 6] [0, 1, 2, 3, 4, 5, 6] rfl rfl rfl rfl (by decide) rfl rfl rfl (Nat.le_of_ble_eq_true rfl) d_Md_move_23 (fun H locs hP hD hS => ?_)
    refine W.eq (g2 := F0 m 26 ls [.int y3]) rfl ?_
    refine lv_if_eq (tgt := 49) hx hb d_Md_move_26 (by decide) (fun c4 => ?_) (fun c4 => ?_)
    · have hE := it_t hE c4
      exact wlt2_Md_move_49 M hk hne htr _ _ _ _ _ _ _ _ _ _ hE hP hD hS (lv_sub hl [] rfl)
    · have hE := it_f hE c4
      refine lv_iload hx hb d_Md_move_29 (lv_at hl 4 rfl) ?_
      refine lv_bipush (v := 11) hx hb d_Md_move_31 (by decide) ?_
      obtain ⟨y5, hy5, hE⟩ := bd_at hE
      refine kS (index := 73) (As := [.int v4, .int 11]) (rest := []) (ws2 := (w_md_7_922b g a_md a_co a_ta a_gu a_so a_cn a_de a_ma a_op a_pl a_ju r_md r_co r_ta r_gu r_so r_cn r_de)) M hP hD hS hl.1 (c_Md_isWithin l g   v4 (11 : Int32) y5 hy5) m_520 m_521 m_1 m_522 hs_Md_isWithin rfl rfl rfl ⟨by decide, by decide⟩ ⟨by decide, by decide⟩ [] [0, 1, 2, 3, 4, 5, 6] [0, 1, 2, 3, 4, 5, 6] rfl rfl rfl rfl (by decide) rfl rfl rfl (Nat.le_of_ble_eq_true rfl) d_Md_move_33 (fun H locs hP hD hS => ?_)
      refine W.eq (g2 := F0 m 36 ls [.int y5]) rfl ?_
      refine lv_if_eq (tgt := 49) hx hb d_Md_move_36 (by decide) (fun c6 => ?_) (fun c6 => ?_)
      · have hE := it_t hE c6
        exact wlt2_Md_move_49 M hk hne htr _ _ _ _ _ _ _ _ _ _ hE hP hD hS (lv_sub hl [] rfl)
      · have hE := it_f hE c6
        refine lv_iload hx hb d_Md_move_39 (lv_at hl 6 rfl) ?_
        refine lv_bipush (v := 25) hx hb d_Md_move_41 (by decide) ?_
        obtain ⟨y7, hy7, hE⟩ := bd_at hE
        refine kS (index := 73) (As := [.int v6, .int 25]) (rest := []) (ws2 := (w_md_7_922b g a_md a_co a_ta a_gu a_so a_cn a_de a_ma a_op a_pl a_ju r_md r_co r_ta r_gu r_so r_cn r_de)) M hP hD hS hl.1 (c_Md_isWithin l g   v6 (25 : Int32) y7 hy7) m_520 m_521 m_1 m_522 hs_Md_isWithin rfl rfl rfl ⟨by decide, by decide⟩ ⟨by decide, by decide⟩ [] [0, 1, 2, 3, 4, 5, 6] [0, 1, 2, 3, 4, 5, 6] rfl rfl rfl rfl (by decide) rfl rfl rfl (Nat.le_of_ble_eq_true rfl) d_Md_move_43 (fun H locs hP hD hS => ?_)
        refine W.eq (g2 := F0 m 46 ls [.int y7]) rfl ?_
        refine lv_if_ne (tgt := 57) hx hb d_Md_move_46 (by decide) (fun c8 => ?_) (fun c8 => ?_)
        · have hE := it_f hE c8
          refine lv_aload_n hx hb d_Md_move_57 rfl (lv_at hl 0 rfl) ?_
          refine va_get (D := g.1) (ci := 6) (v := .ref a_co) (C := "MoveDesk") (T := F_Md) (N := 7) hx hb hts i_Md hown hK hP 0 rfl rfl 0 (by decide) (hts _ m_271) (fun _ h9 => h9) rfl d_Md_move_58 ?_
          refine lv_iload_n hx hb d_Md_move_61 rfl (lv_at hl 1 rfl) ?_
          refine lv_iload_n hx hb d_Md_move_62 rfl (lv_at hl 2 rfl) ?_
          refine lv_iload_n hx hb d_Md_move_63 rfl (lv_at hl 3 rfl) ?_
          refine lv_iload hx hb d_Md_move_64 (lv_at hl 4 rfl) ?_
          refine lv_iload hx hb d_Md_move_66 (lv_at hl 5 rfl) ?_
          refine lv_iload hx hb d_Md_move_68 (lv_at hl 6 rfl) ?_
          obtain ⟨y9, hy9, hE⟩ := bd_at hE
          refine kV (C := "MoveDesk$Code") (index := 79) (As := [.int v1, .int v2, .int v3, .int v4, .int v5, .int v6]) (rest := []) (ws2 := (w_md_7_922b g a_md a_co a_ta a_gu a_so a_cn a_de a_ma a_op a_pl a_ju r_md r_co y9.1 y9.2.1 y9.2.2.1 y9.2.2.2.1 y9.2.2.2.2)) M hP hD hS hl.1 (c_Co_put l g a_co a_ta a_gu a_so a_cn a_de r_co r_ta r_gu r_so r_cn r_de v1 v2 v3 v4 v5 v6 y9 hy9) m_538 m_539 m_540 m_3 m_541 hd_Co_put rfl rfl rfl ⟨by decide, by decide⟩ ⟨by decide, by decide⟩ 1 0 rfl rfl rfl [1, 2, 3, 4, 5, 6] [0] [0, 1, 2, 3, 4, 5, 6] rfl rfl rfl rfl (by decide) rfl rfl rfl (Nat.le_of_ble_eq_true rfl) d_Md_move_70 (fun H locs hP hD hS => ?_)
          refine W.eq (g2 := F0 m 73 ls []) rfl ?_
          have hE := Option.some.inj hE
          have hk : (0 : Int32) = 2 := by rw [hE] at hk; exact hk
          exact absurd hk (by decide)
        · have hE := it_t hE c8
          exact wlt2_Md_move_49 M hk hne htr _ _ _ _ _ _ _ _ _ _ hE hP hD hS (lv_sub hl [] rfl)
  · have hE := it_t hE c2
    have hE := Option.some.inj hE
    have hk : (1 : Int32) = 2 := by rw [hE] at hk; exact hk
    exact absurd hk (by decide)
abbrev rm_Md_free : Room := { frames := 2, cells := 0, slots := 0, locals := 45 }
set_option maxHeartbeats 4000000 in
set_option maxRecDepth 100000 in
theorem c_Md_free (l : Launch) (g : GT) (a_md : Nat) (a_co : Nat) (a_ta : Nat) (a_gu : Nat) (a_so : Nat) (a_cn : Nat) (a_de : Nat) (a_ma : Nat) (a_op : Nat) (a_pl : Nat) (a_ju : Nat) (r_md : Nat → Int32) (r_co : Nat → Int32) (r_ta : Nat → Int32) (v1 : Int32) (v2 : Int32) (y : Int32 × Int32 × (Nat → Int32)) (hy : some y = f_Md_free r_md r_co r_ta v1 v2) (hk : y.1 = 0) : Ct l y_Md_free (.code y_Md_free b_Md_free 3 (some .boolean)) rm_Md_free g [.ref a_md, .int v1, .int v2] (w_md_co_ta g a_md a_co a_ta a_gu a_so a_cn a_de a_ma a_op a_pl a_ju r_md r_co r_ta) (w_md_co_ta g a_md a_co a_ta a_gu a_so a_cn a_de a_ma a_op a_pl a_ju r_md r_co y.2.2) (some (.int y.2.1)) := by
  refine ct_in (C := "MoveDesk") rfl (by decide) (Nat.le_of_ble_eq_true rfl) (fun p e s m below meth c A ls M hP hD hS hl => ?_)
  obtain ⟨hx, hb, hr, hml, hown, hts, hlocks, hA, hK, hG⟩ := id M
  have hl : lv_has ls 3 [(0, .ref a_md), (1, .int v1), (2, .int v2)] := hl
  have hE := hy
  rw [f_Md_free] at hE
  refine lv_aload_n hx hb d_Md_free_0 rfl (lv_at hl 0 rfl) ?_
  refine va_get (D := g.1) (ci := 6) (v := .ref a_co) (C := "MoveDesk") (T := F_Md) (N := 7) hx hb hts i_Md hown hK hP 0 rfl rfl 0 (by decide) (hts _ m_271) (fun _ h9 => h9) rfl d_Md_free_1 ?_
  refine lv_iload_n hx hb d_Md_free_4 rfl (lv_at hl 1 rfl) ?_
  refine lv_iload_n hx hb d_Md_free_5 rfl (lv_at hl 2 rfl) ?_
  obtain ⟨y1, hy1, hE⟩ := bd_at hE
  refine kV (C := "MoveDesk$Code") (index := 66) (As := [.int v1, .int v2]) (rest := []) (ws2 := (w_md_co_ta g a_md a_co a_ta a_gu a_so a_cn a_de a_ma a_op a_pl a_ju r_md r_co r_ta)) M hP hD hS hl.1 (c_Co_reaches l g a_co a_ta a_gu a_so a_cn a_de r_co v1 v2 y1 hy1) m_297 m_298 m_299 m_3 m_300 hd_Co_reaches rfl rfl rfl ⟨by decide, by decide⟩ ⟨by decide, by decide⟩ 1 0 rfl rfl rfl [1] [0, 2] [0, 2, 1] rfl rfl rfl rfl (by decide) rfl rfl rfl (Nat.le_of_ble_eq_true rfl) d_Md_free_6 (fun H locs hP hD hS => ?_)
  refine W.eq (g2 := F0 m 9 ls [.int y1]) rfl ?_
  refine lv_if_ne (tgt := 20) hx hb d_Md_free_9 (by decide) (fun c2 => ?_) (fun c2 => ?_)
  · have hE := it_f hE c2
    refine lv_aload_n hx hb d_Md_free_20 rfl (lv_at hl 0 rfl) ?_
    refine va_get (D := g.1) (ci := 6) (v := .ref a_co) (C := "MoveDesk") (T := F_Md) (N := 7) hx hb hts i_Md hown hK hP 0 rfl rfl 0 (by decide) (hts _ m_271) (fun _ h9 => h9) rfl d_Md_free_21 ?_
    refine lv_iload_n hx hb d_Md_free_24 rfl (lv_at hl 1 rfl) ?_
    refine lv_iload_n hx hb d_Md_free_25 rfl (lv_at hl 2 rfl) ?_
    obtain ⟨y3, hy3, hE⟩ := bd_at hE
    refine kV (C := "MoveDesk$Code") (index := 83) (As := [.int v1, .int v2]) (rest := []) (ws2 := (w_md_co_ta g a_md a_co a_ta a_gu a_so a_cn a_de a_ma a_op a_pl a_ju r_md r_co y3.2)) M hP hD hS hl.1 (c_Co_drop l g a_co a_ta a_gu a_so a_cn a_de r_co r_ta v1 v2 y3 hy3) m_549 m_550 m_551 m_3 m_552 hd_Co_drop rfl rfl rfl ⟨by decide, by decide⟩ ⟨by decide, by decide⟩ 1 0 rfl rfl rfl [1, 2] [0] [0, 1, 2] rfl rfl rfl rfl (by decide) rfl rfl rfl (Nat.le_of_ble_eq_true rfl) d_Md_free_26 (fun H locs hP hD hS => ?_)
    refine W.eq (g2 := F0 m 29 ls [.int y3.1]) rfl ?_
    have ⟨hn29, hE⟩ := bk_at hE
    have hE := Option.some.inj hE
    rw [hE]
    exact W.zret (v := y3.1) (ty := .boolean) hx hb hr hn29 (fun t ht hW => ⟨⟨rfl, by rw [ht]; exact hP, va_K.moved hW.alike hK, hD⟩, hS.F ht⟩) hS.2.2 d_Md_free_29 hlocks
  · have hE := it_t hE c2
    have hE := Option.some.inj hE
    have hk : (1 : Int32) = 0 := by rw [hE] at hk; exact hk
    exact absurd hk (by decide)
abbrev rmT_Md_free : Room := { frames := 6, cells := 1, slots := 6, locals := 82 }
set_option maxHeartbeats 4000000 in
set_option maxRecDepth 100000 in
theorem t1_Md_free (l : Launch) (htr : ∀ e, l.admits e → e.platform.stackTraces = false) (g : GT) (a_md : Nat) (a_co : Nat) (a_ta : Nat) (a_gu : Nat) (a_so : Nat) (a_cn : Nat) (a_de : Nat) (a_ma : Nat) (a_op : Nat) (a_pl : Nat) (a_ju : Nat) (r_md : Nat → Int32) (r_co : Nat → Int32) (r_ta : Nat → Int32) (v1 : Int32) (v2 : Int32) (y : Int32 × Int32 × (Nat → Int32)) (hy : some y = f_Md_free r_md r_co r_ta v1 v2) (hk : y.1 = 1) : CtT l y_Md_free (.code y_Md_free b_Md_free 3 (some .boolean)) rmT_Md_free g [.ref a_md, .int v1, .int v2] (w_md_co_ta g a_md a_co a_ta a_gu a_so a_cn a_de a_ma a_op a_pl a_ju r_md r_co r_ta) (w_md_co_ta g a_md a_co a_ta a_gu a_so a_cn a_de a_ma a_op a_pl a_ju r_md r_co y.2.2) "java/lang/IndexOutOfBoundsException" := by
  refine ct_inT (C := "MoveDesk") rfl (by decide) (Nat.le_of_ble_eq_true rfl) (fun p e s m below meth c A ls M hne hP hD hS hl => ?_)
  obtain ⟨hx, hb, hr, hml, hown, hts, hlocks, hA, hK, hG⟩ := id M
  have hl : lv_has ls 3 [(0, .ref a_md), (1, .int v1), (2, .int v2)] := hl
  have hE := hy
  rw [f_Md_free] at hE
  refine lv_aload_n hx hb d_Md_free_0 rfl (lv_at hl 0 rfl) ?_
  refine va_get (D := g.1) (ci := 6) (v := .ref a_co) (C := "MoveDesk") (T := F_Md) (N := 7) hx hb hts i_Md hown hK hP 0 rfl rfl 0 (by decide) (hts _ m_271) (fun _ h9 => h9) rfl d_Md_free_1 ?_
  refine lv_iload_n hx hb d_Md_free_4 rfl (lv_at hl 1 rfl) ?_
  refine lv_iload_n hx hb d_Md_free_5 rfl (lv_at hl 2 rfl) ?_
  obtain ⟨y1, hy1, hE⟩ := bd_at hE
  refine kV (C := "MoveDesk$Code") (index := 66) (As := [.int v1, .int v2]) (rest := []) (ws2 := (w_md_co_ta g a_md a_co a_ta a_gu a_so a_cn a_de a_ma a_op a_pl a_ju r_md r_co r_ta)) M hP hD hS hl.1 (c_Co_reaches l g a_co a_ta a_gu a_so a_cn a_de r_co v1 v2 y1 hy1) m_297 m_298 m_299 m_3 m_300 hd_Co_reaches rfl rfl rfl ⟨by decide, by decide⟩ ⟨by decide, by decide⟩ 1 0 rfl rfl rfl [1] [0, 2] [0, 2, 1] rfl rfl rfl rfl (by decide) rfl rfl rfl (Nat.le_of_ble_eq_true rfl) d_Md_free_6 (fun H locs hP hD hS => ?_)
  refine W.eq (g2 := F0 m 9 ls [.int y1]) rfl ?_
  refine lv_if_ne (tgt := 20) hx hb d_Md_free_9 (by decide) (fun c2 => ?_) (fun c2 => ?_)
  · have hE := it_f hE c2
    refine lv_aload_n hx hb d_Md_free_20 rfl (lv_at hl 0 rfl) ?_
    refine va_get (D := g.1) (ci := 6) (v := .ref a_co) (C := "MoveDesk") (T := F_Md) (N := 7) hx hb hts i_Md hown hK hP 0 rfl rfl 0 (by decide) (hts _ m_271) (fun _ h9 => h9) rfl d_Md_free_21 ?_
    refine lv_iload_n hx hb d_Md_free_24 rfl (lv_at hl 1 rfl) ?_
    refine lv_iload_n hx hb d_Md_free_25 rfl (lv_at hl 2 rfl) ?_
    obtain ⟨y3, hy3, hE⟩ := bd_at hE
    refine kV (C := "MoveDesk$Code") (index := 83) (As := [.int v1, .int v2]) (rest := []) (ws2 := (w_md_co_ta g a_md a_co a_ta a_gu a_so a_cn a_de a_ma a_op a_pl a_ju r_md r_co y3.2)) M hP hD hS hl.1 (c_Co_drop l g a_co a_ta a_gu a_so a_cn a_de r_co r_ta v1 v2 y3 hy3) m_549 m_550 m_551 m_3 m_552 hd_Co_drop rfl rfl rfl ⟨by decide, by decide⟩ ⟨by decide, by decide⟩ 1 0 rfl rfl rfl [1, 2] [0] [0, 1, 2] rfl rfl rfl rfl (by decide) rfl rfl rfl (Nat.le_of_ble_eq_true rfl) d_Md_free_26 (fun H locs hP hD hS => ?_)
    refine W.eq (g2 := F0 m 29 ls [.int y3.1]) rfl ?_
    have ⟨hn29, hE⟩ := bk_at hE
    have hE := Option.some.inj hE
    have hk : (0 : Int32) = 1 := by rw [hE] at hk; exact hk
    exact absurd hk (by decide)
  · have hE := it_t hE c2
    have hE := Option.some.inj hE
    try rw [hE]
    exact k_throw M hP hD hS hne htr x_IOOBE (by decide) m_456 m_457 m_13 hl.1 (by decide) (by decide) (by decide) (by decide) d_Md_free_12 d_Md_free_15 d_Md_free_16 d_Md_free_19
abbrev rm_Md_operation : Room := { frames := 2, cells := 0, slots := 0, locals := 45 }
set_option maxHeartbeats 4000000 in
set_option maxRecDepth 100000 in
theorem c_Md_operation (l : Launch) (g : GT) (a_md : Nat) (a_co : Nat) (a_ma : Nat) (a_op : Nat) (a_ki : Nat) (a_tg : Nat) (a_fi : Nat) (a_se : Nat) (a_oc : Nat) (a_cp : Nat) (a_pl : Nat) (a_ju : Nat) (r_md : Nat → Int32) (r_op : Nat → Int32) (r_ki : Nat → Int32) (r_tg : Nat → Int32) (r_fi : Nat → Int32) (r_se : Nat → Int32) (r_oc : Nat → Int32) (v1 : Int32) (v2 : Int32) (v3 : Int32) (v4 : Int32) (v5 : Int32) (y : Int32 × Int32 × (Nat → Int32) × (Nat → Int32) × (Nat → Int32) × (Nat → Int32) × (Nat → Int32) × (Nat → Int32)) (hy : some y = f_Md_operation r_md r_op r_ki r_tg r_fi r_se r_oc v1 v2 v3 v4 v5) (hk : y.1 = 0) : Ct l y_Md_operation (.code y_Md_operation b_Md_operation 6 (some .int)) rm_Md_operation g [.ref a_md, .int v1, .int v2, .int v3, .int v4, .int v5] (w_md_7_188e g a_md a_co a_ma a_op a_ki a_tg a_fi a_se a_oc a_cp a_pl a_ju r_md r_op r_ki r_tg r_fi r_se r_oc) (w_md_7_188e g a_md a_co a_ma a_op a_ki a_tg a_fi a_se a_oc a_cp a_pl a_ju r_md y.2.2.1 y.2.2.2.1 y.2.2.2.2.1 y.2.2.2.2.2.1 y.2.2.2.2.2.2.1 y.2.2.2.2.2.2.2) (some (.int y.2.1)) := by
  refine ct_in (C := "MoveDesk") rfl (by decide) (Nat.le_of_ble_eq_true rfl) (fun p e s m below meth c A ls M hP hD hS hl => ?_)
  obtain ⟨hx, hb, hr, hml, hown, hts, hlocks, hA, hK, hG⟩ := id M
  have hl : lv_has ls 6 [(0, .ref a_md), (1, .int v1), (2, .int v2), (3, .int v3), (4, .int v4), (5, .int v5)] := hl
  have hE := hy
  rw [f_Md_operation] at hE
  refine lv_aload_n hx hb d_Md_operation_0 rfl (lv_at hl 0 rfl) ?_
  refine va_get (D := g.1) (ci := 6) (v := .ref a_op) (C := "MoveDesk") (T := F_Md) (N := 7) hx hb hts i_Md hown hK hP 0 rfl rfl 2 (by decide) (hts _ m_273) (fun _ h9 => h9) rfl d_Md_operation_1 ?_
  refine lv_iload_n hx hb d_Md_operation_4 rfl (lv_at hl 1 rfl) ?_
  refine lv_iload_n hx hb d_Md_operation_5 rfl (lv_at hl 2 rfl) ?_
  refine lv_iload_n hx hb d_Md_operation_6 rfl (lv_at hl 3 rfl) ?_
  refine lv_iload hx hb d_Md_operation_7 (lv_at hl 4 rfl) ?_
  obtain ⟨y1, hy1, hE⟩ := bd_at hE
  refine kV (C := "MoveDesk$Operations") (index := 96) (As := [.int v1, .int v2, .int v3, .int v4]) (rest := []) (ws2 := (w_md_7_188e g a_md a_co a_ma a_op a_ki a_tg a_fi a_se a_oc a_cp a_pl a_ju r_md r_op r_ki r_tg r_fi r_se r_oc)) M hP hD hS hl.1 (c_Op_mayBe l g a_op a_ki a_tg a_fi a_se a_oc a_cp r_op v1 v2 v3 v4 y1 hy1) m_562 m_563 m_564 m_6 m_565 hd_Op_mayBe rfl rfl rfl ⟨by decide, by decide⟩ ⟨by decide, by decide⟩ 4 0 rfl rfl rfl [1] [0, 2, 3, 4, 5, 6] [0, 6, 1, 2, 3, 4, 5] rfl rfl rfl rfl (by decide) rfl rfl rfl (Nat.le_of_ble_eq_true rfl) d_Md_operation_9 (fun H locs hP hD hS => ?_)
  refine W.eq (g2 := F0 m 12 ls [.int y1]) rfl ?_
  refine lv_if_ne (tgt := 23) hx hb d_Md_operation_12 (by decide) (fun c2 => ?_) (fun c2 => ?_)
  · have hE := it_f hE c2
    refine lv_aload_n hx hb d_Md_operation_23 rfl (lv_at hl 0 rfl) ?_
    refine va_get (D := g.1) (ci := 6) (v := .ref a_op) (C := "MoveDesk") (T := F_Md) (N := 7) hx hb hts i_Md hown hK hP 0 rfl rfl 2 (by decide) (hts _ m_273) (fun _ h9 => h9) rfl d_Md_operation_24 ?_
    obtain ⟨y3, hy3, hE⟩ := bd_at hE
    refine kV (C := "MoveDesk$Operations") (index := 100) (As := []) (rest := []) (ws2 := (w_md_7_188e g a_md a_co a_ma a_op a_ki a_tg a_fi a_se a_oc a_cp a_pl a_ju r_md r_op r_ki r_tg r_fi r_se r_oc)) M hP hD hS hl.1 (c_Op_count l g a_op a_ki a_tg a_fi a_se a_oc a_cp r_op  y3 hy3) m_567 m_568 m_569 m_6 m_570 hd_Op_count rfl rfl rfl ⟨by decide, by decide⟩ ⟨by decide, by decide⟩ 4 0 rfl rfl rfl [1] [0, 2, 3, 4, 5, 6] [0, 6, 1, 2, 3, 4, 5] rfl rfl rfl rfl (by decide) rfl rfl rfl (Nat.le_of_ble_eq_true rfl) d_Md_operation_27 (fun H locs hP hD hS => ?_)
    refine W.eq (g2 := F0 m 30 ls [.int y3]) rfl ?_
    refine lv_bipush (v := 20) hx hb d_Md_operation_30 (by decide) ?_
    refine lv_icmp_lt (tgt := 43) hx hb d_Md_operation_32 (by decide) (fun c4 => ?_) (fun c4 => ?_)
    · have hE := it_t hE c4
      refine lv_aload_n hx hb d_Md_operation_43 rfl (lv_at hl 0 rfl) ?_
      refine va_get (D := g.1) (ci := 6) (v := .ref a_op) (C := "MoveDesk") (T := F_Md) (N := 7) hx hb hts i_Md hown hK hP 0 rfl rfl 2 (by decide) (hts _ m_273) (fun _ h9 => h9) rfl d_Md_operation_44 ?_
      refine lv_iload_n hx hb d_Md_operation_47 rfl (lv_at hl 1 rfl) ?_
      refine lv_iload_n hx hb d_Md_operation_48 rfl (lv_at hl 2 rfl) ?_
      refine lv_iload_n hx hb d_Md_operation_49 rfl (lv_at hl 3 rfl) ?_
      refine lv_iload hx hb d_Md_operation_50 (lv_at hl 4 rfl) ?_
      refine lv_iload hx hb d_Md_operation_52 (lv_at hl 5 rfl) ?_
      obtain ⟨y5, hy5, hE⟩ := bd_at hE
      refine kV (C := "MoveDesk$Operations") (index := 107) (As := [.int v1, .int v2, .int v3, .int v4, .int v5]) (rest := []) (ws2 := (w_md_7_188e g a_md a_co a_ma a_op a_ki a_tg a_fi a_se a_oc a_cp a_pl a_ju r_md y5.1 y5.2.1 y5.2.2.1 y5.2.2.2.1 y5.2.2.2.2.1 y5.2.2.2.2.2)) M hP hD hS hl.1 (c_Op_append l g a_op a_ki a_tg a_fi a_se a_oc a_cp r_op r_ki r_tg r_fi r_se r_oc v1 v2 v3 v4 v5 y5 hy5) m_586 m_587 m_588 m_6 m_589 hd_Op_append rfl rfl rfl ⟨by decide, by decide⟩ ⟨by decide, by decide⟩ 4 0 rfl rfl rfl [1, 2, 3, 4, 5, 6] [0] [0, 1, 2, 3, 4, 5, 6] rfl rfl rfl rfl (by decide) rfl rfl rfl (Nat.le_of_ble_eq_true rfl) d_Md_operation_54 (fun H locs hP hD hS => ?_)
      refine W.eq (g2 := F0 m 57 ls []) rfl ?_
      refine lv_aload_n hx hb d_Md_operation_57 rfl (lv_at hl 0 rfl) ?_
      refine va_get (D := g.1) (ci := 6) (v := .ref a_op) (C := "MoveDesk") (T := F_Md) (N := 7) hx hb hts i_Md hown hK hP 0 rfl rfl 2 (by decide) (hts _ m_273) (fun _ h9 => h9) rfl d_Md_operation_58 ?_
      obtain ⟨y6, hy6, hE⟩ := bd_at hE
      refine kV (C := "MoveDesk$Operations") (index := 100) (As := []) (rest := []) (ws2 := (w_md_7_188e g a_md a_co a_ma a_op a_ki a_tg a_fi a_se a_oc a_cp a_pl a_ju r_md y5.1 y5.2.1 y5.2.2.1 y5.2.2.2.1 y5.2.2.2.2.1 y5.2.2.2.2.2)) M hP hD hS hl.1 (c_Op_count l g a_op a_ki a_tg a_fi a_se a_oc a_cp y5.1  y6 hy6) m_567 m_568 m_569 m_6 m_570 hd_Op_count rfl rfl rfl ⟨by decide, by decide⟩ ⟨by decide, by decide⟩ 4 0 rfl rfl rfl [1] [0, 2, 3, 4, 5, 6] [0, 6, 1, 2, 3, 4, 5] rfl rfl rfl rfl (by decide) rfl rfl rfl (Nat.le_of_ble_eq_true rfl) d_Md_operation_61 (fun H locs hP hD hS => ?_)
      refine W.eq (g2 := F0 m 64 ls [.int y6]) rfl ?_
      have hE := Option.some.inj hE
      rw [hE]
      exact W.iret (v := y6) hx hb hr (fun t ht hW => ⟨⟨rfl, by rw [ht]; exact hP, va_K.moved hW.alike hK, hD⟩, hS.F ht⟩) hS.2.2 d_Md_operation_64 hlocks
    · have hE := it_f hE c4
      have hE := Option.some.inj hE
      have hk : (2 : Int32) = 0 := by rw [hE] at hk; exact hk
      exact absurd hk (by decide)
  · have hE := it_t hE c2
    have hE := Option.some.inj hE
    have hk : (1 : Int32) = 0 := by rw [hE] at hk; exact hk
    exact absurd hk (by decide)
abbrev rmT_Md_operation : Room := { frames := 6, cells := 1, slots := 6, locals := 82 }
set_option maxHeartbeats 4000000 in
set_option maxRecDepth 100000 in
theorem t1_Md_operation (l : Launch) (htr : ∀ e, l.admits e → e.platform.stackTraces = false) (g : GT) (a_md : Nat) (a_co : Nat) (a_ma : Nat) (a_op : Nat) (a_ki : Nat) (a_tg : Nat) (a_fi : Nat) (a_se : Nat) (a_oc : Nat) (a_cp : Nat) (a_pl : Nat) (a_ju : Nat) (r_md : Nat → Int32) (r_op : Nat → Int32) (r_ki : Nat → Int32) (r_tg : Nat → Int32) (r_fi : Nat → Int32) (r_se : Nat → Int32) (r_oc : Nat → Int32) (v1 : Int32) (v2 : Int32) (v3 : Int32) (v4 : Int32) (v5 : Int32) (y : Int32 × Int32 × (Nat → Int32) × (Nat → Int32) × (Nat → Int32) × (Nat → Int32) × (Nat → Int32) × (Nat → Int32)) (hy : some y = f_Md_operation r_md r_op r_ki r_tg r_fi r_se r_oc v1 v2 v3 v4 v5) (hk : y.1 = 1) : CtT l y_Md_operation (.code y_Md_operation b_Md_operation 6 (some .int)) rmT_Md_operation g [.ref a_md, .int v1, .int v2, .int v3, .int v4, .int v5] (w_md_7_188e g a_md a_co a_ma a_op a_ki a_tg a_fi a_se a_oc a_cp a_pl a_ju r_md r_op r_ki r_tg r_fi r_se r_oc) (w_md_7_188e g a_md a_co a_ma a_op a_ki a_tg a_fi a_se a_oc a_cp a_pl a_ju r_md y.2.2.1 y.2.2.2.1 y.2.2.2.2.1 y.2.2.2.2.2.1 y.2.2.2.2.2.2.1 y.2.2.2.2.2.2.2) "java/lang/IllegalArgumentException" := by
  refine ct_inT (C := "MoveDesk") rfl (by decide) (Nat.le_of_ble_eq_true rfl) (fun p e s m below meth c A ls M hne hP hD hS hl => ?_)
  obtain ⟨hx, hb, hr, hml, hown, hts, hlocks, hA, hK, hG⟩ := id M
  have hl : lv_has ls 6 [(0, .ref a_md), (1, .int v1), (2, .int v2), (3, .int v3), (4, .int v4), (5, .int v5)] := hl
  have hE := hy
  rw [f_Md_operation] at hE
  refine lv_aload_n hx hb d_Md_operation_0 rfl (lv_at hl 0 rfl) ?_
  refine va_get (D := g.1) (ci := 6) (v := .ref a_op) (C := "MoveDesk") (T := F_Md) (N := 7) hx hb hts i_Md hown hK hP 0 rfl rfl 2 (by decide) (hts _ m_273) (fun _ h9 => h9) rfl d_Md_operation_1 ?_
  refine lv_iload_n hx hb d_Md_operation_4 rfl (lv_at hl 1 rfl) ?_
  refine lv_iload_n hx hb d_Md_operation_5 rfl (lv_at hl 2 rfl) ?_
  refine lv_iload_n hx hb d_Md_operation_6 rfl (lv_at hl 3 rfl) ?_
  refine lv_iload hx hb d_Md_operation_7 (lv_at hl 4 rfl) ?_
  obtain ⟨y1, hy1, hE⟩ := bd_at hE
  refine kV (C := "MoveDesk$Operations") (index := 96) (As := [.int v1, .int v2, .int v3, .int v4]) (rest := []) (ws2 := (w_md_7_188e g a_md a_co a_ma a_op a_ki a_tg a_fi a_se a_oc a_cp a_pl a_ju r_md r_op r_ki r_tg r_fi r_se r_oc)) M hP hD hS hl.1 (c_Op_mayBe l g a_op a_ki a_tg a_fi a_se a_oc a_cp r_op v1 v2 v3 v4 y1 hy1) m_562 m_563 m_564 m_6 m_565 hd_Op_mayBe rfl rfl rfl ⟨by decide, by decide⟩ ⟨by decide, by decide⟩ 4 0 rfl rfl rfl [1] [0, 2, 3, 4, 5, 6] [0, 6, 1, 2, 3, 4, 5] rfl rfl rfl rfl (by decide) rfl rfl rfl (Nat.le_of_ble_eq_true rfl) d_Md_operation_9 (fun H locs hP hD hS => ?_)
  refine W.eq (g2 := F0 m 12 ls [.int y1]) rfl ?_
  refine lv_if_ne (tgt := 23) hx hb d_Md_operation_12 (by decide) (fun c2 => ?_) (fun c2 => ?_)
  · have hE := it_f hE c2
    refine lv_aload_n hx hb d_Md_operation_23 rfl (lv_at hl 0 rfl) ?_
    refine va_get (D := g.1) (ci := 6) (v := .ref a_op) (C := "MoveDesk") (T := F_Md) (N := 7) hx hb hts i_Md hown hK hP 0 rfl rfl 2 (by decide) (hts _ m_273) (fun _ h9 => h9) rfl d_Md_operation_24 ?_
    obtain ⟨y3, hy3, hE⟩ := bd_at hE
    refine kV (C := "MoveDesk$Operations") (index := 100) (As := []) (rest := []) (ws2 := (w_md_7_188e g a_md a_co a_ma a_op a_ki a_tg a_fi a_se a_oc a_cp a_pl a_ju r_md r_op r_ki r_tg r_fi r_se r_oc)) M hP hD hS hl.1 (c_Op_count l g a_op a_ki a_tg a_fi a_se a_oc a_cp r_op  y3 hy3) m_567 m_568 m_569 m_6 m_570 hd_Op_count rfl rfl rfl ⟨by decide, by decide⟩ ⟨by decide, by decide⟩ 4 0 rfl rfl rfl [1] [0, 2, 3, 4, 5, 6] [0, 6, 1, 2, 3, 4, 5] rfl rfl rfl rfl (by decide) rfl rfl rfl (Nat.le_of_ble_eq_true rfl) d_Md_operation_27 (fun H locs hP hD hS => ?_)
    refine W.eq (g2 := F0 m 30 ls [.int y3]) rfl ?_
    refine lv_bipush (v := 20) hx hb d_Md_operation_30 (by decide) ?_
    refine lv_icmp_lt (tgt := 43) hx hb d_Md_operation_32 (by decide) (fun c4 => ?_) (fun c4 => ?_)
    · have hE := it_t hE c4
      refine lv_aload_n hx hb d_Md_operation_43 rfl (lv_at hl 0 rfl) ?_
      refine va_get (D := g.1) (ci := 6) (v := .ref a_op) (C := "MoveDesk") (T := F_Md) (N := 7) hx hb hts i_Md hown hK hP 0 rfl rfl 2 (by decide) (hts _ m_273) (fun _ h9 => h9) rfl d_Md_operation_44 ?_
      refine lv_iload_n hx hb d_Md_operation_47 rfl (lv_at hl 1 rfl) ?_
      refine lv_iload_n hx hb d_Md_operation_48 rfl (lv_at hl 2 rfl) ?_
      refine lv_iload_n hx hb d_Md_operation_49 rfl (lv_at hl 3 rfl) ?_
      refine lv_iload hx hb d_Md_operation_50 (lv_at hl 4 rfl) ?_
      refine lv_iload hx hb d_Md_operation_52 (lv_at hl 5 rfl) ?_
      obtain ⟨y5, hy5, hE⟩ := bd_at hE
      refine kV (C := "MoveDesk$Operations") (index := 107) (As := [.int v1, .int v2, .int v3, .int v4, .int v5]) (rest := []) (ws2 := (w_md_7_188e g a_md a_co a_ma a_op a_ki a_tg a_fi a_se a_oc a_cp a_pl a_ju r_md y5.1 y5.2.1 y5.2.2.1 y5.2.2.2.1 y5.2.2.2.2.1 y5.2.2.2.2.2)) M hP hD hS hl.1 (c_Op_append l g a_op a_ki a_tg a_fi a_se a_oc a_cp r_op r_ki r_tg r_fi r_se r_oc v1 v2 v3 v4 v5 y5 hy5) m_586 m_587 m_588 m_6 m_589 hd_Op_append rfl rfl rfl ⟨by decide, by decide⟩ ⟨by decide, by decide⟩ 4 0 rfl rfl rfl [1, 2, 3, 4, 5, 6] [0] [0, 1, 2, 3, 4, 5, 6] rfl rfl rfl rfl (by decide) rfl rfl rfl (Nat.le_of_ble_eq_true rfl) d_Md_operation_54 (fun H locs hP hD hS => ?_)
      refine W.eq (g2 := F0 m 57 ls []) rfl ?_
      refine lv_aload_n hx hb d_Md_operation_57 rfl (lv_at hl 0 rfl) ?_
      refine va_get (D := g.1) (ci := 6) (v := .ref a_op) (C := "MoveDesk") (T := F_Md) (N := 7) hx hb hts i_Md hown hK hP 0 rfl rfl 2 (by decide) (hts _ m_273) (fun _ h9 => h9) rfl d_Md_operation_58 ?_
      obtain ⟨y6, hy6, hE⟩ := bd_at hE
      refine kV (C := "MoveDesk$Operations") (index := 100) (As := []) (rest := []) (ws2 := (w_md_7_188e g a_md a_co a_ma a_op a_ki a_tg a_fi a_se a_oc a_cp a_pl a_ju r_md y5.1 y5.2.1 y5.2.2.1 y5.2.2.2.1 y5.2.2.2.2.1 y5.2.2.2.2.2)) M hP hD hS hl.1 (c_Op_count l g a_op a_ki a_tg a_fi a_se a_oc a_cp y5.1  y6 hy6) m_567 m_568 m_569 m_6 m_570 hd_Op_count rfl rfl rfl ⟨by decide, by decide⟩ ⟨by decide, by decide⟩ 4 0 rfl rfl rfl [1] [0, 2, 3, 4, 5, 6] [0, 6, 1, 2, 3, 4, 5] rfl rfl rfl rfl (by decide) rfl rfl rfl (Nat.le_of_ble_eq_true rfl) d_Md_operation_61 (fun H locs hP hD hS => ?_)
      refine W.eq (g2 := F0 m 64 ls [.int y6]) rfl ?_
      have hE := Option.some.inj hE
      have hk : (0 : Int32) = 1 := by rw [hE] at hk; exact hk
      exact absurd hk (by decide)
    · have hE := it_f hE c4
      have hE := Option.some.inj hE
      have hk : (2 : Int32) = 1 := by rw [hE] at hk; exact hk
      exact absurd hk (by decide)
  · have hE := it_t hE c2
    have hE := Option.some.inj hE
    try rw [hE]
    exact k_throw M hP hD hS hne htr x_IAE (by decide) m_523 m_524 m_14 hl.1 (by decide) (by decide) (by decide) (by decide) d_Md_operation_15 d_Md_operation_18 d_Md_operation_19 d_Md_operation_22
set_option maxHeartbeats 4000000 in
set_option maxRecDepth 100000 in
theorem t2_Md_operation (l : Launch) (htr : ∀ e, l.admits e → e.platform.stackTraces = false) (g : GT) (a_md : Nat) (a_co : Nat) (a_ma : Nat) (a_op : Nat) (a_ki : Nat) (a_tg : Nat) (a_fi : Nat) (a_se : Nat) (a_oc : Nat) (a_cp : Nat) (a_pl : Nat) (a_ju : Nat) (r_md : Nat → Int32) (r_op : Nat → Int32) (r_ki : Nat → Int32) (r_tg : Nat → Int32) (r_fi : Nat → Int32) (r_se : Nat → Int32) (r_oc : Nat → Int32) (v1 : Int32) (v2 : Int32) (v3 : Int32) (v4 : Int32) (v5 : Int32) (y : Int32 × Int32 × (Nat → Int32) × (Nat → Int32) × (Nat → Int32) × (Nat → Int32) × (Nat → Int32) × (Nat → Int32)) (hy : some y = f_Md_operation r_md r_op r_ki r_tg r_fi r_se r_oc v1 v2 v3 v4 v5) (hk : y.1 = 2) : CtT l y_Md_operation (.code y_Md_operation b_Md_operation 6 (some .int)) rmT_Md_operation g [.ref a_md, .int v1, .int v2, .int v3, .int v4, .int v5] (w_md_7_188e g a_md a_co a_ma a_op a_ki a_tg a_fi a_se a_oc a_cp a_pl a_ju r_md r_op r_ki r_tg r_fi r_se r_oc) (w_md_7_188e g a_md a_co a_ma a_op a_ki a_tg a_fi a_se a_oc a_cp a_pl a_ju r_md y.2.2.1 y.2.2.2.1 y.2.2.2.2.1 y.2.2.2.2.2.1 y.2.2.2.2.2.2.1 y.2.2.2.2.2.2.2) "java/lang/IllegalStateException" := by
  refine ct_inT (C := "MoveDesk") rfl (by decide) (Nat.le_of_ble_eq_true rfl) (fun p e s m below meth c A ls M hne hP hD hS hl => ?_)
  obtain ⟨hx, hb, hr, hml, hown, hts, hlocks, hA, hK, hG⟩ := id M
  have hl : lv_has ls 6 [(0, .ref a_md), (1, .int v1), (2, .int v2), (3, .int v3), (4, .int v4), (5, .int v5)] := hl
  have hE := hy
  rw [f_Md_operation] at hE
  refine lv_aload_n hx hb d_Md_operation_0 rfl (lv_at hl 0 rfl) ?_
  refine va_get (D := g.1) (ci := 6) (v := .ref a_op) (C := "MoveDesk") (T := F_Md) (N := 7) hx hb hts i_Md hown hK hP 0 rfl rfl 2 (by decide) (hts _ m_273) (fun _ h9 => h9) rfl d_Md_operation_1 ?_
  refine lv_iload_n hx hb d_Md_operation_4 rfl (lv_at hl 1 rfl) ?_
  refine lv_iload_n hx hb d_Md_operation_5 rfl (lv_at hl 2 rfl) ?_
  refine lv_iload_n hx hb d_Md_operation_6 rfl (lv_at hl 3 rfl) ?_
  refine lv_iload hx hb d_Md_operation_7 (lv_at hl 4 rfl) ?_
  obtain ⟨y1, hy1, hE⟩ := bd_at hE
  refine kV (C := "MoveDesk$Operations") (index := 96) (As := [.int v1, .int v2, .int v3, .int v4]) (rest := []) (ws2 := (w_md_7_188e g a_md a_co a_ma a_op a_ki a_tg a_fi a_se a_oc a_cp a_pl a_ju r_md r_op r_ki r_tg r_fi r_se r_oc)) M hP hD hS hl.1 (c_Op_mayBe l g a_op a_ki a_tg a_fi a_se a_oc a_cp r_op v1 v2 v3 v4 y1 hy1) m_562 m_563 m_564 m_6 m_565 hd_Op_mayBe rfl rfl rfl ⟨by decide, by decide⟩ ⟨by decide, by decide⟩ 4 0 rfl rfl rfl [1] [0, 2, 3, 4, 5, 6] [0, 6, 1, 2, 3, 4, 5] rfl rfl rfl rfl (by decide) rfl rfl rfl (Nat.le_of_ble_eq_true rfl) d_Md_operation_9 (fun H locs hP hD hS => ?_)
  refine W.eq (g2 := F0 m 12 ls [.int y1]) rfl ?_
  refine lv_if_ne (tgt := 23) hx hb d_Md_operation_12 (by decide) (fun c2 => ?_) (fun c2 => ?_)
  · have hE := it_f hE c2
    refine lv_aload_n hx hb d_Md_operation_23 rfl (lv_at hl 0 rfl) ?_
    refine va_get (D := g.1) (ci := 6) (v := .ref a_op) (C := "MoveDesk") (T := F_Md) (N := 7) hx hb hts i_Md hown hK hP 0 rfl rfl 2 (by decide) (hts _ m_273) (fun _ h9 => h9) rfl d_Md_operation_24 ?_
    obtain ⟨y3, hy3, hE⟩ := bd_at hE
    refine kV (C := "MoveDesk$Operations") (index := 100) (As := []) (rest := []) (ws2 := (w_md_7_188e g a_md a_co a_ma a_op a_ki a_tg a_fi a_se a_oc a_cp a_pl a_ju r_md r_op r_ki r_tg r_fi r_se r_oc)) M hP hD hS hl.1 (c_Op_count l g a_op a_ki a_tg a_fi a_se a_oc a_cp r_op  y3 hy3) m_567 m_568 m_569 m_6 m_570 hd_Op_count rfl rfl rfl ⟨by decide, by decide⟩ ⟨by decide, by decide⟩ 4 0 rfl rfl rfl [1] [0, 2, 3, 4, 5, 6] [0, 6, 1, 2, 3, 4, 5] rfl rfl rfl rfl (by decide) rfl rfl rfl (Nat.le_of_ble_eq_true rfl) d_Md_operation_27 (fun H locs hP hD hS => ?_)
    refine W.eq (g2 := F0 m 30 ls [.int y3]) rfl ?_
    refine lv_bipush (v := 20) hx hb d_Md_operation_30 (by decide) ?_
    refine lv_icmp_lt (tgt := 43) hx hb d_Md_operation_32 (by decide) (fun c4 => ?_) (fun c4 => ?_)
    · have hE := it_t hE c4
      refine lv_aload_n hx hb d_Md_operation_43 rfl (lv_at hl 0 rfl) ?_
      refine va_get (D := g.1) (ci := 6) (v := .ref a_op) (C := "MoveDesk") (T := F_Md) (N := 7) hx hb hts i_Md hown hK hP 0 rfl rfl 2 (by decide) (hts _ m_273) (fun _ h9 => h9) rfl d_Md_operation_44 ?_
      refine lv_iload_n hx hb d_Md_operation_47 rfl (lv_at hl 1 rfl) ?_
      refine lv_iload_n hx hb d_Md_operation_48 rfl (lv_at hl 2 rfl) ?_
      refine lv_iload_n hx hb d_Md_operation_49 rfl (lv_at hl 3 rfl) ?_
      refine lv_iload hx hb d_Md_operation_50 (lv_at hl 4 rfl) ?_
      refine lv_iload hx hb d_Md_operation_52 (lv_at hl 5 rfl) ?_
      obtain ⟨y5, hy5, hE⟩ := bd_at hE
      refine kV (C := "MoveDesk$Operations") (index := 107) (As := [.int v1, .int v2, .int v3, .int v4, .int v5]) (rest := []) (ws2 := (w_md_7_188e g a_md a_co a_ma a_op a_ki a_tg a_fi a_se a_oc a_cp a_pl a_ju r_md y5.1 y5.2.1 y5.2.2.1 y5.2.2.2.1 y5.2.2.2.2.1 y5.2.2.2.2.2)) M hP hD hS hl.1 (c_Op_append l g a_op a_ki a_tg a_fi a_se a_oc a_cp r_op r_ki r_tg r_fi r_se r_oc v1 v2 v3 v4 v5 y5 hy5) m_586 m_587 m_588 m_6 m_589 hd_Op_append rfl rfl rfl ⟨by decide, by decide⟩ ⟨by decide, by decide⟩ 4 0 rfl rfl rfl [1, 2, 3, 4, 5, 6] [0] [0, 1, 2, 3, 4, 5, 6] rfl rfl rfl rfl (by decide) rfl rfl rfl (Nat.le_of_ble_eq_true rfl) d_Md_operation_54 (fun H locs hP hD hS => ?_)
      refine W.eq (g2 := F0 m 57 ls []) rfl ?_
      refine lv_aload_n hx hb d_Md_operation_57 rfl (lv_at hl 0 rfl) ?_
      refine va_get (D := g.1) (ci := 6) (v := .ref a_op) (C := "MoveDesk") (T := F_Md) (N := 7) hx hb hts i_Md hown hK hP 0 rfl rfl 2 (by decide) (hts _ m_273) (fun _ h9 => h9) rfl d_Md_operation_58 ?_
      obtain ⟨y6, hy6, hE⟩ := bd_at hE
      refine kV (C := "MoveDesk$Operations") (index := 100) (As := []) (rest := []) (ws2 := (w_md_7_188e g a_md a_co a_ma a_op a_ki a_tg a_fi a_se a_oc a_cp a_pl a_ju r_md y5.1 y5.2.1 y5.2.2.1 y5.2.2.2.1 y5.2.2.2.2.1 y5.2.2.2.2.2)) M hP hD hS hl.1 (c_Op_count l g a_op a_ki a_tg a_fi a_se a_oc a_cp y5.1  y6 hy6) m_567 m_568 m_569 m_6 m_570 hd_Op_count rfl rfl rfl ⟨by decide, by decide⟩ ⟨by decide, by decide⟩ 4 0 rfl rfl rfl [1] [0, 2, 3, 4, 5, 6] [0, 6, 1, 2, 3, 4, 5] rfl rfl rfl rfl (by decide) rfl rfl rfl (Nat.le_of_ble_eq_true rfl) d_Md_operation_61 (fun H locs hP hD hS => ?_)
      refine W.eq (g2 := F0 m 64 ls [.int y6]) rfl ?_
      have hE := Option.some.inj hE
      have hk : (0 : Int32) = 2 := by rw [hE] at hk; exact hk
      exact absurd hk (by decide)
    · have hE := it_f hE c4
      have hE := Option.some.inj hE
      try rw [hE]
      exact k_throw M hP hD hS hne htr x_ISE (by decide) m_571 m_572 m_15 hl.1 (by decide) (by decide) (by decide) (by decide) d_Md_operation_35 d_Md_operation_38 d_Md_operation_39 d_Md_operation_42
  · have hE := it_t hE c2
    have hE := Option.some.inj hE
    have hk : (1 : Int32) = 2 := by rw [hE] at hk; exact hk
    exact absurd hk (by decide)
abbrev rm_Md_compile : Room := { frames := 6, cells := 0, slots := 0, locals := 133 }
set_option maxHeartbeats 4000000 in
set_option maxRecDepth 100000 in
theorem c_Md_compile (l : Launch) (g : GT) (a_md : Nat) (a_lat : Nat) (a_co : Nat) (a_ta : Nat) (a_gu : Nat) (a_so : Nat) (a_cn : Nat) (a_de : Nat) (a_ma : Nat) (a_op : Nat) (a_ki : Nat) (a_tg : Nat) (a_fi : Nat) (a_se : Nat) (a_oc : Nat) (a_cp : Nat) (a_pl : Nat) (a_bs : Nat) (a_rr : Nat) (a_hr : Nat) (a_lw : Nat) (a_lr : Nat) (a_lt : Nat) (a_lm : Nat) (a_tc : Nat) (a_rc : Nat) (a_ju : Nat) (r_md : Nat → Int32) (r_lat : Nat → Int32) (r_co : Nat → Int32) (r_ta : Nat → Int32) (r_gu : Nat → Int32) (r_so : Nat → Int32) (r_cn : Nat → Int32) (r_de : Nat → Int32) (r_op : Nat → Int32) (r_ki : Nat → Int32) (r_tg : Nat → Int32) (r_fi : Nat → Int32) (r_se : Nat → Int32) (r_oc : Nat → Int32) (r_bs : Nat → Int32) (r_rr : Nat → Int32) (r_hr : Nat → Int32) (r_lw : Nat → Int32) (r_lr : Nat → Int32) (r_lt : Nat → Int32) (r_lm : Nat → Int32) (r_tc : Nat → Int32) (r_rc : Nat → Int32)  (y : Int32 × Int32 × (Nat → Int32) × (Nat → Int32) × (Nat → Int32) × (Nat → Int32) × (Nat → Int32) × (Nat → Int32) × (Nat → Int32) × (Nat → Int32) × (Nat → Int32) × (Nat → Int32) × (Nat → Int32) × (Nat → Int32) × (Nat → Int32) × (Nat → Int32)) (hy : some y = f_Md_compile r_md r_lat r_co r_ta r_gu r_so r_cn r_de r_op r_ki r_tg r_fi r_se r_oc r_bs r_rr r_hr r_lw r_lr r_lt r_lm r_tc r_rc) (hk : y.1 = 0) : Ct l y_Md_compile (.code y_Md_compile b_Md_compile 2 (some .int)) rm_Md_compile g [.ref a_md] (w_md_24_a833 g a_md a_lat a_co a_ta a_gu a_so a_cn a_de a_ma a_op a_ki a_tg a_fi a_se a_oc a_cp a_pl a_bs a_rr a_hr a_lw a_lr a_lt a_lm a_tc a_rc a_ju r_md r_lat r_co r_ta r_gu r_so r_cn r_de r_op r_ki r_tg r_fi r_se r_oc r_bs r_rr r_hr r_lw r_lr r_lt r_lm r_tc r_rc) (w_md_24_a833 g a_md a_lat a_co a_ta a_gu a_so a_cn a_de a_ma a_op a_ki a_tg a_fi a_se a_oc a_cp a_pl a_bs a_rr a_hr a_lw a_lr a_lt a_lm a_tc a_rc a_ju r_md r_lat r_co y.2.2.1 y.2.2.2.1 y.2.2.2.2.1 y.2.2.2.2.2.1 y.2.2.2.2.2.2.1 r_op r_ki r_tg r_fi r_se r_oc y.2.2.2.2.2.2.2.1 y.2.2.2.2.2.2.2.2.1 y.2.2.2.2.2.2.2.2.2.1 y.2.2.2.2.2.2.2.2.2.2.1 y.2.2.2.2.2.2.2.2.2.2.2.1 y.2.2.2.2.2.2.2.2.2.2.2.2.1 y.2.2.2.2.2.2.2.2.2.2.2.2.2.1 y.2.2.2.2.2.2.2.2.2.2.2.2.2.2.1 y.2.2.2.2.2.2.2.2.2.2.2.2.2.2.2) (some (.int y.2.1)) := by
  refine ct_in (C := "MoveDesk") rfl (by decide) (Nat.le_of_ble_eq_true rfl) (fun p e s m below meth c A ls M hP hD hS hl => ?_)
  obtain ⟨hx, hb, hr, hml, hown, hts, hlocks, hA, hK, hG⟩ := id M
  have hl : lv_has ls 2 [(0, .ref a_md)] := hl
  have hE := hy
  rw [f_Md_compile] at hE
  refine lv_aload_n hx hb d_Md_compile_0 rfl (lv_at hl 0 rfl) ?_
  refine va_get (D := g.1) (ci := 6) (v := .ref a_pl) (C := "MoveDesk") (T := F_Md) (N := 7) hx hb hts i_Md hown hK hP 0 rfl rfl 3 (by decide) (hts _ m_274) (fun _ h9 => h9) rfl d_Md_compile_1 ?_
  obtain ⟨y1, hy1, hE⟩ := bd_at hE
  refine kV (C := "MoveDesk$Planner") (index := 113) (As := []) (rest := []) (ws2 := (w_md_24_a833 g a_md a_lat a_co a_ta a_gu a_so a_cn a_de a_ma a_op a_ki a_tg a_fi a_se a_oc a_cp a_pl a_bs a_rr a_hr a_lw a_lr a_lt a_lm a_tc a_rc a_ju r_md r_lat r_co r_ta r_gu r_so r_cn r_de r_op r_ki r_tg r_fi r_se r_oc y1.2.1 y1.2.2.1 y1.2.2.2.1 y1.2.2.2.2.1 y1.2.2.2.2.2.1 y1.2.2.2.2.2.2.1 y1.2.2.2.2.2.2.2.1 y1.2.2.2.2.2.2.2.2.1 y1.2.2.2.2.2.2.2.2.2)) M hP hD hS hl.1 (c_Pl_plan l g a_lat a_co a_ta a_gu a_so a_cn a_de a_op a_ki a_tg a_fi a_se a_oc a_cp a_pl a_bs a_rr a_hr a_lw a_lr a_lt a_lm a_tc a_rc r_lat r_co r_op r_ki r_tg r_fi r_se r_bs r_rr r_hr r_lw r_lr r_lt r_lm r_tc r_rc  y1 hy1) m_598 m_599 m_600 m_7 m_601 hd_Pl_plan rfl rfl rfl ⟨by decide, by decide⟩ ⟨by decide, by decide⟩ 5 7 rfl rfl rfl [1, 2, 8, 9, 10, 11, 12, 14, 15, 16, 17, 18, 19, 20, 21, 22, 23] [0, 3, 4, 5, 6, 7, 13] [0, 7, 8, 1, 2, 3, 4, 5, 9, 10, 11, 12, 13, 6, 14, 15, 16, 17, 18, 19, 20, 21, 22, 23] rfl rfl rfl rfl (by decide) rfl rfl rfl (Nat.le_of_ble_eq_true rfl) d_Md_compile_4 (fun H locs hP hD hS => ?_)
  refine W.eq (g2 := F0 m 7 ls [.int y1.1]) rfl ?_
  refine lv_istore_n (lv' := [(1, .int y1.1), (0, .ref a_md)]) hx hb d_Md_compile_7 rfl hl (by decide) rfl (fun ls hl => ?_)
  refine lv_iload_n hx hb d_Md_compile_8 rfl (lv_at hl 0 rfl) ?_
  refine lv_iconst (v := (-1)) hx hb d_Md_compile_9 (by decide) ?_
  refine lv_icmp_ne (tgt := 21) hx hb d_Md_compile_10 (by decide) (fun c2 => ?_) (fun c2 => ?_)
  · have hE := it_f hE c2
    refine lv_aload_n hx hb d_Md_compile_21 rfl (lv_at hl 1 rfl) ?_
    refine va_get (D := g.1) (ci := 6) (v := .ref a_pl) (C := "MoveDesk") (T := F_Md) (N := 7) hx hb hts i_Md hown hK hP 0 rfl rfl 3 (by decide) (hts _ m_274) (fun _ h9 => h9) rfl d_Md_compile_22 ?_
    refine lv_iload_n hx hb d_Md_compile_25 rfl (lv_at hl 0 rfl) ?_
    obtain ⟨y3, hy3, hE⟩ := bd_at hE
    refine kV (C := "MoveDesk$Planner") (index := 119) (As := [.int y1.1]) (rest := []) (ws2 := (w_md_24_a833 g a_md a_lat a_co a_ta a_gu a_so a_cn a_de a_ma a_op a_ki a_tg a_fi a_se a_oc a_cp a_pl a_bs a_rr a_hr a_lw a_lr a_lt a_lm a_tc a_rc a_ju r_md r_lat r_co y3.1 y3.2.1 y3.2.2.1 y3.2.2.2.1 y3.2.2.2.2 r_op r_ki r_tg r_fi r_se r_oc y1.2.1 y1.2.2.1 y1.2.2.2.1 y1.2.2.2.2.1 y1.2.2.2.2.2.1 y1.2.2.2.2.2.2.1 y1.2.2.2.2.2.2.2.1 y1.2.2.2.2.2.2.2.2.1 y1.2.2.2.2.2.2.2.2.2)) M hP hD hS hl.1 (c_Pl_write l g a_lat a_co a_ta a_gu a_so a_cn a_de a_op a_ki a_tg a_fi a_se a_oc a_cp a_pl a_bs a_rr a_hr a_lw a_lr a_lt a_lm a_tc a_rc r_co r_ta r_gu r_so r_cn r_de r_op r_ki r_tg r_fi r_se r_oc y1.2.2.2.2.2.2.2.2.1 y1.2.2.2.2.2.2.2.2.2 y1.1 y3 hy3) m_683 m_684 m_685 m_7 m_686 hd_Pl_write rfl rfl rfl ⟨by decide, by decide⟩ ⟨by decide, by decide⟩ 5 12 rfl rfl rfl [2, 3, 4, 5, 6, 7, 8, 9, 10, 11, 12, 13, 14, 22, 23] [0, 1, 15, 16, 17, 18, 19, 20, 21] [0, 1, 9, 10, 11, 12, 13, 14, 15, 16, 17, 18, 19, 20, 21, 2, 3, 4, 5, 6, 7, 8, 22, 23] rfl rfl rfl rfl (by decide) rfl rfl rfl (Nat.le_of_ble_eq_true rfl) d_Md_compile_26 (fun H locs hP hD hS => ?_)
    refine W.eq (g2 := F0 m 29 ls []) rfl ?_
    refine lv_iload_n hx hb d_Md_compile_29 rfl (lv_at hl 0 rfl) ?_
    have hE := Option.some.inj hE
    rw [hE]
    exact W.iret (v := y1.1) hx hb hr (fun t ht hW => ⟨⟨rfl, by rw [ht]; exact hP, va_K.moved hW.alike hK, hD⟩, hS.F ht⟩) hS.2.2 d_Md_compile_30 hlocks
  · have hE := it_t hE c2
    have hE := Option.some.inj hE
    have hk : (1 : Int32) = 0 := by rw [hE] at hk; exact hk
    exact absurd hk (by decide)
abbrev rmT_Md_compile : Room := { frames := 6, cells := 1, slots := 6, locals := 133 }
set_option maxHeartbeats 4000000 in
set_option maxRecDepth 100000 in
theorem t1_Md_compile (l : Launch) (htr : ∀ e, l.admits e → e.platform.stackTraces = false) (g : GT) (a_md : Nat) (a_lat : Nat) (a_co : Nat) (a_ta : Nat) (a_gu : Nat) (a_so : Nat) (a_cn : Nat) (a_de : Nat) (a_ma : Nat) (a_op : Nat) (a_ki : Nat) (a_tg : Nat) (a_fi : Nat) (a_se : Nat) (a_oc : Nat) (a_cp : Nat) (a_pl : Nat) (a_bs : Nat) (a_rr : Nat) (a_hr : Nat) (a_lw : Nat) (a_lr : Nat) (a_lt : Nat) (a_lm : Nat) (a_tc : Nat) (a_rc : Nat) (a_ju : Nat) (r_md : Nat → Int32) (r_lat : Nat → Int32) (r_co : Nat → Int32) (r_ta : Nat → Int32) (r_gu : Nat → Int32) (r_so : Nat → Int32) (r_cn : Nat → Int32) (r_de : Nat → Int32) (r_op : Nat → Int32) (r_ki : Nat → Int32) (r_tg : Nat → Int32) (r_fi : Nat → Int32) (r_se : Nat → Int32) (r_oc : Nat → Int32) (r_bs : Nat → Int32) (r_rr : Nat → Int32) (r_hr : Nat → Int32) (r_lw : Nat → Int32) (r_lr : Nat → Int32) (r_lt : Nat → Int32) (r_lm : Nat → Int32) (r_tc : Nat → Int32) (r_rc : Nat → Int32)  (y : Int32 × Int32 × (Nat → Int32) × (Nat → Int32) × (Nat → Int32) × (Nat → Int32) × (Nat → Int32) × (Nat → Int32) × (Nat → Int32) × (Nat → Int32) × (Nat → Int32) × (Nat → Int32) × (Nat → Int32) × (Nat → Int32) × (Nat → Int32) × (Nat → Int32)) (hy : some y = f_Md_compile r_md r_lat r_co r_ta r_gu r_so r_cn r_de r_op r_ki r_tg r_fi r_se r_oc r_bs r_rr r_hr r_lw r_lr r_lt r_lm r_tc r_rc) (hk : y.1 = 1) : CtT l y_Md_compile (.code y_Md_compile b_Md_compile 2 (some .int)) rmT_Md_compile g [.ref a_md] (w_md_24_a833 g a_md a_lat a_co a_ta a_gu a_so a_cn a_de a_ma a_op a_ki a_tg a_fi a_se a_oc a_cp a_pl a_bs a_rr a_hr a_lw a_lr a_lt a_lm a_tc a_rc a_ju r_md r_lat r_co r_ta r_gu r_so r_cn r_de r_op r_ki r_tg r_fi r_se r_oc r_bs r_rr r_hr r_lw r_lr r_lt r_lm r_tc r_rc) (w_md_24_a833 g a_md a_lat a_co a_ta a_gu a_so a_cn a_de a_ma a_op a_ki a_tg a_fi a_se a_oc a_cp a_pl a_bs a_rr a_hr a_lw a_lr a_lt a_lm a_tc a_rc a_ju r_md r_lat r_co y.2.2.1 y.2.2.2.1 y.2.2.2.2.1 y.2.2.2.2.2.1 y.2.2.2.2.2.2.1 r_op r_ki r_tg r_fi r_se r_oc y.2.2.2.2.2.2.2.1 y.2.2.2.2.2.2.2.2.1 y.2.2.2.2.2.2.2.2.2.1 y.2.2.2.2.2.2.2.2.2.2.1 y.2.2.2.2.2.2.2.2.2.2.2.1 y.2.2.2.2.2.2.2.2.2.2.2.2.1 y.2.2.2.2.2.2.2.2.2.2.2.2.2.1 y.2.2.2.2.2.2.2.2.2.2.2.2.2.2.1 y.2.2.2.2.2.2.2.2.2.2.2.2.2.2.2) "java/lang/UnsupportedOperationException" := by
  refine ct_inT (C := "MoveDesk") rfl (by decide) (Nat.le_of_ble_eq_true rfl) (fun p e s m below meth c A ls M hne hP hD hS hl => ?_)
  obtain ⟨hx, hb, hr, hml, hown, hts, hlocks, hA, hK, hG⟩ := id M
  have hl : lv_has ls 2 [(0, .ref a_md)] := hl
  have hE := hy
  rw [f_Md_compile] at hE
  refine lv_aload_n hx hb d_Md_compile_0 rfl (lv_at hl 0 rfl) ?_
  refine va_get (D := g.1) (ci := 6) (v := .ref a_pl) (C := "MoveDesk") (T := F_Md) (N := 7) hx hb hts i_Md hown hK hP 0 rfl rfl 3 (by decide) (hts _ m_274) (fun _ h9 => h9) rfl d_Md_compile_1 ?_
  obtain ⟨y1, hy1, hE⟩ := bd_at hE
  refine kV (C := "MoveDesk$Planner") (index := 113) (As := []) (rest := []) (ws2 := (w_md_24_a833 g a_md a_lat a_co a_ta a_gu a_so a_cn a_de a_ma a_op a_ki a_tg a_fi a_se a_oc a_cp a_pl a_bs a_rr a_hr a_lw a_lr a_lt a_lm a_tc a_rc a_ju r_md r_lat r_co r_ta r_gu r_so r_cn r_de r_op r_ki r_tg r_fi r_se r_oc y1.2.1 y1.2.2.1 y1.2.2.2.1 y1.2.2.2.2.1 y1.2.2.2.2.2.1 y1.2.2.2.2.2.2.1 y1.2.2.2.2.2.2.2.1 y1.2.2.2.2.2.2.2.2.1 y1.2.2.2.2.2.2.2.2.2)) M hP hD hS hl.1 (c_Pl_plan l g a_lat a_co a_ta a_gu a_so a_cn a_de a_op a_ki a_tg a_fi a_se a_oc a_cp a_pl a_bs a_rr a_hr a_lw a_lr a_lt a_lm a_tc a_rc r_lat r_co r_op r_ki r_tg r_fi r_se r_bs r_rr r_hr r_lw r_lr r_lt r_lm r_tc r_rc  y1 hy1) m_598 m_599 m_600 m_7 m_601 hd_Pl_plan rfl rfl rfl ⟨by decide, by decide⟩ ⟨by decide, by decide⟩ 5 7 rfl rfl rfl [1, 2, 8, 9, 10, 11, 12, 14, 15, 16, 17, 18, 19, 20, 21, 22, 23] [0, 3, 4, 5, 6, 7, 13] [0, 7, 8, 1, 2, 3, 4, 5, 9, 10, 11, 12, 13, 6, 14, 15, 16, 17, 18, 19, 20, 21, 22, 23] rfl rfl rfl rfl (by decide) rfl rfl rfl (Nat.le_of_ble_eq_true rfl) d_Md_compile_4 (fun H locs hP hD hS => ?_)
  refine W.eq (g2 := F0 m 7 ls [.int y1.1]) rfl ?_
  refine lv_istore_n (lv' := [(1, .int y1.1), (0, .ref a_md)]) hx hb d_Md_compile_7 rfl hl (by decide) rfl (fun ls hl => ?_)
  refine lv_iload_n hx hb d_Md_compile_8 rfl (lv_at hl 0 rfl) ?_
  refine lv_iconst (v := (-1)) hx hb d_Md_compile_9 (by decide) ?_
  refine lv_icmp_ne (tgt := 21) hx hb d_Md_compile_10 (by decide) (fun c2 => ?_) (fun c2 => ?_)
  · have hE := it_f hE c2
    refine lv_aload_n hx hb d_Md_compile_21 rfl (lv_at hl 1 rfl) ?_
    refine va_get (D := g.1) (ci := 6) (v := .ref a_pl) (C := "MoveDesk") (T := F_Md) (N := 7) hx hb hts i_Md hown hK hP 0 rfl rfl 3 (by decide) (hts _ m_274) (fun _ h9 => h9) rfl d_Md_compile_22 ?_
    refine lv_iload_n hx hb d_Md_compile_25 rfl (lv_at hl 0 rfl) ?_
    obtain ⟨y3, hy3, hE⟩ := bd_at hE
    refine kV (C := "MoveDesk$Planner") (index := 119) (As := [.int y1.1]) (rest := []) (ws2 := (w_md_24_a833 g a_md a_lat a_co a_ta a_gu a_so a_cn a_de a_ma a_op a_ki a_tg a_fi a_se a_oc a_cp a_pl a_bs a_rr a_hr a_lw a_lr a_lt a_lm a_tc a_rc a_ju r_md r_lat r_co y3.1 y3.2.1 y3.2.2.1 y3.2.2.2.1 y3.2.2.2.2 r_op r_ki r_tg r_fi r_se r_oc y1.2.1 y1.2.2.1 y1.2.2.2.1 y1.2.2.2.2.1 y1.2.2.2.2.2.1 y1.2.2.2.2.2.2.1 y1.2.2.2.2.2.2.2.1 y1.2.2.2.2.2.2.2.2.1 y1.2.2.2.2.2.2.2.2.2)) M hP hD hS hl.1 (c_Pl_write l g a_lat a_co a_ta a_gu a_so a_cn a_de a_op a_ki a_tg a_fi a_se a_oc a_cp a_pl a_bs a_rr a_hr a_lw a_lr a_lt a_lm a_tc a_rc r_co r_ta r_gu r_so r_cn r_de r_op r_ki r_tg r_fi r_se r_oc y1.2.2.2.2.2.2.2.2.1 y1.2.2.2.2.2.2.2.2.2 y1.1 y3 hy3) m_683 m_684 m_685 m_7 m_686 hd_Pl_write rfl rfl rfl ⟨by decide, by decide⟩ ⟨by decide, by decide⟩ 5 12 rfl rfl rfl [2, 3, 4, 5, 6, 7, 8, 9, 10, 11, 12, 13, 14, 22, 23] [0, 1, 15, 16, 17, 18, 19, 20, 21] [0, 1, 9, 10, 11, 12, 13, 14, 15, 16, 17, 18, 19, 20, 21, 2, 3, 4, 5, 6, 7, 8, 22, 23] rfl rfl rfl rfl (by decide) rfl rfl rfl (Nat.le_of_ble_eq_true rfl) d_Md_compile_26 (fun H locs hP hD hS => ?_)
    refine W.eq (g2 := F0 m 29 ls []) rfl ?_
    refine lv_iload_n hx hb d_Md_compile_29 rfl (lv_at hl 0 rfl) ?_
    have hE := Option.some.inj hE
    have hk : (0 : Int32) = 1 := by rw [hE] at hk; exact hk
    exact absurd hk (by decide)
  · have hE := it_t hE c2
    have hE := Option.some.inj hE
    try rw [hE]
    exact k_throw M hP hD hS hne htr x_UOE (by decide) m_668 m_669 m_17 hl.1 (by decide) (by decide) (by decide) (by decide) d_Md_compile_13 d_Md_compile_16 d_Md_compile_17 d_Md_compile_20
abbrev rm_Md_run : Room := { frames := 4, cells := 0, slots := 0, locals := 89 }
set_option maxHeartbeats 4000000 in
set_option maxRecDepth 100000 in
theorem wlc_Md_run_25 {p : Program} {l : Launch} {e : Env} {s : State} {m : MethodId} {args : Array Value} {below : List Frame} {meth : Method} {c : Code} {A : Nat → Prop} {g : GT} {a_md : Nat} {a_lat : Nat} {a_co : Nat} {a_ta : Nat} {a_gu : Nat} {a_so : Nat} {a_cn : Nat} {a_de : Nat} {a_ma : Nat} {a_bu : Nat} {a_wo : Nat} {a_od : Nat} {a_rs : Nat} {a_ca : Nat} {a_cm : Nat} {a_op : Nat} {a_pl : Nat} {a_ju : Nat} {y : Int32 × Int32 × (Nat → Int32) × (Nat → Int32) × (Nat → Int32) × (Nat → Int32) × (Nat → Int32) × (Nat → Int32) × (Nat → Int32) × (Nat → Int32)} (M : MX p s m args meth c b_Md_run 3 (some .int) "MoveDesk" g A) (hk : y.1 = 0) : ∀ n : Nat, ∀ (r_md : Nat → Int32) (r_lat : Nat → Int32) (r_co : Nat → Int32) (r_ta : Nat → Int32) (r_gu : Nat → Int32) (r_so : Nat → Int32) (r_cn : Nat → Int32) (r_de : Nat → Int32) (r_ma : Nat → Int32) (r_bu : Nat → Int32) (r_wo : Nat → Int32) (r_od : Nat → Int32) (r_rs : Nat → Int32) (r_ca : Nat → Int32) (r_cm : Nat → Int32) (v1 : Int32) (v2 : Int32) (H : Heap) (locs : List Loc) (ls : Array Slot), some y = (f_Md_run_25 n) r_md r_lat r_co r_ta r_gu r_so r_cn r_de r_ma r_bu r_wo r_od r_rs r_ca r_cm v1 v2 → va_P g.1 classes (w_md_15_1b84 g a_md a_lat a_co a_ta a_gu a_so a_cn a_de a_ma a_bu a_wo a_od a_rs a_ca a_cm a_op a_pl a_ju r_md r_lat r_co r_ta r_gu r_so r_cn r_de r_ma r_bu r_wo r_od r_rs r_ca r_cm) H → va_D A (w_md_15_1b84 g a_md a_lat a_co a_ta a_gu a_so a_cn a_de a_ma a_bu a_wo a_od a_rs a_ca a_cm a_op a_pl a_ju r_md r_lat r_co r_ta r_gu r_so r_cn r_de r_ma r_bu r_wo r_od r_rs r_ca r_cm) → va_S A s.heap H locs → lv_has ls 3 [(0, .ref a_md), (1, .int v1), (2, .int v2)] → W p l e rm_Md_run s m args below meth c H locs 0 0 (MQ below (QW g (some (.int y.2.1)) (w_md_15_1b84 g a_md a_lat a_co a_ta a_gu a_so a_cn a_de a_ma a_bu a_wo a_od a_rs a_ca a_cm a_op a_pl a_ju y.2.2.1 r_lat r_co r_ta r_gu r_so r_cn r_de y.2.2.2.1 y.2.2.2.2.1 y.2.2.2.2.2.1 y.2.2.2.2.2.2.1 y.2.2.2.2.2.2.2.1 y.2.2.2.2.2.2.2.2.1 y.2.2.2.2.2.2.2.2.2) A) args s 0 0 A) (F0 m 25 ls []) := by
  obtain ⟨hx, hb, hr, hml, hown, hts, hlocks, hA, hK, hG⟩ := id M
  intro n
  induction n with
  | zero =>
    intro r_md r_lat r_co r_ta r_gu r_so r_cn r_de r_ma r_bu r_wo r_od r_rs r_ca r_cm v1 v2 H locs ls hE hP hD hS hl
    rw [f_Md_run_25] at hE
    cases hE
  | succ n ih =>
    intro r_md r_lat r_co r_ta r_gu r_so r_cn r_de r_ma r_bu r_wo r_od r_rs r_ca r_cm v1 v2 H locs ls hE hP hD hS hl
    rw [f_Md_run_25] at hE
    refine lv_iload_n hx hb d_Md_run_25 rfl (lv_at hl 2 rfl) ?_
    refine lv_iload_n hx hb d_Md_run_26 rfl (lv_at hl 1 rfl) ?_
    refine lv_icmp_ge (tgt := 68) hx hb d_Md_run_27 (by decide) (fun c1 => ?_) (fun c1 => ?_)
    · have hE := it_t hE c1
      refine lv_iload_n hx hb d_Md_run_68 rfl (lv_at hl 1 rfl) ?_
      have hE := Option.some.inj hE
      rw [hE]
      exact W.iret (v := v1) hx hb hr (fun t ht hW => ⟨⟨rfl, by rw [ht]; exact hP, va_K.moved hW.alike hK, hD⟩, hS.F ht⟩) hS.2.2 d_Md_run_69 hlocks
    · have hE := it_f hE c1
      refine lv_aload_n hx hb d_Md_run_30 rfl (lv_at hl 0 rfl) ?_
      refine va_get (D := g.1) (ci := 6) (v := .ref a_ma) (C := "MoveDesk") (T := F_Md) (N := 7) hx hb hts i_Md hown hK hP 0 rfl rfl 1 (by decide) (hts _ m_272) (fun _ h9 => h9) rfl d_Md_run_31 ?_
      obtain ⟨y2, hy2, hE⟩ := bd_at hE
      refine kV (C := "MoveDesk$Machine") (index := 131) (As := []) (rest := []) (ws2 := (w_md_15_1b84 g a_md a_lat a_co a_ta a_gu a_so a_cn a_de a_ma a_bu a_wo a_od a_rs a_ca a_cm a_op a_pl a_ju r_md r_lat r_co r_ta r_gu r_so r_cn r_de r_ma r_bu r_wo r_od r_rs r_ca r_cm)) M hP hD hS hl.1 (c_Ma_isHalted l g a_lat a_co a_ma a_bu a_wo a_od a_rs a_ca a_cm r_ma  y2 hy2) m_714 m_715 m_716 m_4 m_717 hd_Ma_isHalted rfl rfl rfl ⟨by decide, by decide⟩ ⟨by decide, by decide⟩ 3 0 rfl rfl rfl [8] [0, 1, 2, 3, 4, 5, 6, 7, 9, 10, 11, 12, 13, 14] [0, 1, 2, 3, 4, 5, 6, 7, 14, 8, 9, 10, 11, 12, 13] rfl rfl rfl rfl (by decide) rfl rfl rfl (Nat.le_of_ble_eq_true rfl) d_Md_run_34 (fun H locs hP hD hS => ?_)
      refine W.eq (g2 := F0 m 37 ls [.int y2]) rfl ?_
      refine lv_if_eq (tgt := 42) hx hb d_Md_run_37 (by decide) (fun c3 => ?_) (fun c3 => ?_)
      · have hE := it_t hE c3
        refine lv_aload_n hx hb d_Md_run_42 rfl (lv_at hl 0 rfl) ?_
        refine lv_aload_n hx hb d_Md_run_43 rfl (lv_at hl 0 rfl) ?_
        refine va_get (D := g.1) (ci := 6) (v := .ref a_ma) (C := "MoveDesk") (T := F_Md) (N := 7) hx hb hts i_Md hown hK hP 0 rfl rfl 1 (by decide) (hts _ m_272) (fun _ h9 => h9) rfl d_Md_run_44 ?_
        obtain ⟨y4, hy4, hE⟩ := bd_at hE
        refine kV (C := "MoveDesk$Machine") (index := 135) (As := []) (rest := [.ref a_md]) (ws2 := (w_md_15_1b84 g a_md a_lat a_co a_ta a_gu a_so a_cn a_de a_ma a_bu a_wo a_od a_rs a_ca a_cm a_op a_pl a_ju r_md r_lat r_co r_ta r_gu r_so r_cn r_de y4.2.1 y4.2.2.1 y4.2.2.2.1 y4.2.2.2.2.1 y4.2.2.2.2.2.1 y4.2.2.2.2.2.2.1 y4.2.2.2.2.2.2.2)) M hP hD hS hl.1 (c_Ma_tryCycle l g a_lat a_co a_ta a_gu a_so a_cn a_de a_ma a_bu a_wo a_od a_rs a_ca a_cm r_lat r_co r_ta r_gu r_so r_cn r_de r_ma r_bu r_wo r_od r_rs r_ca r_cm  y4 hy4) m_718 m_719 m_720 m_4 m_721 hd_Ma_tryCycle rfl rfl rfl ⟨by decide, by decide⟩ ⟨by decide, by decide⟩ 3 7 rfl rfl rfl [1, 2, 3, 4, 5, 6, 7, 8, 9, 10, 11, 12, 13, 14] [0] [0, 1, 2, 3, 4, 5, 6, 7, 8, 9, 10, 11, 12, 13, 14] rfl rfl rfl rfl (by decide) rfl rfl rfl (Nat.le_of_ble_eq_true rfl) d_Md_run_47 (fun H locs hP hD hS => ?_)
        refine W.eq (g2 := F0 m 50 ls [.int y4.1, .ref a_md]) rfl ?_
        refine va_put (D := g.1) (ci := 6) (v := .int y4.1) (ty := .int) (C := "MoveDesk") (T := F_Md) (N := 7) hx hb hts i_Md t_Md t_Md_ok n_Md hown hK hP hD hS 0 rfl rfl 6 (by decide) (hts _ m_277) (fun _ h9 => h9) rfl (by decide +kernel) rfl rfl (Nat.le_of_ble_eq_true rfl) d_Md_run_50 (fun H locs hP hD hS => ?_)
        have hP : va_P g.1 classes (w_md_15_1b84 g a_md a_lat a_co a_ta a_gu a_so a_cn a_de a_ma a_bu a_wo a_od a_rs a_ca a_cm a_op a_pl a_ju (upd r_md 6 y4.1) r_lat r_co r_ta r_gu r_so r_cn r_de y4.2.1 y4.2.2.1 y4.2.2.2.1 y4.2.2.2.2.1 y4.2.2.2.2.2.1 y4.2.2.2.2.2.2.1 y4.2.2.2.2.2.2.2) H := hP
        have hD : va_D A (w_md_15_1b84 g a_md a_lat a_co a_ta a_gu a_so a_cn a_de a_ma a_bu a_wo a_od a_rs a_ca a_cm a_op a_pl a_ju (upd r_md 6 y4.1) r_lat r_co r_ta r_gu r_so r_cn r_de y4.2.1 y4.2.2.1 y4.2.2.2.1 y4.2.2.2.2.1 y4.2.2.2.2.2.1 y4.2.2.2.2.2.2.1 y4.2.2.2.2.2.2.2) := hD
        refine lv_aload_n hx hb d_Md_run_53 rfl (lv_at hl 0 rfl) ?_
        refine va_get (D := g.1) (ci := 6) (v := .int y4.1) (C := "MoveDesk") (T := F_Md) (N := 7) hx hb hts i_Md hown hK hP 0 rfl rfl 6 (by decide) (hts _ m_277) (fun _ h9 => h9) rfl d_Md_run_54 ?_
        refine lv_if_eq (tgt := 62) hx hb d_Md_run_57 (by decide) (fun c5 => ?_) (fun c5 => ?_)
        · have hE := it_t hE c5
          obtain ⟨x6, ex6⟩ : ∃ z : Int32, z = v2 + 1 := ⟨_, rfl⟩
          have hE := nm_at hE ex6
          refine lv_iinc (v := x6) (lv' := [(2, .int x6), (0, .ref a_md), (1, .int v1)]) hx hb d_Md_run_62 hl (k := 2) rfl (by rw [ex6]; rfl) (by decide) rfl (fun ls hl => ?_)
          refine lv_goto (tgt := 25) hx hb d_Md_run_65 (by decide) ?_
          exact ih _ _ _ _ _ _ _ _ _ _ _ _ _ _ _ _ _ _ _ _ hE hP hD hS (lv_sub hl [1, 2, 0] rfl)
        · have hE := it_f hE c5
          refine lv_iload_n hx hb d_Md_run_60 rfl (lv_at hl 2 rfl) ?_
          have hE := Option.some.inj hE
          rw [hE]
          exact W.iret (v := v2) hx hb hr (fun t ht hW => ⟨⟨rfl, by rw [ht]; exact hP, va_K.moved hW.alike hK, hD⟩, hS.F ht⟩) hS.2.2 d_Md_run_61 hlocks
      · have hE := it_f hE c3
        refine lv_iload_n hx hb d_Md_run_40 rfl (lv_at hl 2 rfl) ?_
        have hE := Option.some.inj hE
        rw [hE]
        exact W.iret (v := v2) hx hb hr (fun t ht hW => ⟨⟨rfl, by rw [ht]; exact hP, va_K.moved hW.alike hK, hD⟩, hS.F ht⟩) hS.2.2 d_Md_run_41 hlocks
set_option maxHeartbeats 4000000 in
set_option maxRecDepth 100000 in
theorem c_Md_run (l : Launch) (g : GT) (a_md : Nat) (a_lat : Nat) (a_co : Nat) (a_ta : Nat) (a_gu : Nat) (a_so : Nat) (a_cn : Nat) (a_de : Nat) (a_ma : Nat) (a_bu : Nat) (a_wo : Nat) (a_od : Nat) (a_rs : Nat) (a_ca : Nat) (a_cm : Nat) (a_op : Nat) (a_pl : Nat) (a_ju : Nat) (r_md : Nat → Int32) (r_lat : Nat → Int32) (r_co : Nat → Int32) (r_ta : Nat → Int32) (r_gu : Nat → Int32) (r_so : Nat → Int32) (r_cn : Nat → Int32) (r_de : Nat → Int32) (r_ma : Nat → Int32) (r_bu : Nat → Int32) (r_wo : Nat → Int32) (r_od : Nat → Int32) (r_rs : Nat → Int32) (r_ca : Nat → Int32) (r_cm : Nat → Int32) (v1 : Int32) (y : Int32 × Int32 × (Nat → Int32) × (Nat → Int32) × (Nat → Int32) × (Nat → Int32) × (Nat → Int32) × (Nat → Int32) × (Nat → Int32) × (Nat → Int32)) (hy : some y = f_Md_run r_md r_lat r_co r_ta r_gu r_so r_cn r_de r_ma r_bu r_wo r_od r_rs r_ca r_cm v1) (hk : y.1 = 0) : Ct l y_Md_run (.code y_Md_run b_Md_run 3 (some .int)) rm_Md_run g [.ref a_md, .int v1] (w_md_15_1b84 g a_md a_lat a_co a_ta a_gu a_so a_cn a_de a_ma a_bu a_wo a_od a_rs a_ca a_cm a_op a_pl a_ju r_md r_lat r_co r_ta r_gu r_so r_cn r_de r_ma r_bu r_wo r_od r_rs r_ca r_cm) (w_md_15_1b84 g a_md a_lat a_co a_ta a_gu a_so a_cn a_de a_ma a_bu a_wo a_od a_rs a_ca a_cm a_op a_pl a_ju y.2.2.1 r_lat r_co r_ta r_gu r_so r_cn r_de y.2.2.2.1 y.2.2.2.2.1 y.2.2.2.2.2.1 y.2.2.2.2.2.2.1 y.2.2.2.2.2.2.2.1 y.2.2.2.2.2.2.2.2.1 y.2.2.2.2.2.2.2.2.2) (some (.int y.2.1)) := by
  refine ct_in (C := "MoveDesk") rfl (by decide) (Nat.le_of_ble_eq_true rfl) (fun p e s m below meth c A ls M hP hD hS hl => ?_)
  obtain ⟨hx, hb, hr, hml, hown, hts, hlocks, hA, hK, hG⟩ := id M
  have hl : lv_has ls 3 [(0, .ref a_md), (1, .int v1)] := hl
  have hE := hy
  rw [f_Md_run] at hE
  refine lv_iload_n hx hb d_Md_run_0 rfl (lv_at hl 1 rfl) ?_
  refine lv_sipush (v := 1000) hx hb d_Md_run_1 (by decide) ?_
  obtain ⟨y1, hy1, hE⟩ := bd_at hE
  refine kS (index := 73) (As := [.int v1, .int 1000]) (rest := []) (ws2 := (w_md_15_1b84 g a_md a_lat a_co a_ta a_gu a_so a_cn a_de a_ma a_bu a_wo a_od a_rs a_ca a_cm a_op a_pl a_ju r_md r_lat r_co r_ta r_gu r_so r_cn r_de r_ma r_bu r_wo r_od r_rs r_ca r_cm)) M hP hD hS hl.1 (c_Md_isWithin l g   v1 (1000 : Int32) y1 hy1) m_520 m_521 m_1 m_522 hs_Md_isWithin rfl rfl rfl ⟨by decide, by decide⟩ ⟨by decide, by decide⟩ [] [0, 1, 2, 3, 4, 5, 6, 7, 8, 9, 10, 11, 12, 13, 14] [0, 1, 2, 3, 4, 5, 6, 7, 8, 9, 10, 11, 12, 13, 14] rfl rfl rfl rfl (by decide) rfl rfl rfl (Nat.le_of_ble_eq_true rfl) d_Md_run_4 (fun H locs hP hD hS => ?_)
  refine W.eq (g2 := F0 m 7 ls [.int y1]) rfl ?_
  refine lv_if_ne (tgt := 18) hx hb d_Md_run_7 (by decide) (fun c2 => ?_) (fun c2 => ?_)
  · have hE := it_f hE c2
    refine lv_aload_n hx hb d_Md_run_18 rfl (lv_at hl 0 rfl) ?_
    refine lv_iconst (v := 0) hx hb d_Md_run_19 (by decide) ?_
    refine va_put (D := g.1) (ci := 6) (v := .int 0) (ty := .int) (C := "MoveDesk") (T := F_Md) (N := 7) hx hb hts i_Md t_Md t_Md_ok n_Md hown hK hP hD hS 0 rfl rfl 6 (by decide) (hts _ m_277) (fun _ h9 => h9) rfl (by decide +kernel) rfl rfl (Nat.le_of_ble_eq_true rfl) d_Md_run_20 (fun H locs hP hD hS => ?_)
    have hP : va_P g.1 classes (w_md_15_1b84 g a_md a_lat a_co a_ta a_gu a_so a_cn a_de a_ma a_bu a_wo a_od a_rs a_ca a_cm a_op a_pl a_ju (upd r_md 6 0) r_lat r_co r_ta r_gu r_so r_cn r_de r_ma r_bu r_wo r_od r_rs r_ca r_cm) H := hP
    have hD : va_D A (w_md_15_1b84 g a_md a_lat a_co a_ta a_gu a_so a_cn a_de a_ma a_bu a_wo a_od a_rs a_ca a_cm a_op a_pl a_ju (upd r_md 6 0) r_lat r_co r_ta r_gu r_so r_cn r_de r_ma r_bu r_wo r_od r_rs r_ca r_cm) := hD
    refine lv_iconst (v := 0) hx hb d_Md_run_23 (by decide) ?_
    refine lv_istore_n (lv' := [(2, .int 0), (0, .ref a_md), (1, .int v1)]) hx hb d_Md_run_24 rfl hl (by decide) rfl (fun ls hl => ?_)
    exact wlc_Md_run_25 M hk 5000 _ _ _ _ _ _ _ _ _ _ _ _ _ _ _ _ _ _ _ _ hE hP hD hS (lv_sub hl [1, 2, 0] rfl)
  · have hE := it_t hE c2
    have hE := Option.some.inj hE
    have hk : (1 : Int32) = 0 := by rw [hE] at hk; exact hk
    exact absurd hk (by decide)
abbrev rmT_Md_run : Room := { frames := 6, cells := 1, slots := 6, locals := 89 }
set_option maxHeartbeats 4000000 in
set_option maxRecDepth 100000 in
theorem wlt1_Md_run_25 {p : Program} {l : Launch} {e : Env} {s : State} {m : MethodId} {args : Array Value} {below : List Frame} {meth : Method} {c : Code} {A : Nat → Prop} {g : GT} {a_md : Nat} {a_lat : Nat} {a_co : Nat} {a_ta : Nat} {a_gu : Nat} {a_so : Nat} {a_cn : Nat} {a_de : Nat} {a_ma : Nat} {a_bu : Nat} {a_wo : Nat} {a_od : Nat} {a_rs : Nat} {a_ca : Nat} {a_cm : Nat} {a_op : Nat} {a_pl : Nat} {a_ju : Nat} {y : Int32 × Int32 × (Nat → Int32) × (Nat → Int32) × (Nat → Int32) × (Nat → Int32) × (Nat → Int32) × (Nat → Int32) × (Nat → Int32) × (Nat → Int32)} (M : MX p s m args meth c b_Md_run 3 (some .int) "MoveDesk" g A) (hk : y.1 = 1) (hne : c.exceptionTable.isEmpty = true) (htr : ∀ e, l.admits e → e.platform.stackTraces = false) : ∀ n : Nat, ∀ (r_md : Nat → Int32) (r_lat : Nat → Int32) (r_co : Nat → Int32) (r_ta : Nat → Int32) (r_gu : Nat → Int32) (r_so : Nat → Int32) (r_cn : Nat → Int32) (r_de : Nat → Int32) (r_ma : Nat → Int32) (r_bu : Nat → Int32) (r_wo : Nat → Int32) (r_od : Nat → Int32) (r_rs : Nat → Int32) (r_ca : Nat → Int32) (r_cm : Nat → Int32) (v1 : Int32) (v2 : Int32) (H : Heap) (locs : List Loc) (ls : Array Slot), some y = (f_Md_run_25 n) r_md r_lat r_co r_ta r_gu r_so r_cn r_de r_ma r_bu r_wo r_od r_rs r_ca r_cm v1 v2 → va_P g.1 classes (w_md_15_1b84 g a_md a_lat a_co a_ta a_gu a_so a_cn a_de a_ma a_bu a_wo a_od a_rs a_ca a_cm a_op a_pl a_ju r_md r_lat r_co r_ta r_gu r_so r_cn r_de r_ma r_bu r_wo r_od r_rs r_ca r_cm) H → va_D A (w_md_15_1b84 g a_md a_lat a_co a_ta a_gu a_so a_cn a_de a_ma a_bu a_wo a_od a_rs a_ca a_cm a_op a_pl a_ju r_md r_lat r_co r_ta r_gu r_so r_cn r_de r_ma r_bu r_wo r_od r_rs r_ca r_cm) → va_S A s.heap H locs → lv_has ls 3 [(0, .ref a_md), (1, .int v1), (2, .int v2)] → W p l e rmT_Md_run s m args below meth c H locs 0 0 (MQT below (QT g "java/lang/IllegalArgumentException" (w_md_15_1b84 g a_md a_lat a_co a_ta a_gu a_so a_cn a_de a_ma a_bu a_wo a_od a_rs a_ca a_cm a_op a_pl a_ju y.2.2.1 r_lat r_co r_ta r_gu r_so r_cn r_de y.2.2.2.1 y.2.2.2.2.1 y.2.2.2.2.2.1 y.2.2.2.2.2.2.1 y.2.2.2.2.2.2.2.1 y.2.2.2.2.2.2.2.2.1 y.2.2.2.2.2.2.2.2.2) A s) s 1 6 A) (F0 m 25 ls []) := by
  obtain ⟨hx, hb, hr, hml, hown, hts, hlocks, hA, hK, hG⟩ := id M
  intro n
  induction n with
  | zero =>
    intro r_md r_lat r_co r_ta r_gu r_so r_cn r_de r_ma r_bu r_wo r_od r_rs r_ca r_cm v1 v2 H locs ls hE hP hD hS hl
    rw [f_Md_run_25] at hE
    cases hE
  | succ n ih =>
    intro r_md r_lat r_co r_ta r_gu r_so r_cn r_de r_ma r_bu r_wo r_od r_rs r_ca r_cm v1 v2 H locs ls hE hP hD hS hl
    rw [f_Md_run_25] at hE
    refine lv_iload_n hx hb d_Md_run_25 rfl (lv_at hl 2 rfl) ?_
    refine lv_iload_n hx hb d_Md_run_26 rfl (lv_at hl 1 rfl) ?_
    refine lv_icmp_ge (tgt := 68) hx hb d_Md_run_27 (by decide) (fun c1 => ?_) (fun c1 => ?_)
    · have hE := it_t hE c1
      refine lv_iload_n hx hb d_Md_run_68 rfl (lv_at hl 1 rfl) ?_
      have hE := Option.some.inj hE
      have hk : (0 : Int32) = 1 := by rw [hE] at hk; exact hk
      exact absurd hk (by decide)
    · have hE := it_f hE c1
      refine lv_aload_n hx hb d_Md_run_30 rfl (lv_at hl 0 rfl) ?_
      refine va_get (D := g.1) (ci := 6) (v := .ref a_ma) (C := "MoveDesk") (T := F_Md) (N := 7) hx hb hts i_Md hown hK hP 0 rfl rfl 1 (by decide) (hts _ m_272) (fun _ h9 => h9) rfl d_Md_run_31 ?_
      obtain ⟨y2, hy2, hE⟩ := bd_at hE
      refine kV (C := "MoveDesk$Machine") (index := 131) (As := []) (rest := []) (ws2 := (w_md_15_1b84 g a_md a_lat a_co a_ta a_gu a_so a_cn a_de a_ma a_bu a_wo a_od a_rs a_ca a_cm a_op a_pl a_ju r_md r_lat r_co r_ta r_gu r_so r_cn r_de r_ma r_bu r_wo r_od r_rs r_ca r_cm)) M hP hD hS hl.1 (c_Ma_isHalted l g a_lat a_co a_ma a_bu a_wo a_od a_rs a_ca a_cm r_ma  y2 hy2) m_714 m_715 m_716 m_4 m_717 hd_Ma_isHalted rfl rfl rfl ⟨by decide, by decide⟩ ⟨by decide, by decide⟩ 3 0 rfl rfl rfl [8] [0, 1, 2, 3, 4, 5, 6, 7, 9, 10, 11, 12, 13, 14] [0, 1, 2, 3, 4, 5, 6, 7, 14, 8, 9, 10, 11, 12, 13] rfl rfl rfl rfl (by decide) rfl rfl rfl (Nat.le_of_ble_eq_true rfl) d_Md_run_34 (fun H locs hP hD hS => ?_)
      refine W.eq (g2 := F0 m 37 ls [.int y2]) rfl ?_
      refine lv_if_eq (tgt := 42) hx hb d_Md_run_37 (by decide) (fun c3 => ?_) (fun c3 => ?_)
      · have hE := it_t hE c3
        refine lv_aload_n hx hb d_Md_run_42 rfl (lv_at hl 0 rfl) ?_
        refine lv_aload_n hx hb d_Md_run_43 rfl (lv_at hl 0 rfl) ?_
        refine va_get (D := g.1) (ci := 6) (v := .ref a_ma) (C := "MoveDesk") (T := F_Md) (N := 7) hx hb hts i_Md hown hK hP 0 rfl rfl 1 (by decide) (hts _ m_272) (fun _ h9 => h9) rfl d_Md_run_44 ?_
        obtain ⟨y4, hy4, hE⟩ := bd_at hE
        refine kV (C := "MoveDesk$Machine") (index := 135) (As := []) (rest := [.ref a_md]) (ws2 := (w_md_15_1b84 g a_md a_lat a_co a_ta a_gu a_so a_cn a_de a_ma a_bu a_wo a_od a_rs a_ca a_cm a_op a_pl a_ju r_md r_lat r_co r_ta r_gu r_so r_cn r_de y4.2.1 y4.2.2.1 y4.2.2.2.1 y4.2.2.2.2.1 y4.2.2.2.2.2.1 y4.2.2.2.2.2.2.1 y4.2.2.2.2.2.2.2)) M hP hD hS hl.1 (c_Ma_tryCycle l g a_lat a_co a_ta a_gu a_so a_cn a_de a_ma a_bu a_wo a_od a_rs a_ca a_cm r_lat r_co r_ta r_gu r_so r_cn r_de r_ma r_bu r_wo r_od r_rs r_ca r_cm  y4 hy4) m_718 m_719 m_720 m_4 m_721 hd_Ma_tryCycle rfl rfl rfl ⟨by decide, by decide⟩ ⟨by decide, by decide⟩ 3 7 rfl rfl rfl [1, 2, 3, 4, 5, 6, 7, 8, 9, 10, 11, 12, 13, 14] [0] [0, 1, 2, 3, 4, 5, 6, 7, 8, 9, 10, 11, 12, 13, 14] rfl rfl rfl rfl (by decide) rfl rfl rfl (Nat.le_of_ble_eq_true rfl) d_Md_run_47 (fun H locs hP hD hS => ?_)
        refine W.eq (g2 := F0 m 50 ls [.int y4.1, .ref a_md]) rfl ?_
        refine va_put (D := g.1) (ci := 6) (v := .int y4.1) (ty := .int) (C := "MoveDesk") (T := F_Md) (N := 7) hx hb hts i_Md t_Md t_Md_ok n_Md hown hK hP hD hS 0 rfl rfl 6 (by decide) (hts _ m_277) (fun _ h9 => h9) rfl (by decide +kernel) rfl rfl (Nat.le_of_ble_eq_true rfl) d_Md_run_50 (fun H locs hP hD hS => ?_)
        have hP : va_P g.1 classes (w_md_15_1b84 g a_md a_lat a_co a_ta a_gu a_so a_cn a_de a_ma a_bu a_wo a_od a_rs a_ca a_cm a_op a_pl a_ju (upd r_md 6 y4.1) r_lat r_co r_ta r_gu r_so r_cn r_de y4.2.1 y4.2.2.1 y4.2.2.2.1 y4.2.2.2.2.1 y4.2.2.2.2.2.1 y4.2.2.2.2.2.2.1 y4.2.2.2.2.2.2.2) H := hP
        have hD : va_D A (w_md_15_1b84 g a_md a_lat a_co a_ta a_gu a_so a_cn a_de a_ma a_bu a_wo a_od a_rs a_ca a_cm a_op a_pl a_ju (upd r_md 6 y4.1) r_lat r_co r_ta r_gu r_so r_cn r_de y4.2.1 y4.2.2.1 y4.2.2.2.1 y4.2.2.2.2.1 y4.2.2.2.2.2.1 y4.2.2.2.2.2.2.1 y4.2.2.2.2.2.2.2) := hD
        refine lv_aload_n hx hb d_Md_run_53 rfl (lv_at hl 0 rfl) ?_
        refine va_get (D := g.1) (ci := 6) (v := .int y4.1) (C := "MoveDesk") (T := F_Md) (N := 7) hx hb hts i_Md hown hK hP 0 rfl rfl 6 (by decide) (hts _ m_277) (fun _ h9 => h9) rfl d_Md_run_54 ?_
        refine lv_if_eq (tgt := 62) hx hb d_Md_run_57 (by decide) (fun c5 => ?_) (fun c5 => ?_)
        · have hE := it_t hE c5
          obtain ⟨x6, ex6⟩ : ∃ z : Int32, z = v2 + 1 := ⟨_, rfl⟩
          have hE := nm_at hE ex6
          refine lv_iinc (v := x6) (lv' := [(2, .int x6), (0, .ref a_md), (1, .int v1)]) hx hb d_Md_run_62 hl (k := 2) rfl (by rw [ex6]; rfl) (by decide) rfl (fun ls hl => ?_)
          refine lv_goto (tgt := 25) hx hb d_Md_run_65 (by decide) ?_
          exact ih _ _ _ _ _ _ _ _ _ _ _ _ _ _ _ _ _ _ _ _ hE hP hD hS (lv_sub hl [1, 2, 0] rfl)
        · have hE := it_f hE c5
          refine lv_iload_n hx hb d_Md_run_60 rfl (lv_at hl 2 rfl) ?_
          have hE := Option.some.inj hE
          have hk : (0 : Int32) = 1 := by rw [hE] at hk; exact hk
          exact absurd hk (by decide)
      · have hE := it_f hE c3
        refine lv_iload_n hx hb d_Md_run_40 rfl (lv_at hl 2 rfl) ?_
        have hE := Option.some.inj hE
        have hk : (0 : Int32) = 1 := by rw [hE] at hk; exact hk
        exact absurd hk (by decide)
set_option maxHeartbeats 4000000 in
set_option maxRecDepth 100000 in
theorem t1_Md_run (l : Launch) (htr : ∀ e, l.admits e → e.platform.stackTraces = false) (g : GT) (a_md : Nat) (a_lat : Nat) (a_co : Nat) (a_ta : Nat) (a_gu : Nat) (a_so : Nat) (a_cn : Nat) (a_de : Nat) (a_ma : Nat) (a_bu : Nat) (a_wo : Nat) (a_od : Nat) (a_rs : Nat) (a_ca : Nat) (a_cm : Nat) (a_op : Nat) (a_pl : Nat) (a_ju : Nat) (r_md : Nat → Int32) (r_lat : Nat → Int32) (r_co : Nat → Int32) (r_ta : Nat → Int32) (r_gu : Nat → Int32) (r_so : Nat → Int32) (r_cn : Nat → Int32) (r_de : Nat → Int32) (r_ma : Nat → Int32) (r_bu : Nat → Int32) (r_wo : Nat → Int32) (r_od : Nat → Int32) (r_rs : Nat → Int32) (r_ca : Nat → Int32) (r_cm : Nat → Int32) (v1 : Int32) (y : Int32 × Int32 × (Nat → Int32) × (Nat → Int32) × (Nat → Int32) × (Nat → Int32) × (Nat → Int32) × (Nat → Int32) × (Nat → Int32) × (Nat → Int32)) (hy : some y = f_Md_run r_md r_lat r_co r_ta r_gu r_so r_cn r_de r_ma r_bu r_wo r_od r_rs r_ca r_cm v1) (hk : y.1 = 1) : CtT l y_Md_run (.code y_Md_run b_Md_run 3 (some .int)) rmT_Md_run g [.ref a_md, .int v1] (w_md_15_1b84 g a_md a_lat a_co a_ta a_gu a_so a_cn a_de a_ma a_bu a_wo a_od a_rs a_ca a_cm a_op a_pl a_ju r_md r_lat r_co r_ta r_gu r_so r_cn r_de r_ma r_bu r_wo r_od r_rs r_ca r_cm) (w_md_15_1b84 g a_md a_lat a_co a_ta a_gu a_so a_cn a_de a_ma a_bu a_wo a_od a_rs a_ca a_cm a_op a_pl a_ju y.2.2.1 r_lat r_co r_ta r_gu r_so r_cn r_de y.2.2.2.1 y.2.2.2.2.1 y.2.2.2.2.2.1 y.2.2.2.2.2.2.1 y.2.2.2.2.2.2.2.1 y.2.2.2.2.2.2.2.2.1 y.2.2.2.2.2.2.2.2.2) "java/lang/IllegalArgumentException" := by
  refine ct_inT (C := "MoveDesk") rfl (by decide) (Nat.le_of_ble_eq_true rfl) (fun p e s m below meth c A ls M hne hP hD hS hl => ?_)
  obtain ⟨hx, hb, hr, hml, hown, hts, hlocks, hA, hK, hG⟩ := id M
  have hl : lv_has ls 3 [(0, .ref a_md), (1, .int v1)] := hl
  have hE := hy
  rw [f_Md_run] at hE
  refine lv_iload_n hx hb d_Md_run_0 rfl (lv_at hl 1 rfl) ?_
  refine lv_sipush (v := 1000) hx hb d_Md_run_1 (by decide) ?_
  obtain ⟨y1, hy1, hE⟩ := bd_at hE
  refine kS (index := 73) (As := [.int v1, .int 1000]) (rest := []) (ws2 := (w_md_15_1b84 g a_md a_lat a_co a_ta a_gu a_so a_cn a_de a_ma a_bu a_wo a_od a_rs a_ca a_cm a_op a_pl a_ju r_md r_lat r_co r_ta r_gu r_so r_cn r_de r_ma r_bu r_wo r_od r_rs r_ca r_cm)) M hP hD hS hl.1 (c_Md_isWithin l g   v1 (1000 : Int32) y1 hy1) m_520 m_521 m_1 m_522 hs_Md_isWithin rfl rfl rfl ⟨by decide, by decide⟩ ⟨by decide, by decide⟩ [] [0, 1, 2, 3, 4, 5, 6, 7, 8, 9, 10, 11, 12, 13, 14] [0, 1, 2, 3, 4, 5, 6, 7, 8, 9, 10, 11, 12, 13, 14] rfl rfl rfl rfl (by decide) rfl rfl rfl (Nat.le_of_ble_eq_true rfl) d_Md_run_4 (fun H locs hP hD hS => ?_)
  refine W.eq (g2 := F0 m 7 ls [.int y1]) rfl ?_
  refine lv_if_ne (tgt := 18) hx hb d_Md_run_7 (by decide) (fun c2 => ?_) (fun c2 => ?_)
  · have hE := it_f hE c2
    refine lv_aload_n hx hb d_Md_run_18 rfl (lv_at hl 0 rfl) ?_
    refine lv_iconst (v := 0) hx hb d_Md_run_19 (by decide) ?_
    refine va_put (D := g.1) (ci := 6) (v := .int 0) (ty := .int) (C := "MoveDesk") (T := F_Md) (N := 7) hx hb hts i_Md t_Md t_Md_ok n_Md hown hK hP hD hS 0 rfl rfl 6 (by decide) (hts _ m_277) (fun _ h9 => h9) rfl (by decide +kernel) rfl rfl (Nat.le_of_ble_eq_true rfl) d_Md_run_20 (fun H locs hP hD hS => ?_)
    have hP : va_P g.1 classes (w_md_15_1b84 g a_md a_lat a_co a_ta a_gu a_so a_cn a_de a_ma a_bu a_wo a_od a_rs a_ca a_cm a_op a_pl a_ju (upd r_md 6 0) r_lat r_co r_ta r_gu r_so r_cn r_de r_ma r_bu r_wo r_od r_rs r_ca r_cm) H := hP
    have hD : va_D A (w_md_15_1b84 g a_md a_lat a_co a_ta a_gu a_so a_cn a_de a_ma a_bu a_wo a_od a_rs a_ca a_cm a_op a_pl a_ju (upd r_md 6 0) r_lat r_co r_ta r_gu r_so r_cn r_de r_ma r_bu r_wo r_od r_rs r_ca r_cm) := hD
    refine lv_iconst (v := 0) hx hb d_Md_run_23 (by decide) ?_
    refine lv_istore_n (lv' := [(2, .int 0), (0, .ref a_md), (1, .int v1)]) hx hb d_Md_run_24 rfl hl (by decide) rfl (fun ls hl => ?_)
    exact wlt1_Md_run_25 M hk hne htr 5000 _ _ _ _ _ _ _ _ _ _ _ _ _ _ _ _ _ _ _ _ hE hP hD hS (lv_sub hl [1, 2, 0] rfl)
  · have hE := it_t hE c2
    have hE := Option.some.inj hE
    try rw [hE]
    exact k_throw M hP hD hS hne htr x_IAE (by decide) m_523 m_524 m_14 hl.1 (by decide) (by decide) (by decide) (by decide) d_Md_run_10 d_Md_run_13 d_Md_run_14 d_Md_run_17
abbrev rm_Md_poke : Room := { frames := 2, cells := 0, slots := 0, locals := 41 }
set_option maxHeartbeats 4000000 in
set_option maxRecDepth 100000 in
theorem c_Md_poke (l : Launch) (g : GT) (a_md : Nat) (a_lat : Nat) (a_co : Nat) (a_ma : Nat) (a_bu : Nat) (a_wo : Nat) (a_od : Nat) (a_rs : Nat) (a_ca : Nat) (a_cm : Nat) (a_op : Nat) (a_pl : Nat) (a_ju : Nat) (r_md : Nat → Int32) (r_ma : Nat → Int32) (r_wo : Nat → Int32) (v1 : Int32) (v2 : Int32) (y : Int32 × (Nat → Int32)) (hy : some y = f_Md_poke r_md r_ma r_wo v1 v2) (hk : y.1 = 0) : Ct l y_Md_poke (.code y_Md_poke b_Md_poke 3 none) rm_Md_poke g [.ref a_md, .int v1, .int v2] (w_md_ma_wo g a_md a_lat a_co a_ma a_bu a_wo a_od a_rs a_ca a_cm a_op a_pl a_ju r_md r_ma r_wo) (w_md_ma_wo g a_md a_lat a_co a_ma a_bu a_wo a_od a_rs a_ca a_cm a_op a_pl a_ju r_md r_ma y.2) none := by
  refine ct_in (C := "MoveDesk") rfl (by decide) (Nat.le_of_ble_eq_true rfl) (fun p e s m below meth c A ls M hP hD hS hl => ?_)
  obtain ⟨hx, hb, hr, hml, hown, hts, hlocks, hA, hK, hG⟩ := id M
  have hl : lv_has ls 3 [(0, .ref a_md), (1, .int v1), (2, .int v2)] := hl
  have hE := hy
  rw [f_Md_poke] at hE
  refine lv_iload_n hx hb d_Md_poke_0 rfl (lv_at hl 1 rfl) ?_
  obtain ⟨y1, hy1, hE⟩ := bd_at hE
  refine kS (index := 138) (As := [.int v1]) (rest := []) (ws2 := (w_md_ma_wo g a_md a_lat a_co a_ma a_bu a_wo a_od a_rs a_ca a_cm a_op a_pl a_ju r_md r_ma r_wo)) M hP hD hS hl.1 (c_Md_isPlace l g   v1 y1 hy1) m_778 m_779 m_1 m_780 hs_Md_isPlace rfl rfl rfl ⟨by decide, by decide⟩ ⟨by decide, by decide⟩ [] [0, 1, 2] [0, 1, 2] rfl rfl rfl rfl (by decide) rfl rfl rfl (Nat.le_of_ble_eq_true rfl) d_Md_poke_1 (fun H locs hP hD hS => ?_)
  refine W.eq (g2 := F0 m 4 ls [.int y1]) rfl ?_
  refine lv_if_ne (tgt := 15) hx hb d_Md_poke_4 (by decide) (fun c2 => ?_) (fun c2 => ?_)
  · have hE := it_f hE c2
    refine lv_aload_n hx hb d_Md_poke_15 rfl (lv_at hl 0 rfl) ?_
    refine va_get (D := g.1) (ci := 6) (v := .ref a_ma) (C := "MoveDesk") (T := F_Md) (N := 7) hx hb hts i_Md hown hK hP 0 rfl rfl 1 (by decide) (hts _ m_272) (fun _ h9 => h9) rfl d_Md_poke_16 ?_
    refine va_getN (D := g.1) (ci := 3) (v := .ref a_wo) (C := "MoveDesk$Machine") (T := F_Ma) (N := 16) hx hb hts i_Ma hown hK hP 1 rfl rfl 3 (by decide) (va_Nw.use rfl (hG.1 _ (nw_106))) (fun _ h9 => h9) rfl d_Md_poke_19 ?_
    refine lv_iload_n hx hb d_Md_poke_22 rfl (lv_at hl 1 rfl) ?_
    refine lv_iload_n hx hb d_Md_poke_23 rfl (lv_at hl 2 rfl) ?_
    have ⟨h3, hE⟩ := ck_at hE
    refine va_iast hx hb hK hP hD hS 2 0 rfl rfl h3 d_Md_poke_24 (fun H locs hP hD hS => ?_)
    have hP : va_P g.1 classes (w_md_ma_wo g a_md a_lat a_co a_ma a_bu a_wo a_od a_rs a_ca a_cm a_op a_pl a_ju r_md r_ma (upd r_wo v1.toNatClampNeg v2)) H := hP
    have hD : va_D A (w_md_ma_wo g a_md a_lat a_co a_ma a_bu a_wo a_od a_rs a_ca a_cm a_op a_pl a_ju r_md r_ma (upd r_wo v1.toNatClampNeg v2)) := hD
    have hE := Option.some.inj hE
    rw [hE]
    exact W.vret hx hb hr (fun t ht hW => ⟨⟨rfl, by rw [ht]; exact hP, va_K.moved hW.alike hK, hD⟩, hS.F ht⟩) hS.2.2 d_Md_poke_25 hlocks
  · have hE := it_t hE c2
    have hE := Option.some.inj hE
    have hk : (1 : Int32) = 0 := by rw [hE] at hk; exact hk
    exact absurd hk (by decide)
abbrev rmT_Md_poke : Room := { frames := 6, cells := 1, slots := 6, locals := 82 }
set_option maxHeartbeats 4000000 in
set_option maxRecDepth 100000 in
theorem t1_Md_poke (l : Launch) (htr : ∀ e, l.admits e → e.platform.stackTraces = false) (g : GT) (a_md : Nat) (a_lat : Nat) (a_co : Nat) (a_ma : Nat) (a_bu : Nat) (a_wo : Nat) (a_od : Nat) (a_rs : Nat) (a_ca : Nat) (a_cm : Nat) (a_op : Nat) (a_pl : Nat) (a_ju : Nat) (r_md : Nat → Int32) (r_ma : Nat → Int32) (r_wo : Nat → Int32) (v1 : Int32) (v2 : Int32) (y : Int32 × (Nat → Int32)) (hy : some y = f_Md_poke r_md r_ma r_wo v1 v2) (hk : y.1 = 1) : CtT l y_Md_poke (.code y_Md_poke b_Md_poke 3 none) rmT_Md_poke g [.ref a_md, .int v1, .int v2] (w_md_ma_wo g a_md a_lat a_co a_ma a_bu a_wo a_od a_rs a_ca a_cm a_op a_pl a_ju r_md r_ma r_wo) (w_md_ma_wo g a_md a_lat a_co a_ma a_bu a_wo a_od a_rs a_ca a_cm a_op a_pl a_ju r_md r_ma y.2) "java/lang/IndexOutOfBoundsException" := by
  refine ct_inT (C := "MoveDesk") rfl (by decide) (Nat.le_of_ble_eq_true rfl) (fun p e s m below meth c A ls M hne hP hD hS hl => ?_)
  obtain ⟨hx, hb, hr, hml, hown, hts, hlocks, hA, hK, hG⟩ := id M
  have hl : lv_has ls 3 [(0, .ref a_md), (1, .int v1), (2, .int v2)] := hl
  have hE := hy
  rw [f_Md_poke] at hE
  refine lv_iload_n hx hb d_Md_poke_0 rfl (lv_at hl 1 rfl) ?_
  obtain ⟨y1, hy1, hE⟩ := bd_at hE
  refine kS (index := 138) (As := [.int v1]) (rest := []) (ws2 := (w_md_ma_wo g a_md a_lat a_co a_ma a_bu a_wo a_od a_rs a_ca a_cm a_op a_pl a_ju r_md r_ma r_wo)) M hP hD hS hl.1 (c_Md_isPlace l g   v1 y1 hy1) m_778 m_779 m_1 m_780 hs_Md_isPlace rfl rfl rfl ⟨by decide, by decide⟩ ⟨by decide, by decide⟩ [] [0, 1, 2] [0, 1, 2] rfl rfl rfl rfl (by decide) rfl rfl rfl (Nat.le_of_ble_eq_true rfl) d_Md_poke_1 (fun H locs hP hD hS => ?_)
  refine W.eq (g2 := F0 m 4 ls [.int y1]) rfl ?_
  refine lv_if_ne (tgt := 15) hx hb d_Md_poke_4 (by decide) (fun c2 => ?_) (fun c2 => ?_)
  · have hE := it_f hE c2
    refine lv_aload_n hx hb d_Md_poke_15 rfl (lv_at hl 0 rfl) ?_
    refine va_get (D := g.1) (ci := 6) (v := .ref a_ma) (C := "MoveDesk") (T := F_Md) (N := 7) hx hb hts i_Md hown hK hP 0 rfl rfl 1 (by decide) (hts _ m_272) (fun _ h9 => h9) rfl d_Md_poke_16 ?_
    refine va_getN (D := g.1) (ci := 3) (v := .ref a_wo) (C := "MoveDesk$Machine") (T := F_Ma) (N := 16) hx hb hts i_Ma hown hK hP 1 rfl rfl 3 (by decide) (va_Nw.use rfl (hG.1 _ (nw_106))) (fun _ h9 => h9) rfl d_Md_poke_19 ?_
    refine lv_iload_n hx hb d_Md_poke_22 rfl (lv_at hl 1 rfl) ?_
    refine lv_iload_n hx hb d_Md_poke_23 rfl (lv_at hl 2 rfl) ?_
    have ⟨h3, hE⟩ := ck_at hE
    refine va_iast hx hb hK hP hD hS 2 0 rfl rfl h3 d_Md_poke_24 (fun H locs hP hD hS => ?_)
    have hP : va_P g.1 classes (w_md_ma_wo g a_md a_lat a_co a_ma a_bu a_wo a_od a_rs a_ca a_cm a_op a_pl a_ju r_md r_ma (upd r_wo v1.toNatClampNeg v2)) H := hP
    have hD : va_D A (w_md_ma_wo g a_md a_lat a_co a_ma a_bu a_wo a_od a_rs a_ca a_cm a_op a_pl a_ju r_md r_ma (upd r_wo v1.toNatClampNeg v2)) := hD
    have hE := Option.some.inj hE
    have hk : (0 : Int32) = 1 := by rw [hE] at hk; exact hk
    exact absurd hk (by decide)
  · have hE := it_t hE c2
    have hE := Option.some.inj hE
    try rw [hE]
    exact k_throw M hP hD hS hne htr x_IOOBE (by decide) m_456 m_457 m_13 hl.1 (by decide) (by decide) (by decide) (by decide) d_Md_poke_7 d_Md_poke_10 d_Md_poke_11 d_Md_poke_14
abbrev rm_Md_peek : Room := { frames := 2, cells := 0, slots := 0, locals := 41 }
set_option maxHeartbeats 4000000 in
set_option maxRecDepth 100000 in
theorem c_Md_peek (l : Launch) (g : GT) (a_md : Nat) (a_lat : Nat) (a_co : Nat) (a_ma : Nat) (a_bu : Nat) (a_wo : Nat) (a_od : Nat) (a_rs : Nat) (a_ca : Nat) (a_cm : Nat) (a_op : Nat) (a_pl : Nat) (a_ju : Nat) (r_md : Nat → Int32) (r_ma : Nat → Int32) (r_wo : Nat → Int32) (v1 : Int32) (y : Int32 × Int32) (hy : some y = f_Md_peek r_md r_ma r_wo v1) (hk : y.1 = 0) : Ct l y_Md_peek (.code y_Md_peek b_Md_peek 2 (some .int)) rm_Md_peek g [.ref a_md, .int v1] (w_md_ma_wo g a_md a_lat a_co a_ma a_bu a_wo a_od a_rs a_ca a_cm a_op a_pl a_ju r_md r_ma r_wo) (w_md_ma_wo g a_md a_lat a_co a_ma a_bu a_wo a_od a_rs a_ca a_cm a_op a_pl a_ju r_md r_ma r_wo) (some (.int y.2)) := by
  refine ct_in (C := "MoveDesk") rfl (by decide) (Nat.le_of_ble_eq_true rfl) (fun p e s m below meth c A ls M hP hD hS hl => ?_)
  obtain ⟨hx, hb, hr, hml, hown, hts, hlocks, hA, hK, hG⟩ := id M
  have hl : lv_has ls 2 [(0, .ref a_md), (1, .int v1)] := hl
  have hE := hy
  rw [f_Md_peek] at hE
  refine lv_iload_n hx hb d_Md_peek_0 rfl (lv_at hl 1 rfl) ?_
  obtain ⟨y1, hy1, hE⟩ := bd_at hE
  refine kS (index := 138) (As := [.int v1]) (rest := []) (ws2 := (w_md_ma_wo g a_md a_lat a_co a_ma a_bu a_wo a_od a_rs a_ca a_cm a_op a_pl a_ju r_md r_ma r_wo)) M hP hD hS hl.1 (c_Md_isPlace l g   v1 y1 hy1) m_778 m_779 m_1 m_780 hs_Md_isPlace rfl rfl rfl ⟨by decide, by decide⟩ ⟨by decide, by decide⟩ [] [0, 1, 2] [0, 1, 2] rfl rfl rfl rfl (by decide) rfl rfl rfl (Nat.le_of_ble_eq_true rfl) d_Md_peek_1 (fun H locs hP hD hS => ?_)
  refine W.eq (g2 := F0 m 4 ls [.int y1]) rfl ?_
  refine lv_if_ne (tgt := 15) hx hb d_Md_peek_4 (by decide) (fun c2 => ?_) (fun c2 => ?_)
  · have hE := it_f hE c2
    refine lv_aload_n hx hb d_Md_peek_15 rfl (lv_at hl 0 rfl) ?_
    refine va_get (D := g.1) (ci := 6) (v := .ref a_ma) (C := "MoveDesk") (T := F_Md) (N := 7) hx hb hts i_Md hown hK hP 0 rfl rfl 1 (by decide) (hts _ m_272) (fun _ h9 => h9) rfl d_Md_peek_16 ?_
    refine va_getN (D := g.1) (ci := 3) (v := .ref a_wo) (C := "MoveDesk$Machine") (T := F_Ma) (N := 16) hx hb hts i_Ma hown hK hP 1 rfl rfl 3 (by decide) (va_Nw.use rfl (hG.1 _ (nw_106))) (fun _ h9 => h9) rfl d_Md_peek_19 ?_
    refine lv_iload_n hx hb d_Md_peek_22 rfl (lv_at hl 1 rfl) ?_
    have ⟨h3, hE⟩ := ck_at hE
    refine va_iald hx hb hK hP 2 0 rfl rfl h3 d_Md_peek_23 ?_
    have hE := Option.some.inj hE
    rw [hE]
    exact W.iret (v := (r_wo v1.toNatClampNeg)) hx hb hr (fun t ht hW => ⟨⟨rfl, by rw [ht]; exact hP, va_K.moved hW.alike hK, hD⟩, hS.F ht⟩) hS.2.2 d_Md_peek_24 hlocks
  · have hE := it_t hE c2
    have hE := Option.some.inj hE
    have hk : (1 : Int32) = 0 := by rw [hE] at hk; exact hk
    exact absurd hk (by decide)
abbrev rmT_Md_peek : Room := { frames := 6, cells := 1, slots := 6, locals := 82 }
set_option maxHeartbeats 4000000 in
set_option maxRecDepth 100000 in
theorem t1_Md_peek (l : Launch) (htr : ∀ e, l.admits e → e.platform.stackTraces = false) (g : GT) (a_md : Nat) (a_lat : Nat) (a_co : Nat) (a_ma : Nat) (a_bu : Nat) (a_wo : Nat) (a_od : Nat) (a_rs : Nat) (a_ca : Nat) (a_cm : Nat) (a_op : Nat) (a_pl : Nat) (a_ju : Nat) (r_md : Nat → Int32) (r_ma : Nat → Int32) (r_wo : Nat → Int32) (v1 : Int32) (y : Int32 × Int32) (hy : some y = f_Md_peek r_md r_ma r_wo v1) (hk : y.1 = 1) : CtT l y_Md_peek (.code y_Md_peek b_Md_peek 2 (some .int)) rmT_Md_peek g [.ref a_md, .int v1] (w_md_ma_wo g a_md a_lat a_co a_ma a_bu a_wo a_od a_rs a_ca a_cm a_op a_pl a_ju r_md r_ma r_wo) (w_md_ma_wo g a_md a_lat a_co a_ma a_bu a_wo a_od a_rs a_ca a_cm a_op a_pl a_ju r_md r_ma r_wo) "java/lang/IndexOutOfBoundsException" := by
  refine ct_inT (C := "MoveDesk") rfl (by decide) (Nat.le_of_ble_eq_true rfl) (fun p e s m below meth c A ls M hne hP hD hS hl => ?_)
  obtain ⟨hx, hb, hr, hml, hown, hts, hlocks, hA, hK, hG⟩ := id M
  have hl : lv_has ls 2 [(0, .ref a_md), (1, .int v1)] := hl
  have hE := hy
  rw [f_Md_peek] at hE
  refine lv_iload_n hx hb d_Md_peek_0 rfl (lv_at hl 1 rfl) ?_
  obtain ⟨y1, hy1, hE⟩ := bd_at hE
  refine kS (index := 138) (As := [.int v1]) (rest := []) (ws2 := (w_md_ma_wo g a_md a_lat a_co a_ma a_bu a_wo a_od a_rs a_ca a_cm a_op a_pl a_ju r_md r_ma r_wo)) M hP hD hS hl.1 (c_Md_isPlace l g   v1 y1 hy1) m_778 m_779 m_1 m_780 hs_Md_isPlace rfl rfl rfl ⟨by decide, by decide⟩ ⟨by decide, by decide⟩ [] [0, 1, 2] [0, 1, 2] rfl rfl rfl rfl (by decide) rfl rfl rfl (Nat.le_of_ble_eq_true rfl) d_Md_peek_1 (fun H locs hP hD hS => ?_)
  refine W.eq (g2 := F0 m 4 ls [.int y1]) rfl ?_
  refine lv_if_ne (tgt := 15) hx hb d_Md_peek_4 (by decide) (fun c2 => ?_) (fun c2 => ?_)
  · have hE := it_f hE c2
    refine lv_aload_n hx hb d_Md_peek_15 rfl (lv_at hl 0 rfl) ?_
    refine va_get (D := g.1) (ci := 6) (v := .ref a_ma) (C := "MoveDesk") (T := F_Md) (N := 7) hx hb hts i_Md hown hK hP 0 rfl rfl 1 (by decide) (hts _ m_272) (fun _ h9 => h9) rfl d_Md_peek_16 ?_
    refine va_getN (D := g.1) (ci := 3) (v := .ref a_wo) (C := "MoveDesk$Machine") (T := F_Ma) (N := 16) hx hb hts i_Ma hown hK hP 1 rfl rfl 3 (by decide) (va_Nw.use rfl (hG.1 _ (nw_106))) (fun _ h9 => h9) rfl d_Md_peek_19 ?_
    refine lv_iload_n hx hb d_Md_peek_22 rfl (lv_at hl 1 rfl) ?_
    have ⟨h3, hE⟩ := ck_at hE
    refine va_iald hx hb hK hP 2 0 rfl rfl h3 d_Md_peek_23 ?_
    have hE := Option.some.inj hE
    have hk : (0 : Int32) = 1 := by rw [hE] at hk; exact hk
    exact absurd hk (by decide)
  · have hE := it_t hE c2
    have hE := Option.some.inj hE
    try rw [hE]
    exact k_throw M hP hD hS hne htr x_IOOBE (by decide) m_456 m_457 m_13 hl.1 (by decide) (by decide) (by decide) (by decide) d_Md_peek_7 d_Md_peek_10 d_Md_peek_11 d_Md_peek_14
abbrev rm_Md_done : Room := { frames := 3, cells := 0, slots := 0, locals := 68 }
set_option maxHeartbeats 4000000 in
set_option maxRecDepth 100000 in
theorem c_Md_done (l : Launch) (g : GT) (a_md : Nat) (a_lat : Nat) (a_co : Nat) (a_ma : Nat) (a_bu : Nat) (a_wo : Nat) (a_od : Nat) (a_rs : Nat) (a_ca : Nat) (a_cm : Nat) (a_op : Nat) (a_ki : Nat) (a_tg : Nat) (a_fi : Nat) (a_se : Nat) (a_oc : Nat) (a_cp : Nat) (a_pl : Nat) (a_ju : Nat) (r_md : Nat → Int32) (r_ma : Nat → Int32) (r_wo : Nat → Int32) (r_op : Nat → Int32) (r_ki : Nat → Int32) (r_tg : Nat → Int32) (r_fi : Nat → Int32) (r_se : Nat → Int32) (r_oc : Nat → Int32) (r_cp : Nat → Int32) (v1 : Int32) (y : Int32 × Int32 × (Nat → Int32)) (hy : some y = f_Md_done r_md r_ma r_wo r_op r_ki r_tg r_fi r_se r_oc r_cp v1) (hk : y.1 = 0) : Ct l y_Md_done (.code y_Md_done b_Md_done 2 (some .int)) rm_Md_done g [.ref a_md, .int v1] (w_md_10_8c1e g a_md a_lat a_co a_ma a_bu a_wo a_od a_rs a_ca a_cm a_op a_ki a_tg a_fi a_se a_oc a_cp a_pl a_ju r_md r_ma r_wo r_op r_ki r_tg r_fi r_se r_oc r_cp) (w_md_10_8c1e g a_md a_lat a_co a_ma a_bu a_wo a_od a_rs a_ca a_cm a_op a_ki a_tg a_fi a_se a_oc a_cp a_pl a_ju r_md r_ma r_wo r_op r_ki r_tg r_fi r_se r_oc y.2.2) (some (.int y.2.1)) := by
  refine ct_in (C := "MoveDesk") rfl (by decide) (Nat.le_of_ble_eq_true rfl) (fun p e s m below meth c A ls M hP hD hS hl => ?_)
  obtain ⟨hx, hb, hr, hml, hown, hts, hlocks, hA, hK, hG⟩ := id M
  have hl : lv_has ls 2 [(0, .ref a_md), (1, .int v1)] := hl
  have hE := hy
  rw [f_Md_done] at hE
  refine lv_iload_n hx hb d_Md_done_0 rfl (lv_at hl 1 rfl) ?_
  obtain ⟨y1, hy1, hE⟩ := bd_at hE
  refine kS (index := 138) (As := [.int v1]) (rest := []) (ws2 := (w_md_10_8c1e g a_md a_lat a_co a_ma a_bu a_wo a_od a_rs a_ca a_cm a_op a_ki a_tg a_fi a_se a_oc a_cp a_pl a_ju r_md r_ma r_wo r_op r_ki r_tg r_fi r_se r_oc r_cp)) M hP hD hS hl.1 (c_Md_isPlace l g   v1 y1 hy1) m_778 m_779 m_1 m_780 hs_Md_isPlace rfl rfl rfl ⟨by decide, by decide⟩ ⟨by decide, by decide⟩ [] [0, 1, 2, 3, 4, 5, 6, 7, 8, 9] [0, 1, 2, 3, 4, 5, 6, 7, 8, 9] rfl rfl rfl rfl (by decide) rfl rfl rfl (Nat.le_of_ble_eq_true rfl) d_Md_done_1 (fun H locs hP hD hS => ?_)
  refine W.eq (g2 := F0 m 4 ls [.int y1]) rfl ?_
  refine lv_if_ne (tgt := 15) hx hb d_Md_done_4 (by decide) (fun c2 => ?_) (fun c2 => ?_)
  · have hE := it_f hE c2
    refine lv_aload_n hx hb d_Md_done_15 rfl (lv_at hl 0 rfl) ?_
    refine va_get (D := g.1) (ci := 6) (v := .ref a_op) (C := "MoveDesk") (T := F_Md) (N := 7) hx hb hts i_Md hown hK hP 0 rfl rfl 2 (by decide) (hts _ m_273) (fun _ h9 => h9) rfl d_Md_done_16 ?_
    refine lv_aload_n hx hb d_Md_done_19 rfl (lv_at hl 0 rfl) ?_
    refine va_get (D := g.1) (ci := 6) (v := .ref a_ma) (C := "MoveDesk") (T := F_Md) (N := 7) hx hb hts i_Md hown hK hP 0 rfl rfl 1 (by decide) (hts _ m_272) (fun _ h9 => h9) rfl d_Md_done_20 ?_
    refine va_getN (D := g.1) (ci := 3) (v := .ref a_wo) (C := "MoveDesk$Machine") (T := F_Ma) (N := 16) hx hb hts i_Ma hown hK hP 1 rfl rfl 3 (by decide) (va_Nw.use rfl (hG.1 _ (nw_106))) (fun _ h9 => h9) rfl d_Md_done_23 ?_
    refine lv_iload_n hx hb d_Md_done_26 rfl (lv_at hl 1 rfl) ?_
    obtain ⟨y3, hy3, hE⟩ := bd_at hE
    refine kV (C := "MoveDesk$Operations") (index := 150) (As := [.ref a_wo, .int v1]) (rest := []) (ws2 := (w_md_10_8c1e g a_md a_lat a_co a_ma a_bu a_wo a_od a_rs a_ca a_cm a_op a_ki a_tg a_fi a_se a_oc a_cp a_pl a_ju r_md r_ma r_wo r_op r_ki r_tg r_fi r_se r_oc y3.2)) M hP hD hS hl.1 (c_Op_valueBehind l g a_wo a_op a_ki a_tg a_fi a_se a_oc a_cp r_wo r_op r_ki r_tg r_fi r_se r_oc r_cp v1 y3 hy3) m_795 m_796 m_797 m_6 m_798 hd_Op_valueBehind rfl rfl rfl ⟨by decide, by decide⟩ ⟨by decide, by decide⟩ 4 1 rfl rfl rfl [2, 3, 4, 5, 6, 7, 8, 9] [0, 1] [0, 1, 2, 3, 4, 5, 6, 7, 8, 9] rfl rfl rfl rfl (by decide) rfl rfl rfl (Nat.le_of_ble_eq_true rfl) d_Md_done_27 (fun H locs hP hD hS => ?_)
    refine W.eq (g2 := F0 m 30 ls [.int y3.1]) rfl ?_
    have hE := Option.some.inj hE
    rw [hE]
    exact W.iret (v := y3.1) hx hb hr (fun t ht hW => ⟨⟨rfl, by rw [ht]; exact hP, va_K.moved hW.alike hK, hD⟩, hS.F ht⟩) hS.2.2 d_Md_done_30 hlocks
  · have hE := it_t hE c2
    have hE := Option.some.inj hE
    have hk : (1 : Int32) = 0 := by rw [hE] at hk; exact hk
    exact absurd hk (by decide)
abbrev rmT_Md_done : Room := { frames := 6, cells := 1, slots := 6, locals := 82 }
set_option maxHeartbeats 4000000 in
set_option maxRecDepth 100000 in
theorem t1_Md_done (l : Launch) (htr : ∀ e, l.admits e → e.platform.stackTraces = false) (g : GT) (a_md : Nat) (a_lat : Nat) (a_co : Nat) (a_ma : Nat) (a_bu : Nat) (a_wo : Nat) (a_od : Nat) (a_rs : Nat) (a_ca : Nat) (a_cm : Nat) (a_op : Nat) (a_ki : Nat) (a_tg : Nat) (a_fi : Nat) (a_se : Nat) (a_oc : Nat) (a_cp : Nat) (a_pl : Nat) (a_ju : Nat) (r_md : Nat → Int32) (r_ma : Nat → Int32) (r_wo : Nat → Int32) (r_op : Nat → Int32) (r_ki : Nat → Int32) (r_tg : Nat → Int32) (r_fi : Nat → Int32) (r_se : Nat → Int32) (r_oc : Nat → Int32) (r_cp : Nat → Int32) (v1 : Int32) (y : Int32 × Int32 × (Nat → Int32)) (hy : some y = f_Md_done r_md r_ma r_wo r_op r_ki r_tg r_fi r_se r_oc r_cp v1) (hk : y.1 = 1) : CtT l y_Md_done (.code y_Md_done b_Md_done 2 (some .int)) rmT_Md_done g [.ref a_md, .int v1] (w_md_10_8c1e g a_md a_lat a_co a_ma a_bu a_wo a_od a_rs a_ca a_cm a_op a_ki a_tg a_fi a_se a_oc a_cp a_pl a_ju r_md r_ma r_wo r_op r_ki r_tg r_fi r_se r_oc r_cp) (w_md_10_8c1e g a_md a_lat a_co a_ma a_bu a_wo a_od a_rs a_ca a_cm a_op a_ki a_tg a_fi a_se a_oc a_cp a_pl a_ju r_md r_ma r_wo r_op r_ki r_tg r_fi r_se r_oc y.2.2) "java/lang/IndexOutOfBoundsException" := by
  refine ct_inT (C := "MoveDesk") rfl (by decide) (Nat.le_of_ble_eq_true rfl) (fun p e s m below meth c A ls M hne hP hD hS hl => ?_)
  obtain ⟨hx, hb, hr, hml, hown, hts, hlocks, hA, hK, hG⟩ := id M
  have hl : lv_has ls 2 [(0, .ref a_md), (1, .int v1)] := hl
  have hE := hy
  rw [f_Md_done] at hE
  refine lv_iload_n hx hb d_Md_done_0 rfl (lv_at hl 1 rfl) ?_
  obtain ⟨y1, hy1, hE⟩ := bd_at hE
  refine kS (index := 138) (As := [.int v1]) (rest := []) (ws2 := (w_md_10_8c1e g a_md a_lat a_co a_ma a_bu a_wo a_od a_rs a_ca a_cm a_op a_ki a_tg a_fi a_se a_oc a_cp a_pl a_ju r_md r_ma r_wo r_op r_ki r_tg r_fi r_se r_oc r_cp)) M hP hD hS hl.1 (c_Md_isPlace l g   v1 y1 hy1) m_778 m_779 m_1 m_780 hs_Md_isPlace rfl rfl rfl ⟨by decide, by decide⟩ ⟨by decide, by decide⟩ [] [0, 1, 2, 3, 4, 5, 6, 7, 8, 9] [0, 1, 2, 3, 4, 5, 6, 7, 8, 9] rfl rfl rfl rfl (by decide) rfl rfl rfl (Nat.le_of_ble_eq_true rfl) d_Md_done_1 (fun H locs hP hD hS => ?_)
  refine W.eq (g2 := F0 m 4 ls [.int y1]) rfl ?_
  refine lv_if_ne (tgt := 15) hx hb d_Md_done_4 (by decide) (fun c2 => ?_) (fun c2 => ?_)
  · have hE := it_f hE c2
    refine lv_aload_n hx hb d_Md_done_15 rfl (lv_at hl 0 rfl) ?_
    refine va_get (D := g.1) (ci := 6) (v := .ref a_op) (C := "MoveDesk") (T := F_Md) (N := 7) hx hb hts i_Md hown hK hP 0 rfl rfl 2 (by decide) (hts _ m_273) (fun _ h9 => h9) rfl d_Md_done_16 ?_
    refine lv_aload_n hx hb d_Md_done_19 rfl (lv_at hl 0 rfl) ?_
    refine va_get (D := g.1) (ci := 6) (v := .ref a_ma) (C := "MoveDesk") (T := F_Md) (N := 7) hx hb hts i_Md hown hK hP 0 rfl rfl 1 (by decide) (hts _ m_272) (fun _ h9 => h9) rfl d_Md_done_20 ?_
    refine va_getN (D := g.1) (ci := 3) (v := .ref a_wo) (C := "MoveDesk$Machine") (T := F_Ma) (N := 16) hx hb hts i_Ma hown hK hP 1 rfl rfl 3 (by decide) (va_Nw.use rfl (hG.1 _ (nw_106))) (fun _ h9 => h9) rfl d_Md_done_23 ?_
    refine lv_iload_n hx hb d_Md_done_26 rfl (lv_at hl 1 rfl) ?_
    obtain ⟨y3, hy3, hE⟩ := bd_at hE
    refine kV (C := "MoveDesk$Operations") (index := 150) (As := [.ref a_wo, .int v1]) (rest := []) (ws2 := (w_md_10_8c1e g a_md a_lat a_co a_ma a_bu a_wo a_od a_rs a_ca a_cm a_op a_ki a_tg a_fi a_se a_oc a_cp a_pl a_ju r_md r_ma r_wo r_op r_ki r_tg r_fi r_se r_oc y3.2)) M hP hD hS hl.1 (c_Op_valueBehind l g a_wo a_op a_ki a_tg a_fi a_se a_oc a_cp r_wo r_op r_ki r_tg r_fi r_se r_oc r_cp v1 y3 hy3) m_795 m_796 m_797 m_6 m_798 hd_Op_valueBehind rfl rfl rfl ⟨by decide, by decide⟩ ⟨by decide, by decide⟩ 4 1 rfl rfl rfl [2, 3, 4, 5, 6, 7, 8, 9] [0, 1] [0, 1, 2, 3, 4, 5, 6, 7, 8, 9] rfl rfl rfl rfl (by decide) rfl rfl rfl (Nat.le_of_ble_eq_true rfl) d_Md_done_27 (fun H locs hP hD hS => ?_)
    refine W.eq (g2 := F0 m 30 ls [.int y3.1]) rfl ?_
    have hE := Option.some.inj hE
    have hk : (0 : Int32) = 1 := by rw [hE] at hk; exact hk
    exact absurd hk (by decide)
  · have hE := it_t hE c2
    have hE := Option.some.inj hE
    try rw [hE]
    exact k_throw M hP hD hS hne htr x_IOOBE (by decide) m_456 m_457 m_13 hl.1 (by decide) (by decide) (by decide) (by decide) d_Md_done_7 d_Md_done_10 d_Md_done_11 d_Md_done_14
