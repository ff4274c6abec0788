theorem s_20 : (.selects "MoveDesk$Machine" ⟨"MoveDesk$Machine", "readSources", "(I)V"⟩ ⟨"MoveDesk$Machine", "readSources", "(I)V"⟩ : Cond) ∈ bw := ms 20 (by decide +kernel) rfl
theorem s_21 : (.selects "MoveDesk$Machine" ⟨"MoveDesk$Machine", "valueOf", "(II)I"⟩ ⟨"MoveDesk$Machine", "valueOf", "(II)I"⟩ : Cond) ∈ bw := ms 21 (by decide +kernel) rfl
theorem s_22 : (.selects "MoveDesk$Machine" ⟨"MoveDesk$Machine", "writePlaces", "(I)V"⟩ ⟨"MoveDesk$Machine", "writePlaces", "(I)V"⟩ : Cond) ∈ bw := ms 22 (by decide +kernel) rfl
theorem s_23 : (.selects "MoveDesk$Machine" ⟨"MoveDesk$Machine", "pullTriggers", "(I)V"⟩ ⟨"MoveDesk$Machine", "pullTriggers", "(I)V"⟩ : Cond) ∈ bw := ms 23 (by decide +kernel) rfl
theorem s_24 : (.selects "MoveDesk$Machine" ⟨"MoveDesk$Machine", "pull", "(II)V"⟩ ⟨"MoveDesk$Machine", "pull", "(II)V"⟩ : Cond) ∈ bw := ms 24 (by decide +kernel) rfl
theorem s_25 : (.selects "MoveDesk$Machine" ⟨"MoveDesk$Machine", "begin", "(II)V"⟩ ⟨"MoveDesk$Machine", "begin", "(II)V"⟩ : Cond) ∈ bw := ms 25 (by decide +kernel) rfl
theorem s_26 : (.selects "MoveDesk$Machine" ⟨"MoveDesk$Machine", "setGuard", "(IZ)V"⟩ ⟨"MoveDesk$Machine", "setGuard", "(IZ)V"⟩ : Cond) ∈ bw := ms 26 (by decide +kernel) rfl
theorem s_27 : (.selects "MoveDesk$Machine" ⟨"MoveDesk$Machine", "deliverResults", "()V"⟩ ⟨"MoveDesk$Machine", "deliverResults", "()V"⟩ : Cond) ∈ bw := ms 27 (by decide +kernel) rfl
theorem s_28 : (.selects "MoveDesk$Machine" ⟨"MoveDesk$Machine", "stepOn", "()V"⟩ ⟨"MoveDesk$Machine", "stepOn", "()V"⟩ : Cond) ∈ bw := ms 28 (by decide +kernel) rfl
theorem m_4 : (.initialized "MoveDesk$Machine" : Cond) ∈ bw := mw 4 (by decide +kernel) rfl
theorem m_102 : (.fieldLink "MoveDesk$Machine" 34 "MoveDesk$Machine" "code" "LMoveDesk$Code;" : Cond) ∈ bw := mw 102 (by decide +kernel) rfl
theorem m_103 : (.fieldLink "MoveDesk$Machine" 38 "MoveDesk$Machine" "latency" "[I" : Cond) ∈ bw := mw 103 (by decide +kernel) rfl
theorem m_104 : (.fieldLink "MoveDesk$Machine" 12 "MoveDesk$Machine" "bundle" "LMoveDesk$Bundle;" : Cond) ∈ bw := mw 104 (by decide +kernel) rfl
theorem m_105 : (.fieldLink "MoveDesk$Machine" 18 "MoveDesk$Machine" "words" "[I" : Cond) ∈ bw := mw 105 (by decide +kernel) rfl
theorem m_107 : (.fieldLink "MoveDesk$Machine" 22 "MoveDesk$Machine" "operands" "[I" : Cond) ∈ bw := mw 107 (by decide +kernel) rfl
theorem m_108 : (.fieldLink "MoveDesk$Machine" 25 "MoveDesk$Machine" "results" "[I" : Cond) ∈ bw := mw 108 (by decide +kernel) rfl
theorem m_109 : (.fieldLink "MoveDesk$Machine" 28 "MoveDesk$Machine" "carried" "[I" : Cond) ∈ bw := mw 109 (by decide +kernel) rfl
theorem m_110 : (.fieldLink "MoveDesk$Machine" 31 "MoveDesk$Machine" "coming" "[I" : Cond) ∈ bw := mw 110 (by decide +kernel) rfl
theorem m_111 : (.fieldLink "MoveDesk$Machine" 41 "MoveDesk$Machine" "comingSet" "I" : Cond) ∈ bw := mw 111 (by decide +kernel) rfl
theorem m_112 : (.fieldLink "MoveDesk$Machine" 45 "MoveDesk$Machine" "slot" "I" : Cond) ∈ bw := mw 112 (by decide +kernel) rfl
theorem m_113 : (.fieldLink "MoveDesk$Machine" 48 "MoveDesk$Machine" "unitsWithResult" "I" : Cond) ∈ bw := mw 113 (by decide +kernel) rfl
theorem m_114 : (.fieldLink "MoveDesk$Machine" 51 "MoveDesk$Machine" "guards" "I" : Cond) ∈ bw := mw 114 (by decide +kernel) rfl
theorem m_115 : (.fieldLink "MoveDesk$Machine" 54 "MoveDesk$Machine" "pc" "I" : Cond) ∈ bw := mw 115 (by decide +kernel) rfl
theorem m_116 : (.fieldLink "MoveDesk$Machine" 57 "MoveDesk$Machine" "jumpLeft" "I" : Cond) ∈ bw := mw 116 (by decide +kernel) rfl
theorem m_117 : (.fieldLink "MoveDesk$Machine" 60 "MoveDesk$Machine" "jumpTarget" "I" : Cond) ∈ bw := mw 117 (by decide +kernel) rfl
theorem m_118 : (.fieldLink "MoveDesk$Machine" 63 "MoveDesk$Machine" "halted" "Z" : Cond) ∈ bw := mw 118 (by decide +kernel) rfl
theorem m_354 : (.instanceMethod ⟨"MoveDesk$Code", "madeWith", "(II)I"⟩ : Cond) ∈ bw := mw 354 (by decide +kernel) rfl
theorem m_355 : (.selects "MoveDesk$Code" ⟨"MoveDesk$Code", "madeWith", "(II)I"⟩ ⟨"MoveDesk$Code", "madeWith", "(II)I"⟩ : Cond) ∈ bw := mw 355 (by decide +kernel) rfl
theorem m_356 : (.code ⟨"MoveDesk$Code", "madeWith", "(II)I"⟩ prog_3_method_12_code 5 (some .int) : Cond) ∈ bw := mw 356 (by decide +kernel) rfl
theorem m_370 : (.instanceMethod ⟨"MoveDesk$Bundle", "gather", "(LMoveDesk$Code;II)V"⟩ : Cond) ∈ bw := mw 370 (by decide +kernel) rfl
theorem m_371 : (.selects "MoveDesk$Bundle" ⟨"MoveDesk$Bundle", "gather", "(LMoveDesk$Code;II)V"⟩ ⟨"MoveDesk$Bundle", "gather", "(LMoveDesk$Code;II)V"⟩ : Cond) ∈ bw := mw 371 (by decide +kernel) rfl
theorem m_372 : (.code ⟨"MoveDesk$Bundle", "gather", "(LMoveDesk$Code;II)V"⟩ prog_2_method_2_code 5 none : Cond) ∈ bw := mw 372 (by decide +kernel) rfl
theorem m_394 : (.instanceMethod ⟨"MoveDesk$Bundle", "leastFault", "(IZ)I"⟩ : Cond) ∈ bw := mw 394 (by decide +kernel) rfl
theorem m_395 : (.selects "MoveDesk$Bundle" ⟨"MoveDesk$Bundle", "leastFault", "(IZ)I"⟩ ⟨"MoveDesk$Bundle", "leastFault", "(IZ)I"⟩ : Cond) ∈ bw := mw 395 (by decide +kernel) rfl
theorem m_396 : (.code ⟨"MoveDesk$Bundle", "leastFault", "(IZ)I"⟩ prog_2_method_6_code 4 (some .int) : Cond) ∈ bw := mw 396 (by decide +kernel) rfl
theorem m_417 : (.static ⟨"MoveDesk", "wrapCycle", "(I)I"⟩ : Cond) ∈ bw := mw 417 (by decide +kernel) rfl
theorem m_418 : (.code ⟨"MoveDesk", "wrapCycle", "(I)I"⟩ prog_1_method_20_code 1 (some .int) : Cond) ∈ bw := mw 418 (by decide +kernel) rfl
theorem m_722 : (.methodLink "MoveDesk$Machine" 67 ⟨"MoveDesk$Code", "madeWith", "(II)I"⟩ : Cond) ∈ bw := mw 722 (by decide +kernel) rfl
theorem m_723 : (.methodLink "MoveDesk$Machine" 73 ⟨"MoveDesk$Bundle", "gather", "(LMoveDesk$Code;II)V"⟩ : Cond) ∈ bw := mw 723 (by decide +kernel) rfl
theorem m_724 : (.methodLink "MoveDesk$Machine" 77 ⟨"MoveDesk$Bundle", "leastFault", "(IZ)I"⟩ : Cond) ∈ bw := mw 724 (by decide +kernel) rfl
theorem m_725 : (.methodLink "MoveDesk$Machine" 81 ⟨"MoveDesk$Machine", "readSources", "(I)V"⟩ : Cond) ∈ bw := mw 725 (by decide +kernel) rfl
theorem m_727 : (.instanceMethod ⟨"MoveDesk$Machine", "readSources", "(I)V"⟩ : Cond) ∈ bw := mw 727 (by decide +kernel) rfl
theorem m_728 : (.code ⟨"MoveDesk$Machine", "readSources", "(I)V"⟩ prog_5_method_7_code 3 none : Cond) ∈ bw := mw 728 (by decide +kernel) rfl
theorem m_729 : (.methodLink "MoveDesk$Machine" 97 ⟨"MoveDesk$Machine", "has", "(II)Z"⟩ : Cond) ∈ bw := mw 729 (by decide +kernel) rfl
theorem m_730 : (.static ⟨"MoveDesk$Machine", "has", "(II)Z"⟩ : Cond) ∈ bw := mw 730 (by decide +kernel) rfl
theorem m_731 : (.code ⟨"MoveDesk$Machine", "has", "(II)Z"⟩ prog_5_method_6_code 2 (some .boolean) : Cond) ∈ bw := mw 731 (by decide +kernel) rfl
theorem m_732 : (.methodLink "MoveDesk$Machine" 101 ⟨"MoveDesk$Code", "source", "(II)I"⟩ : Cond) ∈ bw := mw 732 (by decide +kernel) rfl
theorem m_733 : (.methodLink "MoveDesk$Machine" 104 ⟨"MoveDesk$Code", "constant", "(II)I"⟩ : Cond) ∈ bw := mw 733 (by decide +kernel) rfl
theorem m_734 : (.methodLink "MoveDesk$Machine" 107 ⟨"MoveDesk$Machine", "valueOf", "(II)I"⟩ : Cond) ∈ bw := mw 734 (by decide +kernel) rfl
theorem m_736 : (.instanceMethod ⟨"MoveDesk$Machine", "valueOf", "(II)I"⟩ : Cond) ∈ bw := mw 736 (by decide +kernel) rfl
theorem m_737 : (.code ⟨"MoveDesk$Machine", "valueOf", "(II)I"⟩ prog_5_method_8_code 3 (some .int) : Cond) ∈ bw := mw 737 (by decide +kernel) rfl
theorem m_738 : (.methodLink "MoveDesk$Machine" 85 ⟨"MoveDesk$Machine", "writePlaces", "(I)V"⟩ : Cond) ∈ bw := mw 738 (by decide +kernel) rfl
theorem m_740 : (.instanceMethod ⟨"MoveDesk$Machine", "writePlaces", "(I)V"⟩ : Cond) ∈ bw := mw 740 (by decide +kernel) rfl
theorem m_741 : (.code ⟨"MoveDesk$Machine", "writePlaces", "(I)V"⟩ prog_5_method_9_code 4 none : Cond) ∈ bw := mw 741 (by decide +kernel) rfl
theorem m_742 : (.methodLink "MoveDesk$Machine" 110 ⟨"MoveDesk$Code", "destination", "(II)I"⟩ : Cond) ∈ bw := mw 742 (by decide +kernel) rfl
theorem m_743 : (.methodLink "MoveDesk$Machine" 88 ⟨"MoveDesk$Machine", "pullTriggers", "(I)V"⟩ : Cond) ∈ bw := mw 743 (by decide +kernel) rfl
theorem m_745 : (.instanceMethod ⟨"MoveDesk$Machine", "pullTriggers", "(I)V"⟩ : Cond) ∈ bw := mw 745 (by decide +kernel) rfl
theorem m_746 : (.code ⟨"MoveDesk$Machine", "pullTriggers", "(I)V"⟩ prog_5_method_10_code 3 none : Cond) ∈ bw := mw 746 (by decide +kernel) rfl
theorem m_747 : (.methodLink "MoveDesk$Machine" 113 ⟨"MoveDesk$Machine", "pull", "(II)V"⟩ : Cond) ∈ bw := mw 747 (by decide +kernel) rfl
theorem m_749 : (.instanceMethod ⟨"MoveDesk$Machine", "pull", "(II)V"⟩ : Cond) ∈ bw := mw 749 (by decide +kernel) rfl
theorem m_750 : (.code ⟨"MoveDesk$Machine", "pull", "(II)V"⟩ prog_5_method_11_code 3 none : Cond) ∈ bw := mw 750 (by decide +kernel) rfl
theorem m_751 : (.methodLink "MoveDesk$Machine" 117 ⟨"MoveDesk$Machine", "begin", "(II)V"⟩ : Cond) ∈ bw := mw 751 (by decide +kernel) rfl
theorem m_753 : (.instanceMethod ⟨"MoveDesk$Machine", "begin", "(II)V"⟩ : Cond) ∈ bw := mw 753 (by decide +kernel) rfl
theorem m_754 : (.code ⟨"MoveDesk$Machine", "begin", "(II)V"⟩ prog_5_method_12_code 4 none : Cond) ∈ bw := mw 754 (by decide +kernel) rfl
theorem m_756 : (.static ⟨"MoveDesk", "memoryPlace", "(I)I"⟩ : Cond) ∈ bw := mw 756 (by decide +kernel) rfl
theorem m_757 : (.code ⟨"MoveDesk", "memoryPlace", "(I)I"⟩ prog_1_method_19_code 1 (some .int) : Cond) ∈ bw := mw 757 (by decide +kernel) rfl
theorem m_758 : (.methodLink "MoveDesk$Machine" 124 ⟨"MoveDesk$Machine", "setGuard", "(IZ)V"⟩ : Cond) ∈ bw := mw 758 (by decide +kernel) rfl
theorem m_760 : (.instanceMethod ⟨"MoveDesk$Machine", "setGuard", "(IZ)V"⟩ : Cond) ∈ bw := mw 760 (by decide +kernel) rfl
theorem m_761 : (.code ⟨"MoveDesk$Machine", "setGuard", "(IZ)V"⟩ prog_5_method_13_code 3 none : Cond) ∈ bw := mw 761 (by decide +kernel) rfl
theorem m_763 : (.methodLink "MoveDesk$Machine" 91 ⟨"MoveDesk$Machine", "deliverResults", "()V"⟩ : Cond) ∈ bw := mw 763 (by decide +kernel) rfl
theorem m_765 : (.instanceMethod ⟨"MoveDesk$Machine", "deliverResults", "()V"⟩ : Cond) ∈ bw := mw 765 (by decide +kernel) rfl
theorem m_766 : (.code ⟨"MoveDesk$Machine", "deliverResults", "()V"⟩ prog_5_method_14_code 3 none : Cond) ∈ bw := mw 766 (by decide +kernel) rfl
theorem m_767 : (.methodLink "MoveDesk$Machine" 94 ⟨"MoveDesk$Machine", "stepOn", "()V"⟩ : Cond) ∈ bw := mw 767 (by decide +kernel) rfl
theorem m_769 : (.instanceMethod ⟨"MoveDesk$Machine", "stepOn", "()V"⟩ : Cond) ∈ bw := mw 769 (by decide +kernel) rfl
theorem m_770 : (.code ⟨"MoveDesk$Machine", "stepOn", "()V"⟩ prog_5_method_15_code 1 none : Cond) ∈ bw := mw 770 (by decide +kernel) rfl
abbrev w_ma_od_rs (g : GT) (a_lat : Nat) (a_co : Nat) (a_ma : Nat) (a_bu : Nat) (a_wo : Nat) (a_od : Nat) (a_rs : Nat) (a_ca : Nat) (a_cm : Nat) (r_ma : Nat → Int32) (r_od : Nat → Int32) (r_rs : Nat → Int32) : va_W := [kO a_ma 3 [.ref a_co, .ref a_lat, .ref a_bu, .ref a_wo, .ref a_od, .ref a_rs, .ref a_ca, .ref a_cm, .int (r_ma 8), .int (r_ma 9), .int (r_ma 10), .int (r_ma 11), .int (r_ma 12), .int (r_ma 13), .int (r_ma 14), .int (r_ma 15)], kI g a_od 3 r_od, kI g a_rs 3 r_rs]
abbrev b_Ma_restart : ByteArray := prog_5_method_2_code
abbrev y_Ma_restart : MethodName := ⟨"MoveDesk$Machine", "restart", "()V"⟩
theorem hd_Ma_restart : y_Ma_restart.cls = "MoveDesk$Machine" ∧ y_Ma_restart.cls ≠ "java/lang/invoke/MethodHandle" ∧ y_Ma_restart.cls ≠ "java/lang/invoke/VarHandle" ∧ (parseMethodDescriptor y_Ma_restart.desc).map (fun d => d.parameters.length) = some 0 := by decide +kernel
theorem d_Ma_restart_0 : decode b_Ma_restart 0 = .ok (.iconst 0, 1) := by decide +kernel
theorem d_Ma_restart_1 : decode b_Ma_restart 1 = .ok (.istore_n 1, 1) := by decide +kernel
theorem d_Ma_restart_2 : decode b_Ma_restart 2 = .ok (.iload_n 1, 1) := by decide +kernel
theorem d_Ma_restart_3 : decode b_Ma_restart 3 = .ok (.iconst 3, 1) := by decide +kernel
theorem d_Ma_restart_4 : decode b_Ma_restart 4 = .ok (.if_icmp .ge 23, 3) := by decide +kernel
theorem d_Ma_restart_7 : decode b_Ma_restart 7 = .ok (.aload_n 0, 1) := by decide +kernel
theorem d_Ma_restart_8 : decode b_Ma_restart 8 = .ok (.getfield 22, 3) := by decide +kernel
theorem d_Ma_restart_11 : decode b_Ma_restart 11 = .ok (.iload_n 1, 1) := by decide +kernel
theorem d_Ma_restart_12 : decode b_Ma_restart 12 = .ok (.iconst 0, 1) := by decide +kernel
theorem d_Ma_restart_13 : decode b_Ma_restart 13 = .ok (.iastore, 1) := by decide +kernel
theorem d_Ma_restart_14 : decode b_Ma_restart 14 = .ok (.aload_n 0, 1) := by decide +kernel
theorem d_Ma_restart_15 : decode b_Ma_restart 15 = .ok (.getfield 25, 3) := by decide +kernel
theorem d_Ma_restart_18 : decode b_Ma_restart 18 = .ok (.iload_n 1, 1) := by decide +kernel
theorem d_Ma_restart_19 : decode b_Ma_restart 19 = .ok (.iconst 0, 1) := by decide +kernel
theorem d_Ma_restart_20 : decode b_Ma_restart 20 = .ok (.iastore, 1) := by decide +kernel
theorem d_Ma_restart_21 : decode b_Ma_restart 21 = .ok (.iinc 1 1, 3) := by decide +kernel
theorem d_Ma_restart_24 : decode b_Ma_restart 24 = .ok (.goto (-22), 3) := by decide +kernel
theorem d_Ma_restart_27 : decode b_Ma_restart 27 = .ok (.aload_n 0, 1) := by decide +kernel
theorem d_Ma_restart_28 : decode b_Ma_restart 28 = .ok (.iconst 0, 1) := by decide +kernel
theorem d_Ma_restart_29 : decode b_Ma_restart 29 = .ok (.putfield 41, 3) := by decide +kernel
theorem d_Ma_restart_32 : decode b_Ma_restart 32 = .ok (.aload_n 0, 1) := by decide +kernel
theorem d_Ma_restart_33 : decode b_Ma_restart 33 = .ok (.iconst 0, 1) := by decide +kernel
theorem d_Ma_restart_34 : decode b_Ma_restart 34 = .ok (.putfield 45, 3) := by decide +kernel
theorem d_Ma_restart_37 : decode b_Ma_restart 37 = .ok (.aload_n 0, 1) := by decide +kernel
theorem d_Ma_restart_38 : decode b_Ma_restart 38 = .ok (.iconst 0, 1) := by decide +kernel
theorem d_Ma_restart_39 : decode b_Ma_restart 39 = .ok (.putfield 48, 3) := by decide +kernel
theorem d_Ma_restart_42 : decode b_Ma_restart 42 = .ok (.aload_n 0, 1) := by decide +kernel
theorem d_Ma_restart_43 : decode b_Ma_restart 43 = .ok (.iconst 0, 1) := by decide +kernel
theorem d_Ma_restart_44 : decode b_Ma_restart 44 = .ok (.putfield 51, 3) := by decide +kernel
theorem d_Ma_restart_47 : decode b_Ma_restart 47 = .ok (.aload_n 0, 1) := by decide +kernel
theorem d_Ma_restart_48 : decode b_Ma_restart 48 = .ok (.iconst 0, 1) := by decide +kernel
theorem d_Ma_restart_49 : decode b_Ma_restart 49 = .ok (.putfield 54, 3) := by decide +kernel
theorem d_Ma_restart_52 : decode b_Ma_restart 52 = .ok (.aload_n 0, 1) := by decide +kernel
theorem d_Ma_restart_53 : decode b_Ma_restart 53 = .ok (.iconst 0, 1) := by decide +kernel
theorem d_Ma_restart_54 : decode b_Ma_restart 54 = .ok (.putfield 57, 3) := by decide +kernel
theorem d_Ma_restart_57 : decode b_Ma_restart 57 = .ok (.aload_n 0, 1) := by decide +kernel
theorem d_Ma_restart_58 : decode b_Ma_restart 58 = .ok (.iconst 0, 1) := by decide +kernel
theorem d_Ma_restart_59 : decode b_Ma_restart 59 = .ok (.putfield 60, 3) := by decide +kernel
theorem d_Ma_restart_62 : decode b_Ma_restart 62 = .ok (.aload_n 0, 1) := by decide +kernel
theorem d_Ma_restart_63 : decode b_Ma_restart 63 = .ok (.iconst 0, 1) := by decide +kernel
theorem d_Ma_restart_64 : decode b_Ma_restart 64 = .ok (.putfield 63, 3) := by decide +kernel
theorem d_Ma_restart_67 : decode b_Ma_restart 67 = .ok (.return_, 1) := by decide +kernel
abbrev w_ma (g : GT) (a_lat : Nat) (a_co : Nat) (a_ma : Nat) (a_bu : Nat) (a_wo : Nat) (a_od : Nat) (a_rs : Nat) (a_ca : Nat) (a_cm : Nat) (r_ma : Nat → Int32) : va_W := [kO a_ma 3 [.ref a_co, .ref a_lat, .ref a_bu, .ref a_wo, .ref a_od, .ref a_rs, .ref a_ca, .ref a_cm, .int (r_ma 8), .int (r_ma 9), .int (r_ma 10), .int (r_ma 11), .int (r_ma 12), .int (r_ma 13), .int (r_ma 14), .int (r_ma 15)]]
abbrev b_Ma_isHalted : ByteArray := prog_5_method_3_code
abbrev y_Ma_isHalted : MethodName := ⟨"MoveDesk$Machine", "isHalted", "()Z"⟩
theorem hd_Ma_isHalted : y_Ma_isHalted.cls = "MoveDesk$Machine" ∧ y_Ma_isHalted.cls ≠ "java/lang/invoke/MethodHandle" ∧ y_Ma_isHalted.cls ≠ "java/lang/invoke/VarHandle" ∧ (parseMethodDescriptor y_Ma_isHalted.desc).map (fun d => d.parameters.length) = some 0 := by decide +kernel
theorem d_Ma_isHalted_0 : decode b_Ma_isHalted 0 = .ok (.aload_n 0, 1) := by decide +kernel
theorem d_Ma_isHalted_1 : decode b_Ma_isHalted 1 = .ok (.getfield 63, 3) := by decide +kernel
theorem d_Ma_isHalted_4 : decode b_Ma_isHalted 4 = .ok (.ireturn, 1) := by decide +kernel
abbrev b_Ma_show : ByteArray := prog_5_method_4_code
abbrev y_Ma_show : MethodName := ⟨"MoveDesk$Machine", "show", "(I)I"⟩
theorem hd_Ma_show : y_Ma_show.cls = "MoveDesk$Machine" ∧ y_Ma_show.cls ≠ "java/lang/invoke/MethodHandle" ∧ y_Ma_show.cls ≠ "java/lang/invoke/VarHandle" ∧ (parseMethodDescriptor y_Ma_show.desc).map (fun d => d.parameters.length) = some 1 := by decide +kernel
theorem d_Ma_show_0 : decode b_Ma_show 0 = .ok (.iload_n 1, 1) := by decide +kernel
theorem d_Ma_show_1 : decode b_Ma_show 1 = .ok (.ifCond .ne 8, 3) := by decide +kernel
theorem d_Ma_show_4 : decode b_Ma_show 4 = .ok (.aload_n 0, 1) := by decide +kernel
theorem d_Ma_show_5 : decode b_Ma_show 5 = .ok (.getfield 54, 3) := by decide +kernel
theorem d_Ma_show_8 : decode b_Ma_show 8 = .ok (.ireturn, 1) := by decide +kernel
theorem d_Ma_show_9 : decode b_Ma_show 9 = .ok (.iload_n 1, 1) := by decide +kernel
theorem d_Ma_show_10 : decode b_Ma_show 10 = .ok (.iconst 1, 1) := by decide +kernel
theorem d_Ma_show_11 : decode b_Ma_show 11 = .ok (.if_icmp .ne 16, 3) := by decide +kernel
theorem d_Ma_show_14 : decode b_Ma_show 14 = .ok (.aload_n 0, 1) := by decide +kernel
theorem d_Ma_show_15 : decode b_Ma_show 15 = .ok (.getfield 63, 3) := by decide +kernel
theorem d_Ma_show_18 : decode b_Ma_show 18 = .ok (.ifCond .eq 7, 3) := by decide +kernel
theorem d_Ma_show_21 : decode b_Ma_show 21 = .ok (.iconst 1, 1) := by decide +kernel
theorem d_Ma_show_22 : decode b_Ma_show 22 = .ok (.goto 4, 3) := by decide +kernel
theorem d_Ma_show_25 : decode b_Ma_show 25 = .ok (.iconst 0, 1) := by decide +kernel
theorem d_Ma_show_26 : decode b_Ma_show 26 = .ok (.ireturn, 1) := by decide +kernel
theorem d_Ma_show_27 : decode b_Ma_show 27 = .ok (.iload_n 1, 1) := by decide +kernel
theorem d_Ma_show_28 : decode b_Ma_show 28 = .ok (.iconst 2, 1) := by decide +kernel
theorem d_Ma_show_29 : decode b_Ma_show 29 = .ok (.if_icmp .lt 19, 3) := by decide +kernel
theorem d_Ma_show_32 : decode b_Ma_show 32 = .ok (.iload_n 1, 1) := by decide +kernel
theorem d_Ma_show_33 : decode b_Ma_show 33 = .ok (.iconst 5, 1) := by decide +kernel
theorem d_Ma_show_34 : decode b_Ma_show 34 = .ok (.if_icmp .gt 14, 3) := by decide +kernel
theorem d_Ma_show_37 : decode b_Ma_show 37 = .ok (.aload_n 0, 1) := by decide +kernel
theorem d_Ma_show_38 : decode b_Ma_show 38 = .ok (.getfield 51, 3) := by decide +kernel
theorem d_Ma_show_41 : decode b_Ma_show 41 = .ok (.iload_n 1, 1) := by decide +kernel
theorem d_Ma_show_42 : decode b_Ma_show 42 = .ok (.iconst 2, 1) := by decide +kernel
theorem d_Ma_show_43 : decode b_Ma_show 43 = .ok (.isub, 1) := by decide +kernel
theorem d_Ma_show_44 : decode b_Ma_show 44 = .ok (.ishr, 1) := by decide +kernel
theorem d_Ma_show_45 : decode b_Ma_show 45 = .ok (.iconst 1, 1) := by decide +kernel
theorem d_Ma_show_46 : decode b_Ma_show 46 = .ok (.iand, 1) := by decide +kernel
theorem d_Ma_show_47 : decode b_Ma_show 47 = .ok (.ireturn, 1) := by decide +kernel
theorem d_Ma_show_48 : decode b_Ma_show 48 = .ok (.iload_n 1, 1) := by decide +kernel
theorem d_Ma_show_49 : decode b_Ma_show 49 = .ok (.bipush 6, 2) := by decide +kernel
theorem d_Ma_show_51 : decode b_Ma_show 51 = .ok (.if_icmp .lt 19, 3) := by decide +kernel
theorem d_Ma_show_54 : decode b_Ma_show 54 = .ok (.iload_n 1, 1) := by decide +kernel
theorem d_Ma_show_55 : decode b_Ma_show 55 = .ok (.bipush 8, 2) := by decide +kernel
theorem d_Ma_show_57 : decode b_Ma_show 57 = .ok (.if_icmp .gt 13, 3) := by decide +kernel
theorem d_Ma_show_60 : decode b_Ma_show 60 = .ok (.aload_n 0, 1) := by decide +kernel
theorem d_Ma_show_61 : decode b_Ma_show 61 = .ok (.getfield 22, 3) := by decide +kernel
theorem d_Ma_show_64 : decode b_Ma_show 64 = .ok (.iload_n 1, 1) := by decide +kernel
theorem d_Ma_show_65 : decode b_Ma_show 65 = .ok (.bipush 6, 2) := by decide +kernel
theorem d_Ma_show_67 : decode b_Ma_show 67 = .ok (.isub, 1) := by decide +kernel
theorem d_Ma_show_68 : decode b_Ma_show 68 = .ok (.iaload, 1) := by decide +kernel
theorem d_Ma_show_69 : decode b_Ma_show 69 = .ok (.ireturn, 1) := by decide +kernel
theorem d_Ma_show_70 : decode b_Ma_show 70 = .ok (.iload_n 1, 1) := by decide +kernel
theorem d_Ma_show_71 : decode b_Ma_show 71 = .ok (.bipush 9, 2) := by decide +kernel
theorem d_Ma_show_73 : decode b_Ma_show 73 = .ok (.if_icmp .lt 21, 3) := by decide +kernel
theorem d_Ma_show_76 : decode b_Ma_show 76 = .ok (.iload_n 1, 1) := by decide +kernel
theorem d_Ma_show_77 : decode b_Ma_show 77 = .ok (.bipush 11, 2) := by decide +kernel
theorem d_Ma_show_79 : decode b_Ma_show 79 = .ok (.if_icmp .gt 15, 3) := by decide +kernel
theorem d_Ma_show_82 : decode b_Ma_show 82 = .ok (.aload_n 0, 1) := by decide +kernel
theorem d_Ma_show_83 : decode b_Ma_show 83 = .ok (.getfield 48, 3) := by decide +kernel
theorem d_Ma_show_86 : decode b_Ma_show 86 = .ok (.iload_n 1, 1) := by decide +kernel
theorem d_Ma_show_87 : decode b_Ma_show 87 = .ok (.bipush 9, 2) := by decide +kernel
theorem d_Ma_show_89 : decode b_Ma_show 89 = .ok (.isub, 1) := by decide +kernel
theorem d_Ma_show_90 : decode b_Ma_show 90 = .ok (.ishr, 1) := by decide +kernel
theorem d_Ma_show_91 : decode b_Ma_show 91 = .ok (.iconst 1, 1) := by decide +kernel
theorem d_Ma_show_92 : decode b_Ma_show 92 = .ok (.iand, 1) := by decide +kernel
theorem d_Ma_show_93 : decode b_Ma_show 93 = .ok (.ireturn, 1) := by decide +kernel
theorem d_Ma_show_94 : decode b_Ma_show 94 = .ok (.iload_n 1, 1) := by decide +kernel
theorem d_Ma_show_95 : decode b_Ma_show 95 = .ok (.bipush 12, 2) := by decide +kernel
theorem d_Ma_show_97 : decode b_Ma_show 97 = .ok (.if_icmp .lt 19, 3) := by decide +kernel
theorem d_Ma_show_100 : decode b_Ma_show 100 = .ok (.iload_n 1, 1) := by decide +kernel
theorem d_Ma_show_101 : decode b_Ma_show 101 = .ok (.bipush 14, 2) := by decide +kernel
theorem d_Ma_show_103 : decode b_Ma_show 103 = .ok (.if_icmp .gt 13, 3) := by decide +kernel
theorem d_Ma_show_106 : decode b_Ma_show 106 = .ok (.aload_n 0, 1) := by decide +kernel
theorem d_Ma_show_107 : decode b_Ma_show 107 = .ok (.getfield 25, 3) := by decide +kernel
theorem d_Ma_show_110 : decode b_Ma_show 110 = .ok (.iload_n 1, 1) := by decide +kernel
theorem d_Ma_show_111 : decode b_Ma_show 111 = .ok (.bipush 12, 2) := by decide +kernel
theorem d_Ma_show_113 : decode b_Ma_show 113 = .ok (.isub, 1) := by decide +kernel
theorem d_Ma_show_114 : decode b_Ma_show 114 = .ok (.iaload, 1) := by decide +kernel
theorem d_Ma_show_115 : decode b_Ma_show 115 = .ok (.ireturn, 1) := by decide +kernel
theorem d_Ma_show_116 : decode b_Ma_show 116 = .ok (.iload_n 1, 1) := by decide +kernel
theorem d_Ma_show_117 : decode b_Ma_show 117 = .ok (.bipush 15, 2) := by decide +kernel
theorem d_Ma_show_119 : decode b_Ma_show 119 = .ok (.if_icmp .ne 10, 3) := by decide +kernel
theorem d_Ma_show_122 : decode b_Ma_show 122 = .ok (.aload_n 0, 1) := by decide +kernel
theorem d_Ma_show_123 : decode b_Ma_show 123 = .ok (.getfield 57, 3) := by decide +kernel
theorem d_Ma_show_126 : decode b_Ma_show 126 = .ok (.goto 4, 3) := by decide +kernel
theorem d_Ma_show_129 : decode b_Ma_show 129 = .ok (.iconst 0, 1) := by decide +kernel
theorem d_Ma_show_130 : decode b_Ma_show 130 = .ok (.ireturn, 1) := by decide +kernel
abbrev b_Ma_has : ByteArray := prog_5_method_6_code
abbrev y_Ma_has : MethodName := ⟨"MoveDesk$Machine", "has", "(II)Z"⟩
theorem hs_Ma_has : y_Ma_has.cls ≠ "java/lang/invoke/MethodHandle" ∧ y_Ma_has.cls ≠ "java/lang/invoke/VarHandle" ∧ (parseMethodDescriptor y_Ma_has.desc).map (fun d => d.parameters.length) = some 2 := by decide +kernel
theorem d_Ma_has_0 : decode b_Ma_has 0 = .ok (.iload_n 0, 1) := by decide +kernel
theorem d_Ma_has_1 : decode b_Ma_has 1 = .ok (.iload_n 1, 1) := by decide +kernel
theorem d_Ma_has_2 : decode b_Ma_has 2 = .ok (.ishr, 1) := by decide +kernel
theorem d_Ma_has_3 : decode b_Ma_has 3 = .ok (.iconst 1, 1) := by decide +kernel
theorem d_Ma_has_4 : decode b_Ma_has 4 = .ok (.iand, 1) := by decide +kernel
theorem d_Ma_has_5 : decode b_Ma_has 5 = .ok (.ifCond .eq 7, 3) := by decide +kernel
theorem d_Ma_has_8 : decode b_Ma_has 8 = .ok (.iconst 1, 1) := by decide +kernel
theorem d_Ma_has_9 : decode b_Ma_has 9 = .ok (.goto 4, 3) := by decide +kernel
theorem d_Ma_has_12 : decode b_Ma_has 12 = .ok (.iconst 0, 1) := by decide +kernel
theorem d_Ma_has_13 : decode b_Ma_has 13 = .ok (.ireturn, 1) := by decide +kernel
abbrev w_ma_wo_rs (g : GT) (a_lat : Nat) (a_co : Nat) (a_ma : Nat) (a_bu : Nat) (a_wo : Nat) (a_od : Nat) (a_rs : Nat) (a_ca : Nat) (a_cm : Nat) (r_ma : Nat → Int32) (r_wo : Nat → Int32) (r_rs : Nat → Int32) : va_W := [kO a_ma 3 [.ref a_co, .ref a_lat, .ref a_bu, .ref a_wo, .ref a_od, .ref a_rs, .ref a_ca, .ref a_cm, .int (r_ma 8), .int (r_ma 9), .int (r_ma 10), .int (r_ma 11), .int (r_ma 12), .int (r_ma 13), .int (r_ma 14), .int (r_ma 15)], kI g a_wo 72 r_wo, kI g a_rs 3 r_rs]
abbrev b_Ma_valueOf : ByteArray := prog_5_method_8_code
abbrev y_Ma_valueOf : MethodName := ⟨"MoveDesk$Machine", "valueOf", "(II)I"⟩
theorem hd_Ma_valueOf : y_Ma_valueOf.cls = "MoveDesk$Machine" ∧ y_Ma_valueOf.cls ≠ "java/lang/invoke/MethodHandle" ∧ y_Ma_valueOf.cls ≠ "java/lang/invoke/VarHandle" ∧ (parseMethodDescriptor y_Ma_valueOf.desc).map (fun d => d.parameters.length) = some 2 := by decide +kernel
theorem d_Ma_valueOf_0 : decode b_Ma_valueOf 0 = .ok (.iload_n 1, 1) := by decide +kernel
theorem d_Ma_valueOf_1 : decode b_Ma_valueOf 1 = .ok (.bipush 8, 2) := by decide +kernel
theorem d_Ma_valueOf_3 : decode b_Ma_valueOf 3 = .ok (.if_icmp .ge 10, 3) := by decide +kernel
theorem d_Ma_valueOf_6 : decode b_Ma_valueOf 6 = .ok (.aload_n 0, 1) := by decide +kernel
theorem d_Ma_valueOf_7 : decode b_Ma_valueOf 7 = .ok (.getfield 18, 3) := by decide +kernel
theorem d_Ma_valueOf_10 : decode b_Ma_valueOf 10 = .ok (.iload_n 1, 1) := by decide +kernel
theorem d_Ma_valueOf_11 : decode b_Ma_valueOf 11 = .ok (.iaload, 1) := by decide +kernel
theorem d_Ma_valueOf_12 : decode b_Ma_valueOf 12 = .ok (.ireturn, 1) := by decide +kernel
theorem d_Ma_valueOf_13 : decode b_Ma_valueOf 13 = .ok (.iload_n 1, 1) := by decide +kernel
theorem d_Ma_valueOf_14 : decode b_Ma_valueOf 14 = .ok (.bipush 11, 2) := by decide +kernel
theorem d_Ma_valueOf_16 : decode b_Ma_valueOf 16 = .ok (.if_icmp .ge 15, 3) := by decide +kernel
theorem d_Ma_valueOf_19 : decode b_Ma_valueOf 19 = .ok (.aload_n 0, 1) := by decide +kernel
theorem d_Ma_valueOf_20 : decode b_Ma_valueOf 20 = .ok (.getfield 25, 3) := by decide +kernel
theorem d_Ma_valueOf_23 : decode b_Ma_valueOf 23 = .ok (.iload_n 1, 1) := by decide +kernel
theorem d_Ma_valueOf_24 : decode b_Ma_valueOf 24 = .ok (.bipush 8, 2) := by decide +kernel
theorem d_Ma_valueOf_26 : decode b_Ma_valueOf 26 = .ok (.isub, 1) := by decide +kernel
theorem d_Ma_valueOf_27 : decode b_Ma_valueOf 27 = .ok (.iaload, 1) := by decide +kernel
theorem d_Ma_valueOf_28 : decode b_Ma_valueOf 28 = .ok (.goto 4, 3) := by decide +kernel
theorem d_Ma_valueOf_31 : decode b_Ma_valueOf 31 = .ok (.iload_n 2, 1) := by decide +kernel
theorem d_Ma_valueOf_32 : decode b_Ma_valueOf 32 = .ok (.ireturn, 1) := by decide +kernel
abbrev w_co_7_3d79 (g : GT) (a_lat : Nat) (a_co : Nat) (a_ta : Nat) (a_gu : Nat) (a_so : Nat) (a_cn : Nat) (a_de : Nat) (a_ma : Nat) (a_bu : Nat) (a_wo : Nat) (a_od : Nat) (a_rs : Nat) (a_ca : Nat) (a_cm : Nat) (r_co : Nat → Int32) (r_so : Nat → Int32) (r_cn : Nat → Int32) (r_ma : Nat → Int32) (r_wo : Nat → Int32) (r_rs : Nat → Int32) (r_ca : Nat → Int32) : va_W := [kO a_co 1 [.int (r_co 0), .ref a_ta, .ref a_gu, .ref a_so, .ref a_cn, .ref a_de], kI g a_so 256 r_so, kI g a_cn 256 r_cn, kO a_ma 3 [.ref a_co, .ref a_lat, .ref a_bu, .ref a_wo, .ref a_od, .ref a_rs, .ref a_ca, .ref a_cm, .int (r_ma 8), .int (r_ma 9), .int (r_ma 10), .int (r_ma 11), .int (r_ma 12), .int (r_ma 13), .int (r_ma 14), .int (r_ma 15)], kI g a_wo 72 r_wo, kI g a_rs 3 r_rs, kI g a_ca 4 r_ca]
abbrev b_Ma_readSources : ByteArray := prog_5_method_7_code
abbrev y_Ma_readSources : MethodName := ⟨"MoveDesk$Machine", "readSources", "(I)V"⟩
theorem hd_Ma_readSources : y_Ma_readSources.cls = "MoveDesk$Machine" ∧ y_Ma_readSources.cls ≠ "java/lang/invoke/MethodHandle" ∧ y_Ma_readSources.cls ≠ "java/lang/invoke/VarHandle" ∧ (parseMethodDescriptor y_Ma_readSources.desc).map (fun d => d.parameters.length) = some 1 := by decide +kernel
theorem d_Ma_readSources_0 : decode b_Ma_readSources 0 = .ok (.iconst 0, 1) := by decide +kernel
theorem d_Ma_readSources_1 : decode b_Ma_readSources 1 = .ok (.istore_n 2, 1) := by decide +kernel
theorem d_Ma_readSources_2 : decode b_Ma_readSources 2 = .ok (.iload_n 2, 1) := by decide +kernel
theorem d_Ma_readSources_3 : decode b_Ma_readSources 3 = .ok (.iconst 4, 1) := by decide +kernel
theorem d_Ma_readSources_4 : decode b_Ma_readSources 4 = .ok (.if_icmp .ge 51, 3) := by decide +kernel
theorem d_Ma_readSources_7 : decode b_Ma_readSources 7 = .ok (.iload_n 1, 1) := by decide +kernel
theorem d_Ma_readSources_8 : decode b_Ma_readSources 8 = .ok (.iload_n 2, 1) := by decide +kernel
theorem d_Ma_readSources_9 : decode b_Ma_readSources 9 = .ok (.invokestatic 97, 3) := by decide +kernel
theorem d_Ma_readSources_12 : decode b_Ma_readSources 12 = .ok (.ifCond .eq 37, 3) := by decide +kernel
theorem d_Ma_readSources_15 : decode b_Ma_readSources 15 = .ok (.aload_n 0, 1) := by decide +kernel
theorem d_Ma_readSources_16 : decode b_Ma_readSources 16 = .ok (.getfield 28, 3) := by decide +kernel
theorem d_Ma_readSources_19 : decode b_Ma_readSources 19 = .ok (.iload_n 2, 1) := by decide +kernel
theorem d_Ma_readSources_20 : decode b_Ma_readSources 20 = .ok (.aload_n 0, 1) := by decide +kernel
theorem d_Ma_readSources_21 : decode b_Ma_readSources 21 = .ok (.aload_n 0, 1) := by decide +kernel
theorem d_Ma_readSources_22 : decode b_Ma_readSources 22 = .ok (.getfield 34, 3) := by decide +kernel
theorem d_Ma_readSources_25 : decode b_Ma_readSources 25 = .ok (.aload_n 0, 1) := by decide +kernel
theorem d_Ma_readSources_26 : decode b_Ma_readSources 26 = .ok (.getfield 54, 3) := by decide +kernel
theorem d_Ma_readSources_29 : decode b_Ma_readSources 29 = .ok (.iload_n 2, 1) := by decide +kernel
theorem d_Ma_readSources_30 : decode b_Ma_readSources 30 = .ok (.invokevirtual 101, 3) := by decide +kernel
theorem d_Ma_readSources_33 : decode b_Ma_readSources 33 = .ok (.aload_n 0, 1) := by decide +kernel
theorem d_Ma_readSources_34 : decode b_Ma_readSources 34 = .ok (.getfield 34, 3) := by decide +kernel
theorem d_Ma_readSources_37 : decode b_Ma_readSources 37 = .ok (.aload_n 0, 1) := by decide +kernel
theorem d_Ma_readSources_38 : decode b_Ma_readSources 38 = .ok (.getfield 54, 3) := by decide +kernel
theorem d_Ma_readSources_41 : decode b_Ma_readSources 41 = .ok (.iload_n 2, 1) := by decide +kernel
theorem d_Ma_readSources_42 : decode b_Ma_readSources 42 = .ok (.invokevirtual 104, 3) := by decide +kernel
theorem d_Ma_readSources_45 : decode b_Ma_readSources 45 = .ok (.invokevirtual 107, 3) := by decide +kernel
theorem d_Ma_readSources_48 : decode b_Ma_readSources 48 = .ok (.iastore, 1) := by decide +kernel
theorem d_Ma_readSources_49 : decode b_Ma_readSources 49 = .ok (.iinc 2 1, 3) := by decide +kernel
theorem d_Ma_readSources_52 : decode b_Ma_readSources 52 = .ok (.goto (-50), 3) := by decide +kernel
theorem d_Ma_readSources_55 : decode b_Ma_readSources 55 = .ok (.return_, 1) := by decide +kernel
abbrev w_co_de_ma_wo_od_ca (g : GT) (a_lat : Nat) (a_co : Nat) (a_ta : Nat) (a_gu : Nat) (a_so : Nat) (a_cn : Nat) (a_de : Nat) (a_ma : Nat) (a_bu : Nat) (a_wo : Nat) (a_od : Nat) (a_rs : Nat) (a_ca : Nat) (a_cm : Nat) (r_co : Nat → Int32) (r_de : Nat → Int32) (r_ma : Nat → Int32) (r_wo : Nat → Int32) (r_od : Nat → Int32) (r_ca : Nat → Int32) : va_W := [kO a_co 1 [.int (r_co 0), .ref a_ta, .ref a_gu, .ref a_so, .ref a_cn, .ref a_de], kI g a_de 256 r_de, kO a_ma 3 [.ref a_co, .ref a_lat, .ref a_bu, .ref a_wo, .ref a_od, .ref a_rs, .ref a_ca, .ref a_cm, .int (r_ma 8), .int (r_ma 9), .int (r_ma 10), .int (r_ma 11), .int (r_ma 12), .int (r_ma 13), .int (r_ma 14), .int (r_ma 15)], kI g a_wo 72 r_wo, kI g a_od 3 r_od, kI g a_ca 4 r_ca]
abbrev b_Ma_writePlaces : ByteArray := prog_5_method_9_code
abbrev y_Ma_writePlaces : MethodName := ⟨"MoveDesk$Machine", "writePlaces", "(I)V"⟩
theorem hd_Ma_writePlaces : y_Ma_writePlaces.cls = "MoveDesk$Machine" ∧ y_Ma_writePlaces.cls ≠ "java/lang/invoke/MethodHandle" ∧ y_Ma_writePlaces.cls ≠ "java/lang/invoke/VarHandle" ∧ (parseMethodDescriptor y_Ma_writePlaces.desc).map (fun d => d.parameters.length) = some 1 := by decide +kernel
theorem d_Ma_writePlaces_0 : decode b_Ma_writePlaces 0 = .ok (.iconst 0, 1) := by decide +kernel
theorem d_Ma_writePlaces_1 : decode b_Ma_writePlaces 1 = .ok (.istore_n 2, 1) := by decide +kernel
theorem d_Ma_writePlaces_2 : decode b_Ma_writePlaces 2 = .ok (.iload_n 2, 1) := by decide +kernel
theorem d_Ma_writePlaces_3 : decode b_Ma_writePlaces 3 = .ok (.iconst 4, 1) := by decide +kernel
theorem d_Ma_writePlaces_4 : decode b_Ma_writePlaces 4 = .ok (.if_icmp .ge 77, 3) := by decide +kernel
theorem d_Ma_writePlaces_7 : decode b_Ma_writePlaces 7 = .ok (.iload_n 1, 1) := by decide +kernel
theorem d_Ma_writePlaces_8 : decode b_Ma_writePlaces 8 = .ok (.iload_n 2, 1) := by decide +kernel
theorem d_Ma_writePlaces_9 : decode b_Ma_writePlaces 9 = .ok (.invokestatic 97, 3) := by decide +kernel
theorem d_Ma_writePlaces_12 : decode b_Ma_writePlaces 12 = .ok (.ifCond .eq 18, 3) := by decide +kernel
theorem d_Ma_writePlaces_15 : decode b_Ma_writePlaces 15 = .ok (.aload_n 0, 1) := by decide +kernel
theorem d_Ma_writePlaces_16 : decode b_Ma_writePlaces 16 = .ok (.getfield 34, 3) := by decide +kernel
theorem d_Ma_writePlaces_19 : decode b_Ma_writePlaces 19 = .ok (.aload_n 0, 1) := by decide +kernel
theorem d_Ma_writePlaces_20 : decode b_Ma_writePlaces 20 = .ok (.getfield 54, 3) := by decide +kernel
theorem d_Ma_writePlaces_23 : decode b_Ma_writePlaces 23 = .ok (.iload_n 2, 1) := by decide +kernel
theorem d_Ma_writePlaces_24 : decode b_Ma_writePlaces 24 = .ok (.invokevirtual 110, 3) := by decide +kernel
theorem d_Ma_writePlaces_27 : decode b_Ma_writePlaces 27 = .ok (.goto 5, 3) := by decide +kernel
theorem d_Ma_writePlaces_30 : decode b_Ma_writePlaces 30 = .ok (.bipush 11, 2) := by decide +kernel
theorem d_Ma_writePlaces_32 : decode b_Ma_writePlaces 32 = .ok (.istore_n 3, 1) := by decide +kernel
theorem d_Ma_writePlaces_33 : decode b_Ma_writePlaces 33 = .ok (.iload_n 3, 1) := by decide +kernel
theorem d_Ma_writePlaces_34 : decode b_Ma_writePlaces 34 = .ok (.bipush 8, 2) := by decide +kernel
theorem d_Ma_writePlaces_36 : decode b_Ma_writePlaces 36 = .ok (.if_icmp .ge 18, 3) := by decide +kernel
theorem d_Ma_writePlaces_39 : decode b_Ma_writePlaces 39 = .ok (.aload_n 0, 1) := by decide +kernel
theorem d_Ma_writePlaces_40 : decode b_Ma_writePlaces 40 = .ok (.getfield 18, 3) := by decide +kernel
theorem d_Ma_writePlaces_43 : decode b_Ma_writePlaces 43 = .ok (.iload_n 3, 1) := by decide +kernel
theorem d_Ma_writePlaces_44 : decode b_Ma_writePlaces 44 = .ok (.aload_n 0, 1) := by decide +kernel
theorem d_Ma_writePlaces_45 : decode b_Ma_writePlaces 45 = .ok (.getfield 28, 3) := by decide +kernel
theorem d_Ma_writePlaces_48 : decode b_Ma_writePlaces 48 = .ok (.iload_n 2, 1) := by decide +kernel
theorem d_Ma_writePlaces_49 : decode b_Ma_writePlaces 49 = .ok (.iaload, 1) := by decide +kernel
theorem d_Ma_writePlaces_50 : decode b_Ma_writePlaces 50 = .ok (.iastore, 1) := by decide +kernel
theorem d_Ma_writePlaces_51 : decode b_Ma_writePlaces 51 = .ok (.goto 24, 3) := by decide +kernel
theorem d_Ma_writePlaces_54 : decode b_Ma_writePlaces 54 = .ok (.iload_n 3, 1) := by decide +kernel
theorem d_Ma_writePlaces_55 : decode b_Ma_writePlaces 55 = .ok (.bipush 11, 2) := by decide +kernel
theorem d_Ma_writePlaces_57 : decode b_Ma_writePlaces 57 = .ok (.if_icmp .ge 18, 3) := by decide +kernel
theorem d_Ma_writePlaces_60 : decode b_Ma_writePlaces 60 = .ok (.aload_n 0, 1) := by decide +kernel
theorem d_Ma_writePlaces_61 : decode b_Ma_writePlaces 61 = .ok (.getfield 22, 3) := by decide +kernel
theorem d_Ma_writePlaces_64 : decode b_Ma_writePlaces 64 = .ok (.iload_n 3, 1) := by decide +kernel
theorem d_Ma_writePlaces_65 : decode b_Ma_writePlaces 65 = .ok (.bipush 8, 2) := by decide +kernel
theorem d_Ma_writePlaces_67 : decode b_Ma_writePlaces 67 = .ok (.isub, 1) := by decide +kernel
theorem d_Ma_writePlaces_68 : decode b_Ma_writePlaces 68 = .ok (.aload_n 0, 1) := by decide +kernel
theorem d_Ma_writePlaces_69 : decode b_Ma_writePlaces 69 = .ok (.getfield 28, 3) := by decide +kernel
theorem d_Ma_writePlaces_72 : decode b_Ma_writePlaces 72 = .ok (.iload_n 2, 1) := by decide +kernel
theorem d_Ma_writePlaces_73 : decode b_Ma_writePlaces 73 = .ok (.iaload, 1) := by decide +kernel
theorem d_Ma_writePlaces_74 : decode b_Ma_writePlaces 74 = .ok (.iastore, 1) := by decide +kernel
theorem d_Ma_writePlaces_75 : decode b_Ma_writePlaces 75 = .ok (.iinc 2 1, 3) := by decide +kernel
theorem d_Ma_writePlaces_78 : decode b_Ma_writePlaces 78 = .ok (.goto (-76), 3) := by decide +kernel
theorem d_Ma_writePlaces_81 : decode b_Ma_writePlaces 81 = .ok (.return_, 1) := by decide +kernel
abbrev w_lat_ma_cm (g : GT) (a_lat : Nat) (a_co : Nat) (a_ma : Nat) (a_bu : Nat) (a_wo : Nat) (a_od : Nat) (a_rs : Nat) (a_ca : Nat) (a_cm : Nat) (r_lat : Nat → Int32) (r_ma : Nat → Int32) (r_cm : Nat → Int32) : va_W := [kI g a_lat 3 r_lat, kO a_ma 3 [.ref a_co, .ref a_lat, .ref a_bu, .ref a_wo, .ref a_od, .ref a_rs, .ref a_ca, .ref a_cm, .int (r_ma 8), .int (r_ma 9), .int (r_ma 10), .int (r_ma 11), .int (r_ma 12), .int (r_ma 13), .int (r_ma 14), .int (r_ma 15)], kI g a_cm 12 r_cm]
abbrev b_Ma_begin : ByteArray := prog_5_method_12_code
abbrev y_Ma_begin : MethodName := ⟨"MoveDesk$Machine", "begin", "(II)V"⟩
theorem hd_Ma_begin : y_Ma_begin.cls = "MoveDesk$Machine" ∧ y_Ma_begin.cls ≠ "java/lang/invoke/MethodHandle" ∧ y_Ma_begin.cls ≠ "java/lang/invoke/VarHandle" ∧ (parseMethodDescriptor y_Ma_begin.desc).map (fun d => d.parameters.length) = some 2 := by decide +kernel
theorem d_Ma_begin_0 : decode b_Ma_begin 0 = .ok (.iload_n 1, 1) := by decide +kernel
theorem d_Ma_begin_1 : decode b_Ma_begin 1 = .ok (.iconst 4, 1) := by decide +kernel
theorem d_Ma_begin_2 : decode b_Ma_begin 2 = .ok (.imul, 1) := by decide +kernel
theorem d_Ma_begin_3 : decode b_Ma_begin 3 = .ok (.aload_n 0, 1) := by decide +kernel
theorem d_Ma_begin_4 : decode b_Ma_begin 4 = .ok (.getfield 45, 3) := by decide +kernel
theorem d_Ma_begin_7 : decode b_Ma_begin 7 = .ok (.aload_n 0, 1) := by decide +kernel
theorem d_Ma_begin_8 : decode b_Ma_begin 8 = .ok (.getfield 38, 3) := by decide +kernel
theorem d_Ma_begin_11 : decode b_Ma_begin 11 = .ok (.iload_n 1, 1) := by decide +kernel
theorem d_Ma_begin_12 : decode b_Ma_begin 12 = .ok (.iaload, 1) := by decide +kernel
theorem d_Ma_begin_13 : decode b_Ma_begin 13 = .ok (.iadd, 1) := by decide +kernel
theorem d_Ma_begin_14 : decode b_Ma_begin 14 = .ok (.iconst 1, 1) := by decide +kernel
theorem d_Ma_begin_15 : decode b_Ma_begin 15 = .ok (.isub, 1) := by decide +kernel
theorem d_Ma_begin_16 : decode b_Ma_begin 16 = .ok (.iconst 4, 1) := by decide +kernel
theorem d_Ma_begin_17 : decode b_Ma_begin 17 = .ok (.irem, 1) := by decide +kernel
theorem d_Ma_begin_18 : decode b_Ma_begin 18 = .ok (.iadd, 1) := by decide +kernel
theorem d_Ma_begin_19 : decode b_Ma_begin 19 = .ok (.istore_n 3, 1) := by decide +kernel
theorem d_Ma_begin_20 : decode b_Ma_begin 20 = .ok (.aload_n 0, 1) := by decide +kernel
theorem d_Ma_begin_21 : decode b_Ma_begin 21 = .ok (.getfield 31, 3) := by decide +kernel
theorem d_Ma_begin_24 : decode b_Ma_begin 24 = .ok (.iload_n 3, 1) := by decide +kernel
theorem d_Ma_begin_25 : decode b_Ma_begin 25 = .ok (.iload_n 2, 1) := by decide +kernel
theorem d_Ma_begin_26 : decode b_Ma_begin 26 = .ok (.iastore, 1) := by decide +kernel
theorem d_Ma_begin_27 : decode b_Ma_begin 27 = .ok (.aload_n 0, 1) := by decide +kernel
theorem d_Ma_begin_28 : decode b_Ma_begin 28 = .ok (.dup, 1) := by decide +kernel
theorem d_Ma_begin_29 : decode b_Ma_begin 29 = .ok (.getfield 41, 3) := by decide +kernel
theorem d_Ma_begin_32 : decode b_Ma_begin 32 = .ok (.iconst 1, 1) := by decide +kernel
theorem d_Ma_begin_33 : decode b_Ma_begin 33 = .ok (.iload_n 3, 1) := by decide +kernel
theorem d_Ma_begin_34 : decode b_Ma_begin 34 = .ok (.ishl, 1) := by decide +kernel
theorem d_Ma_begin_35 : decode b_Ma_begin 35 = .ok (.ior, 1) := by decide +kernel
theorem d_Ma_begin_36 : decode b_Ma_begin 36 = .ok (.putfield 41, 3) := by decide +kernel
theorem d_Ma_begin_39 : decode b_Ma_begin 39 = .ok (.return_, 1) := by decide +kernel
abbrev b_Ma_setGuard : ByteArray := prog_5_method_13_code
abbrev y_Ma_setGuard : MethodName := ⟨"MoveDesk$Machine", "setGuard", "(IZ)V"⟩
theorem hd_Ma_setGuard : y_Ma_setGuard.cls = "MoveDesk$Machine" ∧ y_Ma_setGuard.cls ≠ "java/lang/invoke/MethodHandle" ∧ y_Ma_setGuard.cls ≠ "java/lang/invoke/VarHandle" ∧ (parseMethodDescriptor y_Ma_setGuard.desc).map (fun d => d.parameters.length) = some 2 := by decide +kernel
theorem d_Ma_setGuard_0 : decode b_Ma_setGuard 0 = .ok (.aload_n 0, 1) := by decide +kernel
theorem d_Ma_setGuard_1 : decode b_Ma_setGuard 1 = .ok (.iload_n 2, 1) := by decide +kernel
theorem d_Ma_setGuard_2 : decode b_Ma_setGuard 2 = .ok (.ifCond .eq 14, 3) := by decide +kernel
theorem d_Ma_setGuard_5 : decode b_Ma_setGuard 5 = .ok (.aload_n 0, 1) := by decide +kernel
theorem d_Ma_setGuard_6 : decode b_Ma_setGuard 6 = .ok (.getfield 51, 3) := by decide +kernel
theorem d_Ma_setGuard_9 : decode b_Ma_setGuard 9 = .ok (.iconst 1, 1) := by decide +kernel
theorem d_Ma_setGuard_10 : decode b_Ma_setGuard 10 = .ok (.iload_n 1, 1) := by decide +kernel
theorem d_Ma_setGuard_11 : decode b_Ma_setGuard 11 = .ok (.ishl, 1) := by decide +kernel
theorem d_Ma_setGuard_12 : decode b_Ma_setGuard 12 = .ok (.ior, 1) := by decide +kernel
theorem d_Ma_setGuard_13 : decode b_Ma_setGuard 13 = .ok (.goto 13, 3) := by decide +kernel
theorem d_Ma_setGuard_16 : decode b_Ma_setGuard 16 = .ok (.aload_n 0, 1) := by decide +kernel
theorem d_Ma_setGuard_17 : decode b_Ma_setGuard 17 = .ok (.getfield 51, 3) := by decide +kernel
theorem d_Ma_setGuard_20 : decode b_Ma_setGuard 20 = .ok (.iconst 1, 1) := by decide +kernel
theorem d_Ma_setGuard_21 : decode b_Ma_setGuard 21 = .ok (.iload_n 1, 1) := by decide +kernel
theorem d_Ma_setGuard_22 : decode b_Ma_setGuard 22 = .ok (.ishl, 1) := by decide +kernel
theorem d_Ma_setGuard_23 : decode b_Ma_setGuard 23 = .ok (.iconst (-1), 1) := by decide +kernel
theorem d_Ma_setGuard_24 : decode b_Ma_setGuard 24 = .ok (.ixor, 1) := by decide +kernel
theorem d_Ma_setGuard_25 : decode b_Ma_setGuard 25 = .ok (.iand, 1) := by decide +kernel
theorem d_Ma_setGuard_26 : decode b_Ma_setGuard 26 = .ok (.putfield 51, 3) := by decide +kernel
theorem d_Ma_setGuard_29 : decode b_Ma_setGuard 29 = .ok (.return_, 1) := by decide +kernel
abbrev w_lat_ma_wo_od_cm (g : GT) (a_lat : Nat) (a_co : Nat) (a_ma : Nat) (a_bu : Nat) (a_wo : Nat) (a_od : Nat) (a_rs : Nat) (a_ca : Nat) (a_cm : Nat) (r_lat : Nat → Int32) (r_ma : Nat → Int32) (r_wo : Nat → Int32) (r_od : Nat → Int32) (r_cm : Nat → Int32) : va_W := [kI g a_lat 3 r_lat, kO a_ma 3 [.ref a_co, .ref a_lat, .ref a_bu, .ref a_wo, .ref a_od, .ref a_rs, .ref a_ca, .ref a_cm, .int (r_ma 8), .int (r_ma 9), .int (r_ma 10), .int (r_ma 11), .int (r_ma 12), .int (r_ma 13), .int (r_ma 14), .int (r_ma 15)], kI g a_wo 72 r_wo, kI g a_od 3 r_od, kI g a_cm 12 r_cm]
abbrev b_Ma_pull : ByteArray := prog_5_method_11_code
abbrev y_Ma_pull : MethodName := ⟨"MoveDesk$Machine", "pull", "(II)V"⟩
theorem hd_Ma_pull : y_Ma_pull.cls = "MoveDesk$Machine" ∧ y_Ma_pull.cls ≠ "java/lang/invoke/MethodHandle" ∧ y_Ma_pull.cls ≠ "java/lang/invoke/VarHandle" ∧ (parseMethodDescriptor y_Ma_pull.desc).map (fun d => d.parameters.length) = some 2 := by decide +kernel
theorem d_Ma_pull_0 : decode b_Ma_pull 0 = .ok (.iload_n 1, 1) := by decide +kernel
theorem d_Ma_pull_1 : decode b_Ma_pull 1 = .ok (.bipush 11, 2) := by decide +kernel
theorem d_Ma_pull_3 : decode b_Ma_pull 3 = .ok (.if_icmp .ne 19, 3) := by decide +kernel
theorem d_Ma_pull_6 : decode b_Ma_pull 6 = .ok (.aload_n 0, 1) := by decide +kernel
theorem d_Ma_pull_7 : decode b_Ma_pull 7 = .ok (.iconst 0, 1) := by decide +kernel
theorem d_Ma_pull_8 : decode b_Ma_pull 8 = .ok (.aload_n 0, 1) := by decide +kernel
theorem d_Ma_pull_9 : decode b_Ma_pull 9 = .ok (.getfield 22, 3) := by decide +kernel
theorem d_Ma_pull_12 : decode b_Ma_pull 12 = .ok (.iconst 0, 1) := by decide +kernel
theorem d_Ma_pull_13 : decode b_Ma_pull 13 = .ok (.iaload, 1) := by decide +kernel
theorem d_Ma_pull_14 : decode b_Ma_pull 14 = .ok (.iload_n 2, 1) := by decide +kernel
theorem d_Ma_pull_15 : decode b_Ma_pull 15 = .ok (.iadd, 1) := by decide +kernel
theorem d_Ma_pull_16 : decode b_Ma_pull 16 = .ok (.invokevirtual 117, 3) := by decide +kernel
theorem d_Ma_pull_19 : decode b_Ma_pull 19 = .ok (.goto 203, 3) := by decide +kernel
theorem d_Ma_pull_22 : decode b_Ma_pull 22 = .ok (.iload_n 1, 1) := by decide +kernel
theorem d_Ma_pull_23 : decode b_Ma_pull 23 = .ok (.bipush 12, 2) := by decide +kernel
theorem d_Ma_pull_25 : decode b_Ma_pull 25 = .ok (.if_icmp .ne 19, 3) := by decide +kernel
theorem d_Ma_pull_28 : decode b_Ma_pull 28 = .ok (.aload_n 0, 1) := by decide +kernel
theorem d_Ma_pull_29 : decode b_Ma_pull 29 = .ok (.iconst 0, 1) := by decide +kernel
theorem d_Ma_pull_30 : decode b_Ma_pull 30 = .ok (.aload_n 0, 1) := by decide +kernel
theorem d_Ma_pull_31 : decode b_Ma_pull 31 = .ok (.getfield 22, 3) := by decide +kernel
theorem d_Ma_pull_34 : decode b_Ma_pull 34 = .ok (.iconst 0, 1) := by decide +kernel
theorem d_Ma_pull_35 : decode b_Ma_pull 35 = .ok (.iaload, 1) := by decide +kernel
theorem d_Ma_pull_36 : decode b_Ma_pull 36 = .ok (.iload_n 2, 1) := by decide +kernel
theorem d_Ma_pull_37 : decode b_Ma_pull 37 = .ok (.isub, 1) := by decide +kernel
theorem d_Ma_pull_38 : decode b_Ma_pull 38 = .ok (.invokevirtual 117, 3) := by decide +kernel
theorem d_Ma_pull_41 : decode b_Ma_pull 41 = .ok (.goto 181, 3) := by decide +kernel
theorem d_Ma_pull_44 : decode b_Ma_pull 44 = .ok (.iload_n 1, 1) := by decide +kernel
theorem d_Ma_pull_45 : decode b_Ma_pull 45 = .ok (.bipush 13, 2) := by decide +kernel
theorem d_Ma_pull_47 : decode b_Ma_pull 47 = .ok (.if_icmp .ne 19, 3) := by decide +kernel
theorem d_Ma_pull_50 : decode b_Ma_pull 50 = .ok (.aload_n 0, 1) := by decide +kernel
theorem d_Ma_pull_51 : decode b_Ma_pull 51 = .ok (.iconst 1, 1) := by decide +kernel
theorem d_Ma_pull_52 : decode b_Ma_pull 52 = .ok (.aload_n 0, 1) := by decide +kernel
theorem d_Ma_pull_53 : decode b_Ma_pull 53 = .ok (.getfield 22, 3) := by decide +kernel
theorem d_Ma_pull_56 : decode b_Ma_pull 56 = .ok (.iconst 1, 1) := by decide +kernel
theorem d_Ma_pull_57 : decode b_Ma_pull 57 = .ok (.iaload, 1) := by decide +kernel
theorem d_Ma_pull_58 : decode b_Ma_pull 58 = .ok (.iload_n 2, 1) := by decide +kernel
theorem d_Ma_pull_59 : decode b_Ma_pull 59 = .ok (.imul, 1) := by decide +kernel
theorem d_Ma_pull_60 : decode b_Ma_pull 60 = .ok (.invokevirtual 117, 3) := by decide +kernel
theorem d_Ma_pull_63 : decode b_Ma_pull 63 = .ok (.goto 159, 3) := by decide +kernel
theorem d_Ma_pull_66 : decode b_Ma_pull 66 = .ok (.iload_n 1, 1) := by decide +kernel
theorem d_Ma_pull_67 : decode b_Ma_pull 67 = .ok (.bipush 14, 2) := by decide +kernel
theorem d_Ma_pull_69 : decode b_Ma_pull 69 = .ok (.if_icmp .ne 20, 3) := by decide +kernel
theorem d_Ma_pull_72 : decode b_Ma_pull 72 = .ok (.aload_n 0, 1) := by decide +kernel
theorem d_Ma_pull_73 : decode b_Ma_pull 73 = .ok (.iconst 2, 1) := by decide +kernel
theorem d_Ma_pull_74 : decode b_Ma_pull 74 = .ok (.aload_n 0, 1) := by decide +kernel
theorem d_Ma_pull_75 : decode b_Ma_pull 75 = .ok (.getfield 18, 3) := by decide +kernel
theorem d_Ma_pull_78 : decode b_Ma_pull 78 = .ok (.iload_n 2, 1) := by decide +kernel
theorem d_Ma_pull_79 : decode b_Ma_pull 79 = .ok (.invokestatic 120, 3) := by decide +kernel
theorem d_Ma_pull_82 : decode b_Ma_pull 82 = .ok (.iaload, 1) := by decide +kernel
theorem d_Ma_pull_83 : decode b_Ma_pull 83 = .ok (.invokevirtual 117, 3) := by decide +kernel
theorem d_Ma_pull_86 : decode b_Ma_pull 86 = .ok (.goto 136, 3) := by decide +kernel
theorem d_Ma_pull_89 : decode b_Ma_pull 89 = .ok (.iload_n 1, 1) := by decide +kernel
theorem d_Ma_pull_90 : decode b_Ma_pull 90 = .ok (.bipush 15, 2) := by decide +kernel
theorem d_Ma_pull_92 : decode b_Ma_pull 92 = .ok (.if_icmp .ne 21, 3) := by decide +kernel
theorem d_Ma_pull_95 : decode b_Ma_pull 95 = .ok (.aload_n 0, 1) := by decide +kernel
theorem d_Ma_pull_96 : decode b_Ma_pull 96 = .ok (.getfield 18, 3) := by decide +kernel
theorem d_Ma_pull_99 : decode b_Ma_pull 99 = .ok (.aload_n 0, 1) := by decide +kernel
theorem d_Ma_pull_100 : decode b_Ma_pull 100 = .ok (.getfield 22, 3) := by decide +kernel
theorem d_Ma_pull_103 : decode b_Ma_pull 103 = .ok (.iconst 2, 1) := by decide +kernel
theorem d_Ma_pull_104 : decode b_Ma_pull 104 = .ok (.iaload, 1) := by decide +kernel
theorem d_Ma_pull_105 : decode b_Ma_pull 105 = .ok (.invokestatic 120, 3) := by decide +kernel
theorem d_Ma_pull_108 : decode b_Ma_pull 108 = .ok (.iload_n 2, 1) := by decide +kernel
theorem d_Ma_pull_109 : decode b_Ma_pull 109 = .ok (.iastore, 1) := by decide +kernel
theorem d_Ma_pull_110 : decode b_Ma_pull 110 = .ok (.goto 112, 3) := by decide +kernel
theorem d_Ma_pull_113 : decode b_Ma_pull 113 = .ok (.iload_n 1, 1) := by decide +kernel
theorem d_Ma_pull_114 : decode b_Ma_pull 114 = .ok (.bipush 16, 2) := by decide +kernel
theorem d_Ma_pull_116 : decode b_Ma_pull 116 = .ok (.if_icmp .lt 35, 3) := by decide +kernel
theorem d_Ma_pull_119 : decode b_Ma_pull 119 = .ok (.iload_n 1, 1) := by decide +kernel
theorem d_Ma_pull_120 : decode b_Ma_pull 120 = .ok (.bipush 20, 2) := by decide +kernel
theorem d_Ma_pull_122 : decode b_Ma_pull 122 = .ok (.if_icmp .ge 29, 3) := by decide +kernel
theorem d_Ma_pull_125 : decode b_Ma_pull 125 = .ok (.aload_n 0, 1) := by decide +kernel
theorem d_Ma_pull_126 : decode b_Ma_pull 126 = .ok (.iload_n 1, 1) := by decide +kernel
theorem d_Ma_pull_127 : decode b_Ma_pull 127 = .ok (.bipush 16, 2) := by decide +kernel
theorem d_Ma_pull_129 : decode b_Ma_pull 129 = .ok (.isub, 1) := by decide +kernel
theorem d_Ma_pull_130 : decode b_Ma_pull 130 = .ok (.aload_n 0, 1) := by decide +kernel
theorem d_Ma_pull_131 : decode b_Ma_pull 131 = .ok (.getfield 22, 3) := by decide +kernel
theorem d_Ma_pull_134 : decode b_Ma_pull 134 = .ok (.iconst 0, 1) := by decide +kernel
theorem d_Ma_pull_135 : decode b_Ma_pull 135 = .ok (.iaload, 1) := by decide +kernel
theorem d_Ma_pull_136 : decode b_Ma_pull 136 = .ok (.iload_n 2, 1) := by decide +kernel
theorem d_Ma_pull_137 : decode b_Ma_pull 137 = .ok (.if_icmp .ne 7, 3) := by decide +kernel
theorem d_Ma_pull_140 : decode b_Ma_pull 140 = .ok (.iconst 1, 1) := by decide +kernel
theorem d_Ma_pull_141 : decode b_Ma_pull 141 = .ok (.goto 4, 3) := by decide +kernel
theorem d_Ma_pull_144 : decode b_Ma_pull 144 = .ok (.iconst 0, 1) := by decide +kernel
theorem d_Ma_pull_145 : decode b_Ma_pull 145 = .ok (.invokevirtual 124, 3) := by decide +kernel
theorem d_Ma_pull_148 : decode b_Ma_pull 148 = .ok (.goto 74, 3) := by decide +kernel
theorem d_Ma_pull_151 : decode b_Ma_pull 151 = .ok (.iload_n 1, 1) := by decide +kernel
theorem d_Ma_pull_152 : decode b_Ma_pull 152 = .ok (.bipush 20, 2) := by decide +kernel
theorem d_Ma_pull_154 : decode b_Ma_pull 154 = .ok (.if_icmp .lt 35, 3) := by decide +kernel
theorem d_Ma_pull_157 : decode b_Ma_pull 157 = .ok (.iload_n 1, 1) := by decide +kernel
theorem d_Ma_pull_158 : decode b_Ma_pull 158 = .ok (.bipush 24, 2) := by decide +kernel
theorem d_Ma_pull_160 : decode b_Ma_pull 160 = .ok (.if_icmp .ge 29, 3) := by decide +kernel
theorem d_Ma_pull_163 : decode b_Ma_pull 163 = .ok (.aload_n 0, 1) := by decide +kernel
theorem d_Ma_pull_164 : decode b_Ma_pull 164 = .ok (.iload_n 1, 1) := by decide +kernel
theorem d_Ma_pull_165 : decode b_Ma_pull 165 = .ok (.bipush 20, 2) := by decide +kernel
theorem d_Ma_pull_167 : decode b_Ma_pull 167 = .ok (.isub, 1) := by decide +kernel
theorem d_Ma_pull_168 : decode b_Ma_pull 168 = .ok (.aload_n 0, 1) := by decide +kernel
theorem d_Ma_pull_169 : decode b_Ma_pull 169 = .ok (.getfield 22, 3) := by decide +kernel
theorem d_Ma_pull_172 : decode b_Ma_pull 172 = .ok (.iconst 0, 1) := by decide +kernel
theorem d_Ma_pull_173 : decode b_Ma_pull 173 = .ok (.iaload, 1) := by decide +kernel
theorem d_Ma_pull_174 : decode b_Ma_pull 174 = .ok (.iload_n 2, 1) := by decide +kernel
theorem d_Ma_pull_175 : decode b_Ma_pull 175 = .ok (.if_icmp .ge 7, 3) := by decide +kernel
theorem d_Ma_pull_178 : decode b_Ma_pull 178 = .ok (.iconst 1, 1) := by decide +kernel
theorem d_Ma_pull_179 : decode b_Ma_pull 179 = .ok (.goto 4, 3) := by decide +kernel
theorem d_Ma_pull_182 : decode b_Ma_pull 182 = .ok (.iconst 0, 1) := by decide +kernel
theorem d_Ma_pull_183 : decode b_Ma_pull 183 = .ok (.invokevirtual 124, 3) := by decide +kernel
theorem d_Ma_pull_186 : decode b_Ma_pull 186 = .ok (.goto 36, 3) := by decide +kernel
theorem d_Ma_pull_189 : decode b_Ma_pull 189 = .ok (.iload_n 1, 1) := by decide +kernel
theorem d_Ma_pull_190 : decode b_Ma_pull 190 = .ok (.bipush 24, 2) := by decide +kernel
theorem d_Ma_pull_192 : decode b_Ma_pull 192 = .ok (.if_icmp .ne 19, 3) := by decide +kernel
theorem d_Ma_pull_195 : decode b_Ma_pull 195 = .ok (.aload_n 0, 1) := by decide +kernel
theorem d_Ma_pull_196 : decode b_Ma_pull 196 = .ok (.iconst 3, 1) := by decide +kernel
theorem d_Ma_pull_197 : decode b_Ma_pull 197 = .ok (.putfield 57, 3) := by decide +kernel
theorem d_Ma_pull_200 : decode b_Ma_pull 200 = .ok (.aload_n 0, 1) := by decide +kernel
theorem d_Ma_pull_201 : decode b_Ma_pull 201 = .ok (.iload_n 2, 1) := by decide +kernel
theorem d_Ma_pull_202 : decode b_Ma_pull 202 = .ok (.invokestatic 128, 3) := by decide +kernel
theorem d_Ma_pull_205 : decode b_Ma_pull 205 = .ok (.putfield 60, 3) := by decide +kernel
theorem d_Ma_pull_208 : decode b_Ma_pull 208 = .ok (.goto 14, 3) := by decide +kernel
theorem d_Ma_pull_211 : decode b_Ma_pull 211 = .ok (.iload_n 1, 1) := by decide +kernel
theorem d_Ma_pull_212 : decode b_Ma_pull 212 = .ok (.bipush 25, 2) := by decide +kernel
theorem d_Ma_pull_214 : decode b_Ma_pull 214 = .ok (.if_icmp .ne 8, 3) := by decide +kernel
theorem d_Ma_pull_217 : decode b_Ma_pull 217 = .ok (.aload_n 0, 1) := by decide +kernel
theorem d_Ma_pull_218 : decode b_Ma_pull 218 = .ok (.iconst 1, 1) := by decide +kernel
theorem d_Ma_pull_219 : decode b_Ma_pull 219 = .ok (.putfield 63, 3) := by decide +kernel
theorem d_Ma_pull_222 : decode b_Ma_pull 222 = .ok (.return_, 1) := by decide +kernel
abbrev w_lat_8_993e (g : GT) (a_lat : Nat) (a_co : Nat) (a_ta : Nat) (a_gu : Nat) (a_so : Nat) (a_cn : Nat) (a_de : Nat) (a_ma : Nat) (a_bu : Nat) (a_wo : Nat) (a_od : Nat) (a_rs : Nat) (a_ca : Nat) (a_cm : Nat) (r_lat : Nat → Int32) (r_co : Nat → Int32) (r_de : Nat → Int32) (r_ma : Nat → Int32) (r_wo : Nat → Int32) (r_od : Nat → Int32) (r_ca : Nat → Int32) (r_cm : Nat → Int32) : va_W := [kI g a_lat 3 r_lat, kO a_co 1 [.int (r_co 0), .ref a_ta, .ref a_gu, .ref a_so, .ref a_cn, .ref a_de], kI g a_de 256 r_de, kO a_ma 3 [.ref a_co, .ref a_lat, .ref a_bu, .ref a_wo, .ref a_od, .ref a_rs, .ref a_ca, .ref a_cm, .int (r_ma 8), .int (r_ma 9), .int (r_ma 10), .int (r_ma 11), .int (r_ma 12), .int (r_ma 13), .int (r_ma 14), .int (r_ma 15)], kI g a_wo 72 r_wo, kI g a_od 3 r_od, kI g a_ca 4 r_ca, kI g a_cm 12 r_cm]
abbrev b_Ma_pullTriggers : ByteArray := prog_5_method_10_code
abbrev y_Ma_pullTriggers : MethodName := ⟨"MoveDesk$Machine", "pullTriggers", "(I)V"⟩
theorem hd_Ma_pullTriggers : y_Ma_pullTriggers.cls = "MoveDesk$Machine" ∧ y_Ma_pullTriggers.cls ≠ "java/lang/invoke/MethodHandle" ∧ y_Ma_pullTriggers.cls ≠ "java/lang/invoke/VarHandle" ∧ (parseMethodDescriptor y_Ma_pullTriggers.desc).map (fun d => d.parameters.length) = some 1 := by decide +kernel
theorem d_Ma_pullTriggers_0 : decode b_Ma_pullTriggers 0 = .ok (.iconst 0, 1) := by decide +kernel
theorem d_Ma_pullTriggers_1 : decode b_Ma_pullTriggers 1 = .ok (.istore_n 2, 1) := by decide +kernel
theorem d_Ma_pullTriggers_2 : decode b_Ma_pullTriggers 2 = .ok (.iload_n 2, 1) := by decide +kernel
theorem d_Ma_pullTriggers_3 : decode b_Ma_pullTriggers 3 = .ok (.iconst 4, 1) := by decide +kernel
theorem d_Ma_pullTriggers_4 : decode b_Ma_pullTriggers 4 = .ok (.if_icmp .ge 39, 3) := by decide +kernel
theorem d_Ma_pullTriggers_7 : decode b_Ma_pullTriggers 7 = .ok (.iload_n 1, 1) := by decide +kernel
theorem d_Ma_pullTriggers_8 : decode b_Ma_pullTriggers 8 = .ok (.iload_n 2, 1) := by decide +kernel
theorem d_Ma_pullTriggers_9 : decode b_Ma_pullTriggers 9 = .ok (.invokestatic 97, 3) := by decide +kernel
theorem d_Ma_pullTriggers_12 : decode b_Ma_pullTriggers 12 = .ok (.ifCond .eq 25, 3) := by decide +kernel
theorem d_Ma_pullTriggers_15 : decode b_Ma_pullTriggers 15 = .ok (.aload_n 0, 1) := by decide +kernel
theorem d_Ma_pullTriggers_16 : decode b_Ma_pullTriggers 16 = .ok (.aload_n 0, 1) := by decide +kernel
theorem d_Ma_pullTriggers_17 : decode b_Ma_pullTriggers 17 = .ok (.getfield 34, 3) := by decide +kernel
theorem d_Ma_pullTriggers_20 : decode b_Ma_pullTriggers 20 = .ok (.aload_n 0, 1) := by decide +kernel
theorem d_Ma_pullTriggers_21 : decode b_Ma_pullTriggers 21 = .ok (.getfield 54, 3) := by decide +kernel
theorem d_Ma_pullTriggers_24 : decode b_Ma_pullTriggers 24 = .ok (.iload_n 2, 1) := by decide +kernel
theorem d_Ma_pullTriggers_25 : decode b_Ma_pullTriggers 25 = .ok (.invokevirtual 110, 3) := by decide +kernel
theorem d_Ma_pullTriggers_28 : decode b_Ma_pullTriggers 28 = .ok (.aload_n 0, 1) := by decide +kernel
theorem d_Ma_pullTriggers_29 : decode b_Ma_pullTriggers 29 = .ok (.getfield 28, 3) := by decide +kernel
theorem d_Ma_pullTriggers_32 : decode b_Ma_pullTriggers 32 = .ok (.iload_n 2, 1) := by decide +kernel
theorem d_Ma_pullTriggers_33 : decode b_Ma_pullTriggers 33 = .ok (.iaload, 1) := by decide +kernel
theorem d_Ma_pullTriggers_34 : decode b_Ma_pullTriggers 34 = .ok (.invokevirtual 113, 3) := by decide +kernel
theorem d_Ma_pullTriggers_37 : decode b_Ma_pullTriggers 37 = .ok (.iinc 2 1, 3) := by decide +kernel
theorem d_Ma_pullTriggers_40 : decode b_Ma_pullTriggers 40 = .ok (.goto (-38), 3) := by decide +kernel
theorem d_Ma_pullTriggers_43 : decode b_Ma_pullTriggers 43 = .ok (.return_, 1) := by decide +kernel
abbrev w_ma_rs_cm (g : GT) (a_lat : Nat) (a_co : Nat) (a_ma : Nat) (a_bu : Nat) (a_wo : Nat) (a_od : Nat) (a_rs : Nat) (a_ca : Nat) (a_cm : Nat) (r_ma : Nat → Int32) (r_rs : Nat → Int32) (r_cm : Nat → Int32) : va_W := [kO a_ma 3 [.ref a_co, .ref a_lat, .ref a_bu, .ref a_wo, .ref a_od, .ref a_rs, .ref a_ca, .ref a_cm, .int (r_ma 8), .int (r_ma 9), .int (r_ma 10), .int (r_ma 11), .int (r_ma 12), .int (r_ma 13), .int (r_ma 14), .int (r_ma 15)], kI g a_rs 3 r_rs, kI g a_cm 12 r_cm]
abbrev b_Ma_deliverResults : ByteArray := prog_5_method_14_code
abbrev y_Ma_deliverResults : MethodName := ⟨"MoveDesk$Machine", "deliverResults", "()V"⟩
theorem hd_Ma_deliverResults : y_Ma_deliverResults.cls = "MoveDesk$Machine" ∧ y_Ma_deliverResults.cls ≠ "java/lang/invoke/MethodHandle" ∧ y_Ma_deliverResults.cls ≠ "java/lang/invoke/VarHandle" ∧ (parseMethodDescriptor y_Ma_deliverResults.desc).map (fun d => d.parameters.length) = some 0 := by decide +kernel
theorem d_Ma_deliverResults_0 : decode b_Ma_deliverResults 0 = .ok (.iconst 0, 1) := by decide +kernel
theorem d_Ma_deliverResults_1 : decode b_Ma_deliverResults 1 = .ok (.istore_n 1, 1) := by decide +kernel
theorem d_Ma_deliverResults_2 : decode b_Ma_deliverResults 2 = .ok (.aload_n 0, 1) := by decide +kernel
theorem d_Ma_deliverResults_3 : decode b_Ma_deliverResults 3 = .ok (.getfield 41, 3) := by decide +kernel
theorem d_Ma_deliverResults_6 : decode b_Ma_deliverResults 6 = .ok (.ifCond .eq 72, 3) := by decide +kernel
theorem d_Ma_deliverResults_9 : decode b_Ma_deliverResults 9 = .ok (.iload_n 1, 1) := by decide +kernel
theorem d_Ma_deliverResults_10 : decode b_Ma_deliverResults 10 = .ok (.iconst 3, 1) := by decide +kernel
theorem d_Ma_deliverResults_11 : decode b_Ma_deliverResults 11 = .ok (.if_icmp .ge 67, 3) := by decide +kernel
theorem d_Ma_deliverResults_14 : decode b_Ma_deliverResults 14 = .ok (.iload_n 1, 1) := by decide +kernel
theorem d_Ma_deliverResults_15 : decode b_Ma_deliverResults 15 = .ok (.iconst 4, 1) := by decide +kernel
theorem d_Ma_deliverResults_16 : decode b_Ma_deliverResults 16 = .ok (.imul, 1) := by decide +kernel
theorem d_Ma_deliverResults_17 : decode b_Ma_deliverResults 17 = .ok (.aload_n 0, 1) := by decide +kernel
theorem d_Ma_deliverResults_18 : decode b_Ma_deliverResults 18 = .ok (.getfield 45, 3) := by decide +kernel
theorem d_Ma_deliverResults_21 : decode b_Ma_deliverResults 21 = .ok (.iadd, 1) := by decide +kernel
theorem d_Ma_deliverResults_22 : decode b_Ma_deliverResults 22 = .ok (.istore_n 2, 1) := by decide +kernel
theorem d_Ma_deliverResults_23 : decode b_Ma_deliverResults 23 = .ok (.aload_n 0, 1) := by decide +kernel
theorem d_Ma_deliverResults_24 : decode b_Ma_deliverResults 24 = .ok (.getfield 41, 3) := by decide +kernel
theorem d_Ma_deliverResults_27 : decode b_Ma_deliverResults 27 = .ok (.iload_n 2, 1) := by decide +kernel
theorem d_Ma_deliverResults_28 : decode b_Ma_deliverResults 28 = .ok (.ishr, 1) := by decide +kernel
theorem d_Ma_deliverResults_29 : decode b_Ma_deliverResults 29 = .ok (.iconst 1, 1) := by decide +kernel
theorem d_Ma_deliverResults_30 : decode b_Ma_deliverResults 30 = .ok (.iand, 1) := by decide +kernel
theorem d_Ma_deliverResults_31 : decode b_Ma_deliverResults 31 = .ok (.ifCond .eq 41, 3) := by decide +kernel
theorem d_Ma_deliverResults_34 : decode b_Ma_deliverResults 34 = .ok (.aload_n 0, 1) := by decide +kernel
theorem d_Ma_deliverResults_35 : decode b_Ma_deliverResults 35 = .ok (.dup, 1) := by decide +kernel
theorem d_Ma_deliverResults_36 : decode b_Ma_deliverResults 36 = .ok (.getfield 41, 3) := by decide +kernel
theorem d_Ma_deliverResults_39 : decode b_Ma_deliverResults 39 = .ok (.iconst 1, 1) := by decide +kernel
theorem d_Ma_deliverResults_40 : decode b_Ma_deliverResults 40 = .ok (.iload_n 2, 1) := by decide +kernel
theorem d_Ma_deliverResults_41 : decode b_Ma_deliverResults 41 = .ok (.ishl, 1) := by decide +kernel
theorem d_Ma_deliverResults_42 : decode b_Ma_deliverResults 42 = .ok (.iconst (-1), 1) := by decide +kernel
theorem d_Ma_deliverResults_43 : decode b_Ma_deliverResults 43 = .ok (.ixor, 1) := by decide +kernel
theorem d_Ma_deliverResults_44 : decode b_Ma_deliverResults 44 = .ok (.iand, 1) := by decide +kernel
theorem d_Ma_deliverResults_45 : decode b_Ma_deliverResults 45 = .ok (.putfield 41, 3) := by decide +kernel
theorem d_Ma_deliverResults_48 : decode b_Ma_deliverResults 48 = .ok (.aload_n 0, 1) := by decide +kernel
theorem d_Ma_deliverResults_49 : decode b_Ma_deliverResults 49 = .ok (.getfield 25, 3) := by decide +kernel
theorem d_Ma_deliverResults_52 : decode b_Ma_deliverResults 52 = .ok (.iload_n 1, 1) := by decide +kernel
theorem d_Ma_deliverResults_53 : decode b_Ma_deliverResults 53 = .ok (.aload_n 0, 1) := by decide +kernel
theorem d_Ma_deliverResults_54 : decode b_Ma_deliverResults 54 = .ok (.getfield 31, 3) := by decide +kernel
theorem d_Ma_deliverResults_57 : decode b_Ma_deliverResults 57 = .ok (.iload_n 2, 1) := by decide +kernel
theorem d_Ma_deliverResults_58 : decode b_Ma_deliverResults 58 = .ok (.iaload, 1) := by decide +kernel
theorem d_Ma_deliverResults_59 : decode b_Ma_deliverResults 59 = .ok (.iastore, 1) := by decide +kernel
theorem d_Ma_deliverResults_60 : decode b_Ma_deliverResults 60 = .ok (.aload_n 0, 1) := by decide +kernel
theorem d_Ma_deliverResults_61 : decode b_Ma_deliverResults 61 = .ok (.dup, 1) := by decide +kernel
theorem d_Ma_deliverResults_62 : decode b_Ma_deliverResults 62 = .ok (.getfield 48, 3) := by decide +kernel
theorem d_Ma_deliverResults_65 : decode b_Ma_deliverResults 65 = .ok (.iconst 1, 1) := by decide +kernel
theorem d_Ma_deliverResults_66 : decode b_Ma_deliverResults 66 = .ok (.iload_n 1, 1) := by decide +kernel
theorem d_Ma_deliverResults_67 : decode b_Ma_deliverResults 67 = .ok (.ishl, 1) := by decide +kernel
theorem d_Ma_deliverResults_68 : decode b_Ma_deliverResults 68 = .ok (.ior, 1) := by decide +kernel
theorem d_Ma_deliverResults_69 : decode b_Ma_deliverResults 69 = .ok (.putfield 48, 3) := by decide +kernel
theorem d_Ma_deliverResults_72 : decode b_Ma_deliverResults 72 = .ok (.iinc 1 1, 3) := by decide +kernel
theorem d_Ma_deliverResults_75 : decode b_Ma_deliverResults 75 = .ok (.goto (-73), 3) := by decide +kernel
theorem d_Ma_deliverResults_78 : decode b_Ma_deliverResults 78 = .ok (.aload_n 0, 1) := by decide +kernel
theorem d_Ma_deliverResults_79 : decode b_Ma_deliverResults 79 = .ok (.aload_n 0, 1) := by decide +kernel
theorem d_Ma_deliverResults_80 : decode b_Ma_deliverResults 80 = .ok (.getfield 45, 3) := by decide +kernel
theorem d_Ma_deliverResults_83 : decode b_Ma_deliverResults 83 = .ok (.iconst 1, 1) := by decide +kernel
theorem d_Ma_deliverResults_84 : decode b_Ma_deliverResults 84 = .ok (.iadd, 1) := by decide +kernel
theorem d_Ma_deliverResults_85 : decode b_Ma_deliverResults 85 = .ok (.iconst 4, 1) := by decide +kernel
theorem d_Ma_deliverResults_86 : decode b_Ma_deliverResults 86 = .ok (.irem, 1) := by decide +kernel
theorem d_Ma_deliverResults_87 : decode b_Ma_deliverResults 87 = .ok (.putfield 45, 3) := by decide +kernel
theorem d_Ma_deliverResults_90 : decode b_Ma_deliverResults 90 = .ok (.return_, 1) := by decide +kernel
abbrev b_Ma_stepOn : ByteArray := prog_5_method_15_code
abbrev y_Ma_stepOn : MethodName := ⟨"MoveDesk$Machine", "stepOn", "()V"⟩
theorem hd_Ma_stepOn : y_Ma_stepOn.cls = "MoveDesk$Machine" ∧ y_Ma_stepOn.cls ≠ "java/lang/invoke/MethodHandle" ∧ y_Ma_stepOn.cls ≠ "java/lang/invoke/VarHandle" ∧ (parseMethodDescriptor y_Ma_stepOn.desc).map (fun d => d.parameters.length) = some 0 := by decide +kernel
theorem d_Ma_stepOn_0 : decode b_Ma_stepOn 0 = .ok (.aload_n 0, 1) := by decide +kernel
theorem d_Ma_stepOn_1 : decode b_Ma_stepOn 1 = .ok (.aload_n 0, 1) := by decide +kernel
theorem d_Ma_stepOn_2 : decode b_Ma_stepOn 2 = .ok (.getfield 54, 3) := by decide +kernel
theorem d_Ma_stepOn_5 : decode b_Ma_stepOn 5 = .ok (.iconst 1, 1) := by decide +kernel
theorem d_Ma_stepOn_6 : decode b_Ma_stepOn 6 = .ok (.iadd, 1) := by decide +kernel
theorem d_Ma_stepOn_7 : decode b_Ma_stepOn 7 = .ok (.invokestatic 128, 3) := by decide +kernel
theorem d_Ma_stepOn_10 : decode b_Ma_stepOn 10 = .ok (.putfield 54, 3) := by decide +kernel
theorem d_Ma_stepOn_13 : decode b_Ma_stepOn 13 = .ok (.aload_n 0, 1) := by decide +kernel
theorem d_Ma_stepOn_14 : decode b_Ma_stepOn 14 = .ok (.getfield 57, 3) := by decide +kernel
theorem d_Ma_stepOn_17 : decode b_Ma_stepOn 17 = .ok (.ifCond .le 28, 3) := by decide +kernel
theorem d_Ma_stepOn_20 : decode b_Ma_stepOn 20 = .ok (.aload_n 0, 1) := by decide +kernel
theorem d_Ma_stepOn_21 : decode b_Ma_stepOn 21 = .ok (.dup, 1) := by decide +kernel
theorem d_Ma_stepOn_22 : decode b_Ma_stepOn 22 = .ok (.getfield 57, 3) := by decide +kernel
theorem d_Ma_stepOn_25 : decode b_Ma_stepOn 25 = .ok (.iconst 1, 1) := by decide +kernel
theorem d_Ma_stepOn_26 : decode b_Ma_stepOn 26 = .ok (.isub, 1) := by decide +kernel
theorem d_Ma_stepOn_27 : decode b_Ma_stepOn 27 = .ok (.putfield 57, 3) := by decide +kernel
theorem d_Ma_stepOn_30 : decode b_Ma_stepOn 30 = .ok (.aload_n 0, 1) := by decide +kernel
theorem d_Ma_stepOn_31 : decode b_Ma_stepOn 31 = .ok (.getfield 57, 3) := by decide +kernel
theorem d_Ma_stepOn_34 : decode b_Ma_stepOn 34 = .ok (.ifCond .ne 11, 3) := by decide +kernel
theorem d_Ma_stepOn_37 : decode b_Ma_stepOn 37 = .ok (.aload_n 0, 1) := by decide +kernel
theorem d_Ma_stepOn_38 : decode b_Ma_stepOn 38 = .ok (.aload_n 0, 1) := by decide +kernel
theorem d_Ma_stepOn_39 : decode b_Ma_stepOn 39 = .ok (.getfield 60, 3) := by decide +kernel
theorem d_Ma_stepOn_42 : decode b_Ma_stepOn 42 = .ok (.putfield 54, 3) := by decide +kernel
theorem d_Ma_stepOn_45 : decode b_Ma_stepOn 45 = .ok (.return_, 1) := by decide +kernel
abbrev w_lat_14_445d (g : GT) (a_lat : Nat) (a_co : Nat) (a_ta : Nat) (a_gu : Nat) (a_so : Nat) (a_cn : Nat) (a_de : Nat) (a_ma : Nat) (a_bu : Nat) (a_wo : Nat) (a_od : Nat) (a_rs : Nat) (a_ca : Nat) (a_cm : Nat) (r_lat : Nat → Int32) (r_co : Nat → Int32) (r_ta : Nat → Int32) (r_gu : Nat → Int32) (r_so : Nat → Int32) (r_cn : Nat → Int32) (r_de : Nat → Int32) (r_ma : Nat → Int32) (r_bu : Nat → Int32) (r_wo : Nat → Int32) (r_od : Nat → Int32) (r_rs : Nat → Int32) (r_ca : Nat → Int32) (r_cm : Nat → Int32) : va_W := [kI g a_lat 3 r_lat, kO a_co 1 [.int (r_co 0), .ref a_ta, .ref a_gu, .ref a_so, .ref a_cn, .ref a_de], kI g a_ta 64 r_ta, kI g a_gu 256 r_gu, kI g a_so 256 r_so, kI g a_cn 256 r_cn, kI g a_de 256 r_de, kO a_ma 3 [.ref a_co, .ref a_lat, .ref a_bu, .ref a_wo, .ref a_od, .ref a_rs, .ref a_ca, .ref a_cm, .int (r_ma 8), .int (r_ma 9), .int (r_ma 10), .int (r_ma 11), .int (r_ma 12), .int (r_ma 13), .int (r_ma 14), .int (r_ma 15)], kO a_bu 0 [.int (r_bu 0), .int (r_bu 1), .int (r_bu 2), .int (r_bu 3), .int (r_bu 4), .int (r_bu 5), .int (r_bu 6), .int (r_bu 7)], kI g a_wo 72 r_wo, kI g a_od 3 r_od, kI g a_rs 3 r_rs, kI g a_ca 4 r_ca, kI g a_cm 12 r_cm]
abbrev b_Ma_tryCycle : ByteArray := prog_5_method_5_code
abbrev y_Ma_tryCycle : MethodName := ⟨"MoveDesk$Machine", "tryCycle", "()I"⟩
theorem hd_Ma_tryCycle : y_Ma_tryCycle.cls = "MoveDesk$Machine" ∧ y_Ma_tryCycle.cls ≠ "java/lang/invoke/MethodHandle" ∧ y_Ma_tryCycle.cls ≠ "java/lang/invoke/VarHandle" ∧ (parseMethodDescriptor y_Ma_tryCycle.desc).map (fun d => d.parameters.length) = some 0 := by decide +kernel
theorem d_Ma_tryCycle_0 : decode b_Ma_tryCycle 0 = .ok (.aload_n 0, 1) := by decide +kernel
theorem d_Ma_tryCycle_1 : decode b_Ma_tryCycle 1 = .ok (.getfield 34, 3) := by decide +kernel
theorem d_Ma_tryCycle_4 : decode b_Ma_tryCycle 4 = .ok (.aload_n 0, 1) := by decide +kernel
theorem d_Ma_tryCycle_5 : decode b_Ma_tryCycle 5 = .ok (.getfield 54, 3) := by decide +kernel
theorem d_Ma_tryCycle_8 : decode b_Ma_tryCycle 8 = .ok (.aload_n 0, 1) := by decide +kernel
theorem d_Ma_tryCycle_9 : decode b_Ma_tryCycle 9 = .ok (.getfield 51, 3) := by decide +kernel
theorem d_Ma_tryCycle_12 : decode b_Ma_tryCycle 12 = .ok (.invokevirtual 67, 3) := by decide +kernel
theorem d_Ma_tryCycle_15 : decode b_Ma_tryCycle 15 = .ok (.istore_n 1, 1) := by decide +kernel
theorem d_Ma_tryCycle_16 : decode b_Ma_tryCycle 16 = .ok (.iload_n 1, 1) := by decide +kernel
theorem d_Ma_tryCycle_17 : decode b_Ma_tryCycle 17 = .ok (.ifCond .eq 64, 3) := by decide +kernel
theorem d_Ma_tryCycle_20 : decode b_Ma_tryCycle 20 = .ok (.aload_n 0, 1) := by decide +kernel
theorem d_Ma_tryCycle_21 : decode b_Ma_tryCycle 21 = .ok (.getfield 12, 3) := by decide +kernel
theorem d_Ma_tryCycle_24 : decode b_Ma_tryCycle 24 = .ok (.aload_n 0, 1) := by decide +kernel
theorem d_Ma_tryCycle_25 : decode b_Ma_tryCycle 25 = .ok (.getfield 34, 3) := by decide +kernel
theorem d_Ma_tryCycle_28 : decode b_Ma_tryCycle 28 = .ok (.aload_n 0, 1) := by decide +kernel
theorem d_Ma_tryCycle_29 : decode b_Ma_tryCycle 29 = .ok (.getfield 54, 3) := by decide +kernel
theorem d_Ma_tryCycle_32 : decode b_Ma_tryCycle 32 = .ok (.iload_n 1, 1) := by decide +kernel
theorem d_Ma_tryCycle_33 : decode b_Ma_tryCycle 33 = .ok (.invokevirtual 73, 3) := by decide +kernel
theorem d_Ma_tryCycle_36 : decode b_Ma_tryCycle 36 = .ok (.aload_n 0, 1) := by decide +kernel
theorem d_Ma_tryCycle_37 : decode b_Ma_tryCycle 37 = .ok (.getfield 12, 3) := by decide +kernel
theorem d_Ma_tryCycle_40 : decode b_Ma_tryCycle 40 = .ok (.aload_n 0, 1) := by decide +kernel
theorem d_Ma_tryCycle_41 : decode b_Ma_tryCycle 41 = .ok (.getfield 48, 3) := by decide +kernel
theorem d_Ma_tryCycle_44 : decode b_Ma_tryCycle 44 = .ok (.aload_n 0, 1) := by decide +kernel
theorem d_Ma_tryCycle_45 : decode b_Ma_tryCycle 45 = .ok (.getfield 57, 3) := by decide +kernel
theorem d_Ma_tryCycle_48 : decode b_Ma_tryCycle 48 = .ok (.ifCond .le 7, 3) := by decide +kernel
theorem d_Ma_tryCycle_51 : decode b_Ma_tryCycle 51 = .ok (.iconst 1, 1) := by decide +kernel
theorem d_Ma_tryCycle_52 : decode b_Ma_tryCycle 52 = .ok (.goto 4, 3) := by decide +kernel
theorem d_Ma_tryCycle_55 : decode b_Ma_tryCycle 55 = .ok (.iconst 0, 1) := by decide +kernel
theorem d_Ma_tryCycle_56 : decode b_Ma_tryCycle 56 = .ok (.invokevirtual 77, 3) := by decide +kernel
theorem d_Ma_tryCycle_59 : decode b_Ma_tryCycle 59 = .ok (.istore_n 2, 1) := by decide +kernel
theorem d_Ma_tryCycle_60 : decode b_Ma_tryCycle 60 = .ok (.iload_n 2, 1) := by decide +kernel
theorem d_Ma_tryCycle_61 : decode b_Ma_tryCycle 61 = .ok (.ifCond .eq 5, 3) := by decide +kernel
theorem d_Ma_tryCycle_64 : decode b_Ma_tryCycle 64 = .ok (.iload_n 2, 1) := by decide +kernel
theorem d_Ma_tryCycle_65 : decode b_Ma_tryCycle 65 = .ok (.ireturn, 1) := by decide +kernel
theorem d_Ma_tryCycle_66 : decode b_Ma_tryCycle 66 = .ok (.aload_n 0, 1) := by decide +kernel
theorem d_Ma_tryCycle_67 : decode b_Ma_tryCycle 67 = .ok (.iload_n 1, 1) := by decide +kernel
theorem d_Ma_tryCycle_68 : decode b_Ma_tryCycle 68 = .ok (.invokevirtual 81, 3) := by decide +kernel
theorem d_Ma_tryCycle_71 : decode b_Ma_tryCycle 71 = .ok (.aload_n 0, 1) := by decide +kernel
theorem d_Ma_tryCycle_72 : decode b_Ma_tryCycle 72 = .ok (.iload_n 1, 1) := by decide +kernel
theorem d_Ma_tryCycle_73 : decode b_Ma_tryCycle 73 = .ok (.invokevirtual 85, 3) := by decide +kernel
theorem d_Ma_tryCycle_76 : decode b_Ma_tryCycle 76 = .ok (.aload_n 0, 1) := by decide +kernel
theorem d_Ma_tryCycle_77 : decode b_Ma_tryCycle 77 = .ok (.iload_n 1, 1) := by decide +kernel
theorem d_Ma_tryCycle_78 : decode b_Ma_tryCycle 78 = .ok (.invokevirtual 88, 3) := by decide +kernel
theorem d_Ma_tryCycle_81 : decode b_Ma_tryCycle 81 = .ok (.aload_n 0, 1) := by decide +kernel
theorem d_Ma_tryCycle_82 : decode b_Ma_tryCycle 82 = .ok (.invokevirtual 91, 3) := by decide +kernel
theorem d_Ma_tryCycle_85 : decode b_Ma_tryCycle 85 = .ok (.aload_n 0, 1) := by decide +kernel
theorem d_Ma_tryCycle_86 : decode b_Ma_tryCycle 86 = .ok (.invokevirtual 94, 3) := by decide +kernel
theorem d_Ma_tryCycle_89 : decode b_Ma_tryCycle 89 = .ok (.iconst 0, 1) := by decide +kernel
theorem d_Ma_tryCycle_90 : decode b_Ma_tryCycle 90 = .ok (.ireturn, 1) := by decide +kernel
def f_Ma_restart_2 : Nat → (Nat → Int32) → (Nat → Int32) → (Nat → Int32) → Int32 → Option ((Nat → Int32) × (Nat → Int32) × (Nat → Int32))
  | 0, _, _, _, _ => none
  | n + 1, r_ma, r_od, r_rs, v1 =>
    if (3 : Int32) ≤ v1 then
      some (upd (upd (upd (upd (upd (upd (upd (upd r_ma 8 0) 9 0) 10 0) 11 0) 12 0) 13 0) 14 0) 15 0, r_od, r_rs)
    else
      ck v1 3 <|
      ck v1 3 <|
      nm (v1 + 1) fun x4 =>
      f_Ma_restart_2 n r_ma (upd r_od v1.toNatClampNeg (0 : Int32)) (upd r_rs v1.toNatClampNeg (0 : Int32)) x4
def f_Ma_restart (r_ma : Nat → Int32) (r_od : Nat → Int32) (r_rs : Nat → Int32)  : Option ((Nat → Int32) × (Nat → Int32) × (Nat → Int32)) :=
  f_Ma_restart_2 5000 r_ma r_od r_rs 0
def f_Ma_isHalted (r_ma : Nat → Int32)  : Option (Int32) :=
  bk (r_ma 15) <|
  some ((r_ma 15))
def f_Ma_show_116 (r_ma : Nat → Int32) (r_od : Nat → Int32) (r_rs : Nat → Int32) (v1 : Int32) : Option (Int32) :=
  if v1 = (15 : Int32) then
    some ((r_ma 13))
  else
    some (0)
def f_Ma_show_94 (r_ma : Nat → Int32) (r_od : Nat → Int32) (r_rs : Nat → Int32) (v1 : Int32) : Option (Int32) :=
  if v1 < (12 : Int32) then
    f_Ma_show_116 r_ma r_od r_rs v1
  else
    if (14 : Int32) < v1 then
      f_Ma_show_116 r_ma r_od r_rs v1
    else
      ck (v1 - (12 : Int32)) 3 <|
      some (r_rs (v1 - (12 : Int32)).toNatClampNeg)
def f_Ma_show_70 (r_ma : Nat → Int32) (r_od : Nat → Int32) (r_rs : Nat → Int32) (v1 : Int32) : Option (Int32) :=
  if v1 < (9 : Int32) then
    f_Ma_show_94 r_ma r_od r_rs v1
  else
    if (11 : Int32) < v1 then
      f_Ma_show_94 r_ma r_od r_rs v1
    else
      some (((r_ma 10) >>> ((v1 - (9 : Int32)) &&& 31)) &&& (1 : Int32))
def f_Ma_show_48 (r_ma : Nat → Int32) (r_od : Nat → Int32) (r_rs : Nat → Int32) (v1 : Int32) : Option (Int32) :=
  if v1 < (6 : Int32) then
    f_Ma_show_70 r_ma r_od r_rs v1
  else
    if (8 : Int32) < v1 then
      f_Ma_show_70 r_ma r_od r_rs v1
    else
      ck (v1 - (6 : Int32)) 3 <|
      some (r_od (v1 - (6 : Int32)).toNatClampNeg)
def f_Ma_show (r_ma : Nat → Int32) (r_od : Nat → Int32) (r_rs : Nat → Int32) (v1 : Int32) : Option (Int32) :=
  if v1 = 0 then
    some ((r_ma 12))
  else
    if v1 = (1 : Int32) then
      if (r_ma 15) = 0 then
        some (0)
      else
        some (1)
    else
      if v1 < (2 : Int32) then
        f_Ma_show_48 r_ma r_od r_rs v1
      else
        if (5 : Int32) < v1 then
          f_Ma_show_48 r_ma r_od r_rs v1
        else
          some (((r_ma 11) >>> ((v1 - (2 : Int32)) &&& 31)) &&& (1 : Int32))
def f_Ma_has  (v0 : Int32) (v1 : Int32) : Option (Int32) :=
  if (v0 >>> (v1 &&& 31)) &&& (1 : Int32) = 0 then
    some (0)
  else
    some (1)
def f_Ma_valueOf (r_ma : Nat → Int32) (r_wo : Nat → Int32) (r_rs : Nat → Int32) (v1 : Int32) (v2 : Int32) : Option (Int32) :=
  if (8 : Int32) ≤ v1 then
    if (11 : Int32) ≤ v1 then
      some (v2)
    else
      ck (v1 - (8 : Int32)) 3 <|
      some (r_rs (v1 - (8 : Int32)).toNatClampNeg)
  else
    ck v1 72 <|
    some (r_wo v1.toNatClampNeg)
def f_Ma_readSources_49 (rec_2 : (Nat → Int32) → (Nat → Int32) → (Nat → Int32) → (Nat → Int32) → (Nat → Int32) → (Nat → Int32) → (Nat → Int32) → Int32 → Int32 → Option ((Nat → Int32))) (r_co : Nat → Int32) (r_so : Nat → Int32) (r_cn : Nat → Int32) (r_ma : Nat → Int32) (r_wo : Nat → Int32) (r_rs : Nat → Int32) (r_ca : Nat → Int32) (v1 : Int32) (v2 : Int32) : Option ((Nat → Int32)) :=
  nm (v2 + 1) fun x1 =>
  rec_2 r_co r_so r_cn r_ma r_wo r_rs r_ca v1 x1
def f_Ma_readSources_2 : Nat → (Nat → Int32) → (Nat → Int32) → (Nat → Int32) → (Nat → Int32) → (Nat → Int32) → (Nat → Int32) → (Nat → Int32) → Int32 → Int32 → Option ((Nat → Int32))
  | 0, _, _, _, _, _, _, _, _, _ => none
  | n + 1, r_co, r_so, r_cn, r_ma, r_wo, r_rs, r_ca, v1, v2 =>
    if (4 : Int32) ≤ v2 then
      some (r_ca)
    else
      (f_Ma_has v1 v2).bind fun y2 =>
      if y2 = 0 then
        f_Ma_readSources_49 (f_Ma_readSources_2 n) r_co r_so r_cn r_ma r_wo r_rs r_ca v1 v2
      else
        (f_Co_source r_co r_so (r_ma 12) v2).bind fun y4 =>
        (f_Co_constant r_co r_cn (r_ma 12) v2).bind fun y5 =>
        (f_Ma_valueOf r_ma r_wo r_rs y4 y5).bind fun y6 =>
        ck v2 4 <|
        f_Ma_readSources_49 (f_Ma_readSources_2 n) r_co r_so r_cn r_ma r_wo r_rs (upd r_ca v2.toNatClampNeg y6) v1 v2
def f_Ma_readSources (r_co : Nat → Int32) (r_so : Nat → Int32) (r_cn : Nat → Int32) (r_ma : Nat → Int32) (r_wo : Nat → Int32) (r_rs : Nat → Int32) (r_ca : Nat → Int32) (v1 : Int32) : Option ((Nat → Int32)) :=
  f_Ma_readSources_2 5000 r_co r_so r_cn r_ma r_wo r_rs r_ca v1 0
def f_Ma_writePlaces_75 (rec_2 : (Nat → Int32) → (Nat → Int32) → (Nat → Int32) → (Nat → Int32) → (Nat → Int32) → (Nat → Int32) → Int32 → Int32 → Option ((Nat → Int32) × (Nat → Int32))) (r_co : Nat → Int32) (r_de : Nat → Int32) (r_ma : Nat → Int32) (r_wo : Nat → Int32) (r_od : Nat → Int32) (r_ca : Nat → Int32) (v1 : Int32) (v2 : Int32) : Option ((Nat → Int32) × (Nat → Int32)) :=
  nm (v2 + 1) fun x1 =>
  rec_2 r_co r_de r_ma r_wo r_od r_ca v1 x1
def f_Ma_writePlaces_33 (rec_2 : (Nat → Int32) → (Nat → Int32) → (Nat → Int32) → (Nat → Int32) → (Nat → Int32) → (Nat → Int32) → Int32 → Int32 → Option ((Nat → Int32) × (Nat → Int32))) (r_co : Nat → Int32) (r_de : Nat → Int32) (r_ma : Nat → Int32) (r_wo : Nat → Int32) (r_od : Nat → Int32) (r_ca : Nat → Int32) (v1 : Int32) (v2 : Int32) (v3 : Int32) : Option ((Nat → Int32) × (Nat → Int32)) :=
  if (8 : Int32) ≤ v3 then
    if (11 : Int32) ≤ v3 then
      f_Ma_writePlaces_75 rec_2 r_co r_de r_ma r_wo r_od r_ca v1 v2
    else
      ck v2 4 <|
      ck (v3 - (8 : Int32)) 3 <|
      f_Ma_writePlaces_75 rec_2 r_co r_de r_ma r_wo (upd r_od (v3 - (8 : Int32)).toNatClampNeg (r_ca v2.toNatClampNeg)) r_ca v1 v2
  else
    ck v2 4 <|
    ck v3 72 <|
    f_Ma_writePlaces_75 rec_2 r_co r_de r_ma (upd r_wo v3.toNatClampNeg (r_ca v2.toNatClampNeg)) r_od r_ca v1 v2
def f_Ma_writePlaces_2 : Nat → (Nat → Int32) → (Nat → Int32) → (Nat → Int32) → (Nat → Int32) → (Nat → Int32) → (Nat → Int32) → Int32 → Int32 → Option ((Nat → Int32) × (Nat → Int32))
  | 0, _, _, _, _, _, _, _, _ => none
  | n + 1, r_co, r_de, r_ma, r_wo, r_od, r_ca, v1, v2 =>
    if (4 : Int32) ≤ v2 then
      some (r_wo, r_od)
    else
      (f_Ma_has v1 v2).bind fun y2 =>
      if y2 = 0 then
        f_Ma_writePlaces_33 (f_Ma_writePlaces_2 n) r_co r_de r_ma r_wo r_od r_ca v1 v2 11
      else
        (f_Co_destination r_co r_de (r_ma 12) v2).bind fun y4 =>
        f_Ma_writePlaces_33 (f_Ma_writePlaces_2 n) r_co r_de r_ma r_wo r_od r_ca v1 v2 y4
def f_Ma_writePlaces (r_co : Nat → Int32) (r_de : Nat → Int32) (r_ma : Nat → Int32) (r_wo : Nat → Int32) (r_od : Nat → Int32) (r_ca : Nat → Int32) (v1 : Int32) : Option ((Nat → Int32) × (Nat → Int32)) :=
  f_Ma_writePlaces_2 5000 r_co r_de r_ma r_wo r_od r_ca v1 0
def f_Ma_begin (r_lat : Nat → Int32) (r_ma : Nat → Int32) (r_cm : Nat → Int32) (v1 : Int32) (v2 : Int32) : Option ((Nat → Int32) × (Nat → Int32)) :=
  ck v1 3 <|
  nm ((v1 * (4 : Int32)) + ((((r_ma 9) + (r_lat v1.toNatClampNeg)) - (1 : Int32)) - (((r_ma 9) + (r_lat v1.toNatClampNeg)) - (1 : Int32)) / (4 : Int32) * (4 : Int32)) : Int32) fun x2 =>
  ck x2 12 <|
  nm ((r_ma 8) ||| ((1 : Int32) <<< (x2 &&& 31)) : Int32) fun x4 =>
  some (upd r_ma 8 x4, upd r_cm x2.toNatClampNeg v2)
def f_Ma_setGuard (r_ma : Nat → Int32) (v1 : Int32) (v2 : Int32) : Option ((Nat → Int32)) :=
  if v2 = 0 then
    nm ((r_ma 11) &&& (((1 : Int32) <<< (v1 &&& 31)) ^^^ (-1 : Int32)) : Int32) fun x2 =>
    some (upd r_ma 11 x2)
  else
    nm ((r_ma 11) ||| ((1 : Int32) <<< (v1 &&& 31)) : Int32) fun x3 =>
    some (upd r_ma 11 x3)
def f_Ma_pull_189 (r_lat : Nat → Int32) (r_ma : Nat → Int32) (r_wo : Nat → Int32) (r_od : Nat → Int32) (r_cm : Nat → Int32) (v1 : Int32) (v2 : Int32) : Option ((Nat → Int32) × (Nat → Int32) × (Nat → Int32)) :=
  if v1 = (24 : Int32) then
    (f_Md_wrapCycle v2).bind fun y3 =>
    some (upd (upd r_ma 13 3) 14 y3, r_wo, r_cm)
  else
    if v1 = (25 : Int32) then
      some (upd r_ma 15 1, r_wo, r_cm)
    else
      some (r_ma, r_wo, r_cm)
def f_Ma_pull_151 (r_lat : Nat → Int32) (r_ma : Nat → Int32) (r_wo : Nat → Int32) (r_od : Nat → Int32) (r_cm : Nat → Int32) (v1 : Int32) (v2 : Int32) : Option ((Nat → Int32) × (Nat → Int32) × (Nat → Int32)) :=
  if v1 < (20 : Int32) then
    f_Ma_pull_189 r_lat r_ma r_wo r_od r_cm v1 v2
  else
    if (24 : Int32) ≤ v1 then
      f_Ma_pull_189 r_lat r_ma r_wo r_od r_cm v1 v2
    else
      ck 0 3 <|
      if v2 ≤ r_od (0 : Int32).toNatClampNeg then
        (f_Ma_setGuard r_ma (v1 - (20 : Int32)) (0 : Int32)).bind fun y5 =>
        some (y5, r_wo, r_cm)
      else
        (f_Ma_setGuard r_ma (v1 - (20 : Int32)) (1 : Int32)).bind fun y6 =>
        some (y6, r_wo, r_cm)
def f_Ma_pull (r_lat : Nat → Int32) (r_ma : Nat → Int32) (r_wo : Nat → Int32) (r_od : Nat → Int32) (r_cm : Nat → Int32) (v1 : Int32) (v2 : Int32) : Option ((Nat → Int32) × (Nat → Int32) × (Nat → Int32)) :=
  if v1 = (11 : Int32) then
    ck 0 3 <|
    (f_Ma_begin r_lat r_ma r_cm (0 : Int32) ((r_od (0 : Int32).toNatClampNeg) + v2)).bind fun y23 =>
    some (y23.1, r_wo, y23.2)
  else
    if v1 = (12 : Int32) then
      ck 0 3 <|
      (f_Ma_begin r_lat r_ma r_cm (0 : Int32) ((r_od (0 : Int32).toNatClampNeg) - v2)).bind fun y21 =>
      some (y21.1, r_wo, y21.2)
    else
      if v1 = (13 : Int32) then
        ck 1 3 <|
        (f_Ma_begin r_lat r_ma r_cm (1 : Int32) ((r_od (1 : Int32).toNatClampNeg) * v2)).bind fun y19 =>
        some (y19.1, r_wo, y19.2)
      else
        if v1 = (14 : Int32) then
          (f_Md_memoryPlace v2).bind fun y15 =>
          ck y15 72 <|
          (f_Ma_begin r_lat r_ma r_cm (2 : Int32) (r_wo y15.toNatClampNeg)).bind fun y17 =>
          some (y17.1, r_wo, y17.2)
        else
          if v1 = (15 : Int32) then
            ck 2 3 <|
            (f_Md_memoryPlace (r_od (2 : Int32).toNatClampNeg)).bind fun y13 =>
            ck y13 72 <|
            some (r_ma, upd r_wo y13.toNatClampNeg v2, r_cm)
          else
            if v1 < (16 : Int32) then
              f_Ma_pull_151 r_lat r_ma r_wo r_od r_cm v1 v2
            else
              if (20 : Int32) ≤ v1 then
                f_Ma_pull_151 r_lat r_ma r_wo r_od r_cm v1 v2
              else
                ck 0 3 <|
                if r_od (0 : Int32).toNatClampNeg = v2 then
                  (f_Ma_setGuard r_ma (v1 - (16 : Int32)) (1 : Int32)).bind fun y11 =>
                  some (y11, r_wo, r_cm)
                else
                  (f_Ma_setGuard r_ma (v1 - (16 : Int32)) (0 : Int32)).bind fun y10 =>
                  some (y10, r_wo, r_cm)
def f_Ma_pullTriggers_37 (rec_2 : (Nat → Int32) → (Nat → Int32) → (Nat → Int32) → (Nat → Int32) → (Nat → Int32) → (Nat → Int32) → (Nat → Int32) → (Nat → Int32) → Int32 → Int32 → Option ((Nat → Int32) × (Nat → Int32) × (Nat → Int32))) (r_lat : Nat → Int32) (r_co : Nat → Int32) (r_de : Nat → Int32) (r_ma : Nat → Int32) (r_wo : Nat → Int32) (r_od : Nat → Int32) (r_ca : Nat → Int32) (r_cm : Nat → Int32) (v1 : Int32) (v2 : Int32) : Option ((Nat → Int32) × (Nat → Int32) × (Nat → Int32)) :=
  nm (v2 + 1) fun x1 =>
  rec_2 r_lat r_co r_de r_ma r_wo r_od r_ca r_cm v1 x1
def f_Ma_pullTriggers_2 : Nat → (Nat → Int32) → (Nat → Int32) → (Nat → Int32) → (Nat → Int32) → (Nat → Int32) → (Nat → Int32) → (Nat → Int32) → (Nat → Int32) → Int32 → Int32 → Option ((Nat → Int32) × (Nat → Int32) × (Nat → Int32))
  | 0, _, _, _, _, _, _, _, _, _, _ => none
  | n + 1, r_lat, r_co, r_de, r_ma, r_wo, r_od, r_ca, r_cm, v1, v2 =>
    if (4 : Int32) ≤ v2 then
      some (r_ma, r_wo, r_cm)
    else
      (f_Ma_has v1 v2).bind fun y2 =>
      if y2 = 0 then
        f_Ma_pullTriggers_37 (f_Ma_pullTriggers_2 n) r_lat r_co r_de r_ma r_wo r_od r_ca r_cm v1 v2
      else
        (f_Co_destination r_co r_de (r_ma 12) v2).bind fun y4 =>
        ck v2 4 <|
        (f_Ma_pull r_lat r_ma r_wo r_od r_cm y4 (r_ca v2.toNatClampNeg)).bind fun y6 =>
        f_Ma_pullTriggers_37 (f_Ma_pullTriggers_2 n) r_lat r_co r_de y6.1 y6.2.1 r_od r_ca y6.2.2 v1 v2
def f_Ma_pullTriggers (r_lat : Nat → Int32) (r_co : Nat → Int32) (r_de : Nat → Int32) (r_ma : Nat → Int32) (r_wo : Nat → Int32) (r_od : Nat → Int32) (r_ca : Nat → Int32) (r_cm : Nat → Int32) (v1 : Int32) : Option ((Nat → Int32) × (Nat → Int32) × (Nat → Int32)) :=
  f_Ma_pullTriggers_2 5000 r_lat r_co r_de r_ma r_wo r_od r_ca r_cm v1 0
def f_Ma_deliverResults_72 (rec_2 : (Nat → Int32) → (Nat → Int32) → (Nat → Int32) → Int32 → Option ((Nat → Int32) × (Nat → Int32))) (r_ma : Nat → Int32) (r_rs : Nat → Int32) (r_cm : Nat → Int32) (v1 : Int32) : Option ((Nat → Int32) × (Nat → Int32)) :=
  nm (v1 + 1) fun x1 =>
  rec_2 r_ma r_rs r_cm x1
def f_Ma_deliverResults_78 (r_ma : Nat → Int32) (r_rs : Nat → Int32) (r_cm : Nat → Int32)  : Option ((Nat → Int32) × (Nat → Int32)) :=
  nm (((r_ma 9) + (1 : Int32)) - ((r_ma 9) + (1 : Int32)) / (4 : Int32) * (4 : Int32) : Int32) fun x1 =>
  some (upd r_ma 9 x1, r_rs)
def f_Ma_deliverResults_2 : Nat → (Nat → Int32) → (Nat → Int32) → (Nat → Int32) → Int32 → Option ((Nat → Int32) × (Nat → Int32))
  | 0, _, _, _, _ => none
  | n + 1, r_ma, r_rs, r_cm, v1 =>
    if (r_ma 8) = 0 then
      f_Ma_deliverResults_78 r_ma r_rs r_cm
    else
      if (3 : Int32) ≤ v1 then
        f_Ma_deliverResults_78 r_ma r_rs r_cm
      else
        nm ((v1 * (4 : Int32)) + (r_ma 9) : Int32) fun x3 =>
        if ((r_ma 8) >>> (x3 &&& 31)) &&& (1 : Int32) = 0 then
          f_Ma_deliverResults_72 (f_Ma_deliverResults_2 n) r_ma r_rs r_cm v1
        else
          nm ((r_ma 8) &&& (((1 : Int32) <<< (x3 &&& 31)) ^^^ (-1 : Int32)) : Int32) fun x5 =>
          ck x3 12 <|
          ck v1 3 <|
          nm ((r_ma 10) ||| ((1 : Int32) <<< (v1 &&& 31)) : Int32) fun x8 =>
          f_Ma_deliverResults_72 (f_Ma_deliverResults_2 n) (upd (upd r_ma 8 x5) 10 x8) (upd r_rs v1.toNatClampNeg (r_cm x3.toNatClampNeg)) r_cm v1
def f_Ma_deliverResults (r_ma : Nat → Int32) (r_rs : Nat → Int32) (r_cm : Nat → Int32)  : Option ((Nat → Int32) × (Nat → Int32)) :=
  f_Ma_deliverResults_2 5000 r_ma r_rs r_cm 0
def f_Ma_stepOn (r_ma : Nat → Int32)  : Option ((Nat → Int32)) :=
  (f_Md_wrapCycle ((r_ma 12) + (1 : Int32))).bind fun y1 =>
  if (r_ma 13) ≤ 0 then
    some (upd r_ma 12 y1)
  else
    nm ((r_ma 13) - (1 : Int32) : Int32) fun x3 =>
    if x3 = 0 then
      nm ((r_ma 14) : Int32) fun x5 =>
      some (upd (upd (upd r_ma 12 y1) 13 x3) 12 x5)
    else
      some (upd (upd r_ma 12 y1) 13 x3)
def f_Ma_tryCycle_81 (r_lat : Nat → Int32) (r_co : Nat → Int32) (r_ta : Nat → Int32) (r_gu : Nat → Int32) (r_so : Nat → Int32) (r_cn : Nat → Int32) (r_de : Nat → Int32) (r_ma : Nat → Int32) (r_bu : Nat → Int32) (r_wo : Nat → Int32) (r_od : Nat → Int32) (r_rs : Nat → Int32) (r_ca : Nat → Int32) (r_cm : Nat → Int32)  : Option (Int32 × (Nat → Int32) × (Nat → Int32) × (Nat → Int32) × (Nat → Int32) × (Nat → Int32) × (Nat → Int32) × (Nat → Int32)) :=
  (f_Ma_deliverResults r_ma r_rs r_cm).bind fun y1 =>
  (f_Ma_stepOn y1.1).bind fun y2 =>
  some (0, y2, r_bu, r_wo, r_od, y1.2, r_ca, r_cm)
def f_Ma_tryCycle_60 (r_lat : Nat → Int32) (r_co : Nat → Int32) (r_ta : Nat → Int32) (r_gu : Nat → Int32) (r_so : Nat → Int32) (r_cn : Nat → Int32) (r_de : Nat → Int32) (r_ma : Nat → Int32) (r_bu : Nat → Int32) (r_wo : Nat → Int32) (r_od : Nat → Int32) (r_rs : Nat → Int32) (r_ca : Nat → Int32) (r_cm : Nat → Int32) (v1 : Int32) (v2 : Int32) : Option (Int32 × (Nat → Int32) × (Nat → Int32) × (Nat → Int32) × (Nat → Int32) × (Nat → Int32) × (Nat → Int32) × (Nat → Int32)) :=
  if v2 = 0 then
    (f_Ma_readSources r_co r_so r_cn r_ma r_wo r_rs r_ca v1).bind fun y2 =>
    (f_Ma_writePlaces r_co r_de r_ma r_wo r_od y2 v1).bind fun y3 =>
    (f_Ma_pullTriggers r_lat r_co r_de r_ma y3.1 y3.2 y2 r_cm v1).bind fun y4 =>
    f_Ma_tryCycle_81 r_lat r_co r_ta r_gu r_so r_cn r_de y4.1 r_bu y4.2.1 y3.2 r_rs y2 y4.2.2
  else
    some (v2, r_ma, r_bu, r_wo, r_od, r_rs, r_ca, r_cm)
def f_Ma_tryCycle (r_lat : Nat → Int32) (r_co : Nat → Int32) (r_ta : Nat → Int32) (r_gu : Nat → Int32) (r_so : Nat → Int32) (r_cn : Nat → Int32) (r_de : Nat → Int32) (r_ma : Nat → Int32) (r_bu : Nat → Int32) (r_wo : Nat → Int32) (r_od : Nat → Int32) (r_rs : Nat → Int32) (r_ca : Nat → Int32) (r_cm : Nat → Int32)  : Option (Int32 × (Nat → Int32) × (Nat → Int32) × (Nat → Int32) × (Nat → Int32) × (Nat → Int32) × (Nat → Int32) × (Nat → Int32)) :=
  (f_Co_madeWith r_co r_ta r_gu (r_ma 12) (r_ma 11)).bind fun y1 =>
  if y1 = 0 then
    f_Ma_tryCycle_81 r_lat r_co r_ta r_gu r_so r_cn r_de r_ma r_bu r_wo r_od r_rs r_ca r_cm
  else
    (f_Bu_gather r_co r_so r_de r_bu (r_ma 12) y1).bind fun y3 =>
    if (r_ma 13) ≤ 0 then
      (f_Bu_leastFault y3 (r_ma 10) (0 : Int32)).bind fun y5 =>
      f_Ma_tryCycle_60 r_lat r_co r_ta r_gu r_so r_cn r_de r_ma y3 r_wo r_od r_rs r_ca r_cm y1 y5
    else
      (f_Bu_leastFault y3 (r_ma 10) (1 : Int32)).bind fun y6 =>
      f_Ma_tryCycle_60 r_lat r_co r_ta r_gu r_so r_cn r_de r_ma y3 r_wo r_od r_rs r_ca r_cm y1 y6
abbrev rm_Ma_restart : Room := { frames := 0, cells := 0, slots := 0, locals := 0 }
set_option maxHeartbeats 4000000 in
set_option maxRecDepth 100000 in
theorem wl_Ma_restart_2 {p : Program} {l : Launch} {e : Env} {s : State} {m : MethodId} {args : Array Value} {below : List Frame} {meth : Method} {c : Code} {A : Nat → Prop} {g : GT} {a_lat : Nat} {a_co : Nat} {a_ma : Nat} {a_bu : Nat} {a_wo : Nat} {a_od : Nat} {a_rs : Nat} {a_ca : Nat} {a_cm : Nat} {y : (Nat → Int32) × (Nat → Int32) × (Nat → Int32)} (M : MX p s m args meth c b_Ma_restart 2 none "MoveDesk$Machine" g A) : ∀ n : Nat, ∀ (r_ma : Nat → Int32) (r_od : Nat → Int32) (r_rs : Nat → Int32) (v1 : Int32) (H : Heap) (locs : List Loc) (ls : Array Slot), some y = (f_Ma_restart_2 n) r_ma r_od r_rs v1 → va_P g.1 classes (w_ma_od_rs g a_lat a_co a_ma a_bu a_wo a_od a_rs a_ca a_cm r_ma r_od r_rs) H → va_D A (w_ma_od_rs g a_lat a_co a_ma a_bu a_wo a_od a_rs a_ca a_cm r_ma r_od r_rs) → va_S A s.heap H locs → lv_has ls 2 [(0, .ref a_ma), (1, .int v1)] → W p l e rm_Ma_restart s m args below meth c H locs 0 0 (MQ below (QW g none (w_ma_od_rs g a_lat a_co a_ma a_bu a_wo a_od a_rs a_ca a_cm y.1 y.2.1 y.2.2) A) args s 0 0 A) (F0 m 2 ls []) := by
  obtain ⟨hx, hb, hr, hml, hown, hts, hlocks, hA, hK, hG⟩ := id M
  intro n
  induction n with
  | zero =>
    intro r_ma r_od r_rs v1 H locs ls hE hP hD hS hl
    rw [f_Ma_restart_2] at hE
    cases hE
  | succ n ih =>
    intro r_ma r_od r_rs v1 H locs ls hE hP hD hS hl
    rw [f_Ma_restart_2] at hE
    refine lv_iload_n hx hb d_Ma_restart_2 rfl (lv_at hl 1 rfl) ?_
    refine lv_iconst (v := 3) hx hb d_Ma_restart_3 (by decide) ?_
    refine lv_icmp_ge (tgt := 27) hx hb d_Ma_restart_4 (by decide) (fun c1 => ?_) (fun c1 => ?_)
    · have hE := it_t hE c1
      refine lv_aload_n hx hb d_Ma_restart_27 rfl (lv_at hl 0 rfl) ?_
      refine lv_iconst (v := 0) hx hb d_Ma_restart_28 (by decide) ?_
      refine va_put (D := g.1) (ci := 3) (v := .int 0) (ty := .int) (C := "MoveDesk$Machine") (T := F_Ma) (N := 16) hx hb hts i_Ma t_Ma t_Ma_ok n_Ma hown hK hP hD hS 0 rfl rfl 8 (by decide) (hts _ m_111) (fun _ h9 => h9) rfl (by decide +kernel) rfl rfl (Nat.le_of_ble_eq_true rfl) d_Ma_restart_29 (fun H locs hP hD hS => ?_)
      have hP : va_P g.1 classes (w_ma_od_rs g a_lat a_co a_ma a_bu a_wo a_od a_rs a_ca a_cm (upd r_ma 8 0) r_od r_rs) H := hP
      have hD : va_D A (w_ma_od_rs g a_lat a_co a_ma a_bu a_wo a_od a_rs a_ca a_cm (upd r_ma 8 0) r_od r_rs) := hD
      refine lv_aload_n hx hb d_Ma_restart_32 rfl (lv_at hl 0 rfl) ?_
      refine lv_iconst (v := 0) hx hb d_Ma_restart_33 (by decide) ?_
      refine va_put (D := g.1) (ci := 3) (v := .int 0) (ty := .int) (C := "MoveDesk$Machine") (T := F_Ma) (N := 16) hx hb hts i_Ma t_Ma t_Ma_ok n_Ma hown hK hP hD hS 0 rfl rfl 9 (by decide) (hts _ m_112) (fun _ h9 => h9) rfl (by decide +kernel) rfl rfl (Nat.le_of_ble_eq_true rfl) d_Ma_restart_34 (fun H locs hP hD hS => ?_)
      have hP : va_P g.1 classes (w_ma_od_rs g a_lat a_co a_ma a_bu a_wo a_od a_rs a_ca a_cm (upd (upd r_ma 8 0) 9 0) r_od r_rs) H := hP
      have hD : va_D A (w_ma_od_rs g a_lat a_co a_ma a_bu a_wo a_od a_rs a_ca a_cm (upd (upd r_ma 8 0) 9 0) r_od r_rs) := hD
      refine lv_aload_n hx hb d_Ma_restart_37 rfl (lv_at hl 0 rfl) ?_
      refine lv_iconst (v := 0) hx hb d_Ma_restart_38 (by decide) ?_
      refine va_put (D := g.1) (ci := 3) (v := .int 0) (ty := .int) (C := "MoveDesk$Machine") (T := F_Ma) (N := 16) hx hb hts i_Ma t_Ma t_Ma_ok n_Ma hown hK hP hD hS 0 rfl rfl 10 (by decide) (hts _ m_113) (fun _ h9 => h9) rfl (by decide +kernel) rfl rfl (Nat.le_of_ble_eq_true rfl) d_Ma_restart_39 (fun H locs hP hD hS => ?_)
      have hP : va_P g.1 classes (w_ma_od_rs g a_lat a_co a_ma a_bu a_wo a_od a_rs a_ca a_cm (upd (upd (upd r_ma 8 0) 9 0) 10 0) r_od r_rs) H := hP
      have hD : va_D A (w_ma_od_rs g a_lat a_co a_ma a_bu a_wo a_od a_rs a_ca a_cm (upd (upd (upd r_ma 8 0) 9 0) 10 0) r_od r_rs) := hD
      refine lv_aload_n hx hb d_Ma_restart_42 rfl (lv_at hl 0 rfl) ?_
      refine lv_iconst (v := 0) hx hb d_Ma_restart_43 (by decide) ?_
      refine va_put (D := g.1) (ci := 3) (v := .int 0) (ty := .int) (C := "MoveDesk$Machine") (T := F_Ma) (N := 16) hx hb hts i_Ma t_Ma t_Ma_ok n_Ma hown hK hP hD hS 0 rfl rfl 11 (by decide) (hts _ m_114) (fun _ h9 => h9) rfl (by decide +kernel) rfl rfl (Nat.le_of_ble_eq_true rfl) d_Ma_restart_44 (fun H locs hP hD hS => ?_)
      have hP : va_P g.1 classes (w_ma_od_rs g a_lat a_co a_ma a_bu a_wo a_od a_rs a_ca a_cm (upd (upd (upd (upd r_ma 8 0) 9 0) 10 0) 11 0) r_od r_rs) H := hP
      have hD : va_D A (w_ma_od_rs g a_lat a_co a_ma a_bu a_wo a_od a_rs a_ca a_cm (upd (upd (upd (upd r_ma 8 0) 9 0) 10 0) 11 0) r_od r_rs) := hD
      refine lv_aload_n hx hb d_Ma_restart_47 rfl (lv_at hl 0 rfl) ?_
      refine lv_iconst (v := 0) hx hb d_Ma_restart_48 (by decide) ?_
      refine va_put (D := g.1) (ci := 3) (v := .int 0) (ty := .int) (C := "MoveDesk$Machine") (T := F_Ma) (N := 16) hx hb hts i_Ma t_Ma t_Ma_ok n_Ma hown hK hP hD hS 0 rfl rfl 12 (by decide) (hts _ m_115) (fun _ h9 => h9) rfl (by decide +kernel) rfl rfl (Nat.le_of_ble_eq_true rfl) d_Ma_restart_49 (fun H locs hP hD hS => ?_)
      have hP : va_P g.1 classes (w_ma_od_rs g a_lat a_co a_ma a_bu a_wo a_od a_rs a_ca a_cm (upd (upd (upd (upd (upd r_ma 8 0) 9 0) 10 0) 11 0) 12 0) r_od r_rs) H := hP
      have hD : va_D A (w_ma_od_rs g a_lat a_co a_ma a_bu a_wo a_od a_rs a_ca a_cm (upd (upd (upd (upd (upd r_ma 8 0) 9 0) 10 0) 11 0) 12 0) r_od r_rs) := hD
      refine lv_aload_n hx hb d_Ma_restart_52 rfl (lv_at hl 0 rfl) ?_
      refine lv_iconst (v := 0) hx hb d_Ma_restart_53 (by decide) ?_
      refine va_put (D := g.1) (ci := 3) (v := .int 0) (ty := .int) (C := "MoveDesk$Machine") (T := F_Ma) (N := 16) hx hb hts i_Ma t_Ma t_Ma_ok n_Ma hown hK hP hD hS 0 rfl rfl 13 (by decide) (hts _ m_116) (fun _ h9 => h9) rfl (by decide +kernel) rfl rfl (Nat.le_of_ble_eq_true rfl) d_Ma_restart_54 (fun H locs hP hD hS => ?_)
      have hP : va_P g.1 classes (w_ma_od_rs g a_lat a_co a_ma a_bu a_wo a_od a_rs a_ca a_cm (upd (upd (upd (upd (upd (upd r_ma 8 0) 9 0) 10 0) 11 0) 12 0) 13 0) r_od r_rs) H := hP
      have hD : va_D A (w_ma_od_rs g a_lat a_co a_ma a_bu a_wo a_od a_rs a_ca a_cm (upd (upd (upd (upd (upd (upd r_ma 8 0) 9 0) 10 0) 11 0) 12 0) 13 0) r_od r_rs) := hD
      refine lv_aload_n hx hb d_Ma_restart_57 rfl (lv_at hl 0 rfl) ?_
      refine lv_iconst (v := 0) hx hb d_Ma_restart_58 (by decide) ?_
      refine va_put (D := g.1) (ci := 3) (v := .int 0) (ty := .int) (C := "MoveDesk$Machine") (T := F_Ma) (N := 16) hx hb hts i_Ma t_Ma t_Ma_ok n_Ma hown hK hP hD hS 0 rfl rfl 14 (by decide) (hts _ m_117) (fun _ h9 => h9) rfl (by decide +kernel) rfl rfl (Nat.le_of_ble_eq_true rfl) d_Ma_restart_59 (fun H locs hP hD hS => ?_)
      have hP : va_P g.1 classes (w_ma_od_rs g a_lat a_co a_ma a_bu a_wo a_od a_rs a_ca a_cm (upd (upd (upd (upd (upd (upd (upd r_ma 8 0) 9 0) 10 0) 11 0) 12 0) 13 0) 14 0) r_od r_rs) H := hP
      have hD : va_D A (w_ma_od_rs g a_lat a_co a_ma a_bu a_wo a_od a_rs a_ca a_cm (upd (upd (upd (upd (upd (upd (upd r_ma 8 0) 9 0) 10 0) 11 0) 12 0) 13 0) 14 0) r_od r_rs) := hD
      refine lv_aload_n hx hb d_Ma_restart_62 rfl (lv_at hl 0 rfl) ?_
      refine lv_iconst (v := 0) hx hb d_Ma_restart_63 (by decide) ?_
      refine va_put (D := g.1) (ci := 3) (v := .int 0) (ty := .boolean) (C := "MoveDesk$Machine") (T := F_Ma) (N := 16) hx hb hts i_Ma t_Ma t_Ma_ok n_Ma hown hK hP hD hS 0 rfl rfl 15 (by decide) (hts _ m_118) (fun _ h9 => h9) rfl (by decide +kernel) rfl rfl (Nat.le_of_ble_eq_true rfl) d_Ma_restart_64 (fun H locs hP hD hS => ?_)
      have hP : va_P g.1 classes (w_ma_od_rs g a_lat a_co a_ma a_bu a_wo a_od a_rs a_ca a_cm (upd (upd (upd (upd (upd (upd (upd (upd r_ma 8 0) 9 0) 10 0) 11 0) 12 0) 13 0) 14 0) 15 0) r_od r_rs) H := hP
      have hD : va_D A (w_ma_od_rs g a_lat a_co a_ma a_bu a_wo a_od a_rs a_ca a_cm (upd (upd (upd (upd (upd (upd (upd (upd r_ma 8 0) 9 0) 10 0) 11 0) 12 0) 13 0) 14 0) 15 0) r_od r_rs) := hD
      have hE := Option.some.inj hE
      rw [hE]
      exact W.vret hx hb hr (fun t ht hW => ⟨⟨rfl, by rw [ht]; exact hP, va_K.moved hW.alike hK, hD⟩, hS.F ht⟩) hS.2.2 d_Ma_restart_67 hlocks
    · have hE := it_f hE c1
      refine lv_aload_n hx hb d_Ma_restart_7 rfl (lv_at hl 0 rfl) ?_
      refine va_get (D := g.1) (ci := 3) (v := .ref a_od) (C := "MoveDesk$Machine") (T := F_Ma) (N := 16) hx hb hts i_Ma hown hK hP 0 rfl rfl 4 (by decide) (hts _ m_107) (fun _ h9 => h9) rfl d_Ma_restart_8 ?_
      refine lv_iload_n hx hb d_Ma_restart_11 rfl (lv_at hl 1 rfl) ?_
      refine lv_iconst (v := 0) hx hb d_Ma_restart_12 (by decide) ?_
      have ⟨h2, hE⟩ := ck_at hE
      refine va_iast hx hb hK hP hD hS 1 0 rfl rfl h2 d_Ma_restart_13 (fun H locs hP hD hS => ?_)
      have hP : va_P g.1 classes (w_ma_od_rs g a_lat a_co a_ma a_bu a_wo a_od a_rs a_ca a_cm r_ma (upd r_od v1.toNatClampNeg (0 : Int32)) r_rs) H := hP
      have hD : va_D A (w_ma_od_rs g a_lat a_co a_ma a_bu a_wo a_od a_rs a_ca a_cm r_ma (upd r_od v1.toNatClampNeg (0 : Int32)) r_rs) := hD
      refine lv_aload_n hx hb d_Ma_restart_14 rfl (lv_at hl 0 rfl) ?_
      refine va_get (D := g.1) (ci := 3) (v := .ref a_rs) (C := "MoveDesk$Machine") (T := F_Ma) (N := 16) hx hb hts i_Ma hown hK hP 0 rfl rfl 5 (by decide) (hts _ m_108) (fun _ h9 => h9) rfl d_Ma_restart_15 ?_
      refine lv_iload_n hx hb d_Ma_restart_18 rfl (lv_at hl 1 rfl) ?_
      refine lv_iconst (v := 0) hx hb d_Ma_restart_19 (by decide) ?_
      have ⟨h3, hE⟩ := ck_at hE
      refine va_iast hx hb hK hP hD hS 2 0 rfl rfl h3 d_Ma_restart_20 (fun H locs hP hD hS => ?_)
      have hP : va_P g.1 classes (w_ma_od_rs g a_lat a_co a_ma a_bu a_wo a_od a_rs a_ca a_cm r_ma (upd r_od v1.toNatClampNeg (0 : Int32)) (upd r_rs v1.toNatClampNeg (0 : Int32))) H := hP
      have hD : va_D A (w_ma_od_rs g a_lat a_co a_ma a_bu a_wo a_od a_rs a_ca a_cm r_ma (upd r_od v1.toNatClampNeg (0 : Int32)) (upd r_rs v1.toNatClampNeg (0 : Int32))) := hD
      obtain ⟨x4, ex4⟩ : ∃ z : Int32, z = v1 + 1 := ⟨_, rfl⟩
      have hE := nm_at hE ex4
      refine lv_iinc (v := x4) (lv' := [(1, .int x4), (0, .ref a_ma)]) hx hb d_Ma_restart_21 hl (k := 1) rfl (by rw [ex4]; rfl) (by decide) rfl (fun ls hl => ?_)
      refine lv_goto (tgt := 2) hx hb d_Ma_restart_24 (by decide) ?_
      exact ih _ _ _ _ _ _ _ hE hP hD hS (lv_sub hl [1, 0] rfl)
set_option maxHeartbeats 4000000 in
set_option maxRecDepth 100000 in
theorem c_Ma_restart (l : Launch) (g : GT) (a_lat : Nat) (a_co : Nat) (a_ma : Nat) (a_bu : Nat) (a_wo : Nat) (a_od : Nat) (a_rs : Nat) (a_ca : Nat) (a_cm : Nat) (r_ma : Nat → Int32) (r_od : Nat → Int32) (r_rs : Nat → Int32)  (y : (Nat → Int32) × (Nat → Int32) × (Nat → Int32)) (hy : some y = f_Ma_restart r_ma r_od r_rs) : Ct l y_Ma_restart (.code y_Ma_restart b_Ma_restart 2 none) rm_Ma_restart g [.ref a_ma] (w_ma_od_rs g a_lat a_co a_ma a_bu a_wo a_od a_rs a_ca a_cm r_ma r_od r_rs) (w_ma_od_rs g a_lat a_co a_ma a_bu a_wo a_od a_rs a_ca a_cm y.1 y.2.1 y.2.2) none := by
  refine ct_in (C := "MoveDesk$Machine") rfl (by decide) (Nat.le_of_ble_eq_true rfl) (fun p e s m below meth c A ls M hP hD hS hl => ?_)
  obtain ⟨hx, hb, hr, hml, hown, hts, hlocks, hA, hK, hG⟩ := id M
  have hl : lv_has ls 2 [(0, .ref a_ma)] := hl
  have hE := hy
  rw [f_Ma_restart] at hE
  refine lv_iconst (v := 0) hx hb d_Ma_restart_0 (by decide) ?_
  refine lv_istore_n (lv' := [(1, .int 0), (0, .ref a_ma)]) hx hb d_Ma_restart_1 rfl hl (by decide) rfl (fun ls hl => ?_)
  exact wl_Ma_restart_2 M 5000 _ _ _ _ _ _ _ hE hP hD hS (lv_sub hl [1, 0] rfl)
abbrev rm_Ma_isHalted : Room := { frames := 0, cells := 0, slots := 0, locals := 0 }
set_option maxHeartbeats 4000000 in
set_option maxRecDepth 100000 in
theorem c_Ma_isHalted (l : Launch) (g : GT) (a_lat : Nat) (a_co : Nat) (a_ma : Nat) (a_bu : Nat) (a_wo : Nat) (a_od : Nat) (a_rs : Nat) (a_ca : Nat) (a_cm : Nat) (r_ma : Nat → Int32)  (y : Int32) (hy : some y = f_Ma_isHalted r_ma) : Ct l y_Ma_isHalted (.code y_Ma_isHalted b_Ma_isHalted 1 (some .boolean)) rm_Ma_isHalted g [.ref a_ma] (w_ma g a_lat a_co a_ma a_bu a_wo a_od a_rs a_ca a_cm r_ma) (w_ma g a_lat a_co a_ma a_bu a_wo a_od a_rs a_ca a_cm r_ma) (some (.int y)) := by
  refine ct_in (C := "MoveDesk$Machine") rfl (by decide) (Nat.le_of_ble_eq_true rfl) (fun p e s m below meth c A ls M hP hD hS hl => ?_)
  obtain ⟨hx, hb, hr, hml, hown, hts, hlocks, hA, hK, hG⟩ := id M
  have hl : lv_has ls 1 [(0, .ref a_ma)] := hl
  have hE := hy
  rw [f_Ma_isHalted] at hE
  refine lv_aload_n hx hb d_Ma_isHalted_0 rfl (lv_at hl 0 rfl) ?_
  refine va_get (D := g.1) (ci := 3) (v := .int (r_ma 15)) (C := "MoveDesk$Machine") (T := F_Ma) (N := 16) hx hb hts i_Ma hown hK hP 0 rfl rfl 15 (by decide) (hts _ m_118) (fun _ h9 => h9) rfl d_Ma_isHalted_1 ?_
  have ⟨hn4, hE⟩ := bk_at hE
  have hE := Option.some.inj hE
  rw [hE]
  exact W.zret (v := (r_ma 15)) (ty := .boolean) hx hb hr hn4 (fun t ht hW => ⟨⟨rfl, by rw [ht]; exact hP, va_K.moved hW.alike hK, hD⟩, hS.F ht⟩) hS.2.2 d_Ma_isHalted_4 hlocks
abbrev rm_Ma_show : Room := { frames := 0, cells := 0, slots := 0, locals := 0 }
set_option maxHeartbeats 4000000 in
set_option maxRecDepth 100000 in
theorem wl_Ma_show_116 {p : Program} {l : Launch} {e : Env} {s : State} {m : MethodId} {args : Array Value} {below : List Frame} {meth : Method} {c : Code} {A : Nat → Prop} {g : GT} {a_lat : Nat} {a_co : Nat} {a_ma : Nat} {a_bu : Nat} {a_wo : Nat} {a_od : Nat} {a_rs : Nat} {a_ca : Nat} {a_cm : Nat} {y : Int32} (M : MX p s m args meth c b_Ma_show 2 (some .int) "MoveDesk$Machine" g A) : ∀ (r_ma : Nat → Int32) (r_od : Nat → Int32) (r_rs : Nat → Int32) (v1 : Int32) (H : Heap) (locs : List Loc) (ls : Array Slot), some y = f_Ma_show_116 r_ma r_od r_rs v1 → va_P g.1 classes (w_ma_od_rs g a_lat a_co a_ma a_bu a_wo a_od a_rs a_ca a_cm r_ma r_od r_rs) H → va_D A (w_ma_od_rs g a_lat a_co a_ma a_bu a_wo a_od a_rs a_ca a_cm r_ma r_od r_rs) → va_S A s.heap H locs → lv_has ls 2 [(0, .ref a_ma), (1, .int v1)] → W p l e rm_Ma_show s m args below meth c H locs 0 0 (MQ below (QW g (some (.int y)) (w_ma_od_rs g a_lat a_co a_ma a_bu a_wo a_od a_rs a_ca a_cm r_ma r_od r_rs) A) args s 0 0 A) (F0 m 116 ls []) := by
  obtain ⟨hx, hb, hr, hml, hown, hts, hlocks, hA, hK, hG⟩ := id M
  intro r_ma r_od r_rs v1 H locs ls hE hP hD hS hl
  rw [f_Ma_show_116] at hE
  refine lv_iload_n hx hb d_Ma_show_116 rfl (lv_at hl 1 rfl) ?_
  refine lv_bipush (v := 15) hx hb d_Ma_show_117 (by decide) ?_
  refine lv_icmp_ne (tgt := 129) hx hb d_Ma_show_119 (by decide) (fun c1 => ?_) (fun c1 => ?_)
  · have hE := it_f hE c1
    refine lv_iconst (v := 0) hx hb d_Ma_show_129 (by decide) ?_
    have hE := Option.some.inj hE
    rw [hE]
    exact W.iret (v := 0) hx hb hr (fun t ht hW => ⟨⟨rfl, by rw [ht]; exact hP, va_K.moved hW.alike hK, hD⟩, hS.F ht⟩) hS.2.2 d_Ma_show_130 hlocks
  · have hE := it_t hE c1
    refine lv_aload_n hx hb d_Ma_show_122 rfl (lv_at hl 0 rfl) ?_
    refine va_get (D := g.1) (ci := 3) (v := .int (r_ma 13)) (C := "MoveDesk$Machine") (T := F_Ma) (N := 16) hx hb hts i_Ma hown hK hP 0 rfl rfl 13 (by decide) (hts _ m_116) (fun _ h9 => h9) rfl d_Ma_show_123 ?_
    refine lv_goto (tgt := 130) hx hb d_Ma_show_126 (by decide) ?_
    have hE := Option.some.inj hE
    rw [hE]
    exact W.iret (v := (r_ma 13)) hx hb hr (fun t ht hW => ⟨⟨rfl, by rw [ht]; exact hP, va_K.moved hW.alike hK, hD⟩, hS.F ht⟩) hS.2.2 d_Ma_show_130 hlocks
set_option maxHeartbeats 4000000 in
set_option maxRecDepth 100000 in
theorem wl_Ma_show_94 {p : Program} {l : Launch} {e : Env} {s : State} {m : MethodId} {args : Array Value} {below : List Frame} {meth : Method} {c : Code} {A : Nat → Prop} {g : GT} {a_lat : Nat} {a_co : Nat} {a_ma : Nat} {a_bu : Nat} {a_wo : Nat} {a_od : Nat} {a_rs : Nat} {a_ca : Nat} {a_cm : Nat} {y : Int32} (M : MX p s m args meth c b_Ma_show 2 (some .int) "MoveDesk$Machine" g A) : ∀ (r_ma : Nat → Int32) (r_od : Nat → Int32) (r_rs : Nat → Int32) (v1 : Int32) (H : Heap) (locs : List Loc) (ls : Array Slot), some y = f_Ma_show_94 r_ma r_od r_rs v1 → va_P g.1 classes (w_ma_od_rs g a_lat a_co a_ma a_bu a_wo a_od a_rs a_ca a_cm r_ma r_od r_rs) H → va_D A (w_ma_od_rs g a_lat a_co a_ma a_bu a_wo a_od a_rs a_ca a_cm r_ma r_od r_rs) → va_S A s.heap H locs → lv_has ls 2 [(0, .ref a_ma), (1, .int v1)] → W p l e rm_Ma_show s m args below meth c H locs 0 0 (MQ below (QW g (some (.int y)) (w_ma_od_rs g a_lat a_co a_ma a_bu a_wo a_od a_rs a_ca a_cm r_ma r_od r_rs) A) args s 0 0 A) (F0 m 94 ls []) := by
  obtain ⟨hx, hb, hr, hml, hown, hts, hlocks, hA, hK, hG⟩ := id M
  intro r_ma r_od r_rs v1 H locs ls hE hP hD hS hl
  rw [f_Ma_show_94] at hE
  refine lv_iload_n hx hb d_Ma_show_94 rfl (lv_at hl 1 rfl) ?_
  refine lv_bipush (v := 12) hx hb d_Ma_show_95 (by decide) ?_
  refine lv_icmp_lt (tgt := 116) hx hb d_Ma_show_97 (by decide) (fun c1 => ?_) (fun c1 => ?_)
  · have hE := it_t hE c1
    exact wl_Ma_show_116 M _ _ _ _ _ _ _ hE hP hD hS (lv_sub hl [0, 1] rfl)
  · have hE := it_f hE c1
    refine lv_iload_n hx hb d_Ma_show_100 rfl (lv_at hl 1 rfl) ?_
    refine lv_bipush (v := 14) hx hb d_Ma_show_101 (by decide) ?_
    refine lv_icmp_gt (tgt := 116) hx hb d_Ma_show_103 (by decide) (fun c2 => ?_) (fun c2 => ?_)
    · have hE := it_t hE c2
      exact wl_Ma_show_116 M _ _ _ _ _ _ _ hE hP hD hS (lv_sub hl [0, 1] rfl)
    · have hE := it_f hE c2
      refine lv_aload_n hx hb d_Ma_show_106 rfl (lv_at hl 0 rfl) ?_
      refine va_get (D := g.1) (ci := 3) (v := .ref a_rs) (C := "MoveDesk$Machine") (T := F_Ma) (N := 16) hx hb hts i_Ma hown hK hP 0 rfl rfl 5 (by decide) (hts _ m_108) (fun _ h9 => h9) rfl d_Ma_show_107 ?_
      refine lv_iload_n hx hb d_Ma_show_110 rfl (lv_at hl 1 rfl) ?_
      refine lv_bipush (v := 12) hx hb d_Ma_show_111 (by decide) ?_
      refine lv_isub hx hb d_Ma_show_113 ?_
      have ⟨h3, hE⟩ := ck_at hE
      refine va_iald hx hb hK hP 2 0 rfl rfl h3 d_Ma_show_114 ?_
      have hE := Option.some.inj hE
      rw [hE]
      exact W.iret (v := (r_rs (v1 - (12 : Int32)).toNatClampNeg)) hx hb hr (fun t ht hW => ⟨⟨rfl, by rw [ht]; exact hP, va_K.moved hW.alike hK, hD⟩, hS.F ht⟩) hS.2.2 d_Ma_show_115 hlocks
set_option maxHeartbeats 4000000 in
set_option maxRecDepth 100000 in
theorem wl_Ma_show_70 {p : Program} {l : Launch} {e : Env} {s : State} {m : MethodId} {args : Array Value} {below : List Frame} {meth : Method} {c : Code} {A : Nat → Prop} {g : GT} {a_lat : Nat} {a_co : Nat} {a_ma : Nat} {a_bu : Nat} {a_wo : Nat} {a_od : Nat} {a_rs : Nat} {a_ca : Nat} {a_cm : Nat} {y : Int32} (M : MX p s m args meth c b_Ma_show 2 (some .int) "MoveDesk$Machine" g A) : ∀ (r_ma : Nat → Int32) (r_od : Nat → Int32) (r_rs : Nat → Int32) (v1 : Int32) (H : Heap) (locs : List Loc) (ls : Array Slot), some y = f_Ma_show_70 r_ma r_od r_rs v1 → va_P g.1 classes (w_ma_od_rs g a_lat a_co a_ma a_bu a_wo a_od a_rs a_ca a_cm r_ma r_od r_rs) H → va_D A (w_ma_od_rs g a_lat a_co a_ma a_bu a_wo a_od a_rs a_ca a_cm r_ma r_od r_rs) → va_S A s.heap H locs → lv_has ls 2 [(0, .ref a_ma), (1, .int v1)] → W p l e rm_Ma_show s m args below meth c H locs 0 0 (MQ below (QW g (some (.int y)) (w_ma_od_rs g a_lat a_co a_ma a_bu a_wo a_od a_rs a_ca a_cm r_ma r_od r_rs) A) args s 0 0 A) (F0 m 70 ls []) := by
  obtain ⟨hx, hb, hr, hml, hown, hts, hlocks, hA, hK, hG⟩ := id M
  intro r_ma r_od r_rs v1 H locs ls hE hP hD hS hl
  rw [f_Ma_show_70] at hE
  refine lv_iload_n hx hb d_Ma_show_70 rfl (lv_at hl 1 rfl) ?_
  refine lv_bipush (v := 9) hx hb d_Ma_show_71 (by decide) ?_
  refine lv_icmp_lt (tgt := 94) hx hb d_Ma_show_73 (by decide) (fun c1 => ?_) (fun c1 => ?_)
  · have hE := it_t hE c1
    exact wl_Ma_show_94 M _ _ _ _ _ _ _ hE hP hD hS (lv_sub hl [0, 1] rfl)
  · have hE := it_f hE c1
    refine lv_iload_n hx hb d_Ma_show_76 rfl (lv_at hl 1 rfl) ?_
    refine lv_bipush (v := 11) hx hb d_Ma_show_77 (by decide) ?_
    refine lv_icmp_gt (tgt := 94) hx hb d_Ma_show_79 (by decide) (fun c2 => ?_) (fun c2 => ?_)
    · have hE := it_t hE c2
      exact wl_Ma_show_94 M _ _ _ _ _ _ _ hE hP hD hS (lv_sub hl [0, 1] rfl)
    · have hE := it_f hE c2
      refine lv_aload_n hx hb d_Ma_show_82 rfl (lv_at hl 0 rfl) ?_
      refine va_get (D := g.1) (ci := 3) (v := .int (r_ma 10)) (C := "MoveDesk$Machine") (T := F_Ma) (N := 16) hx hb hts i_Ma hown hK hP 0 rfl rfl 10 (by decide) (hts _ m_113) (fun _ h9 => h9) rfl d_Ma_show_83 ?_
      refine lv_iload_n hx hb d_Ma_show_86 rfl (lv_at hl 1 rfl) ?_
      refine lv_bipush (v := 9) hx hb d_Ma_show_87 (by decide) ?_
      refine lv_isub hx hb d_Ma_show_89 ?_
      refine lv_ishr hx hb d_Ma_show_90 ?_
      refine lv_iconst (v := 1) hx hb d_Ma_show_91 (by decide) ?_
      refine lv_iand hx hb d_Ma_show_92 ?_
      have hE := Option.some.inj hE
      rw [hE]
      exact W.iret (v := (((r_ma 10) >>> ((v1 - (9 : Int32)) &&& 31)) &&& (1 : Int32))) hx hb hr (fun t ht hW => ⟨⟨rfl, by rw [ht]; exact hP, va_K.moved hW.alike hK, hD⟩, hS.F ht⟩) hS.2.2 d_Ma_show_93 hlocks
set_option maxHeartbeats 4000000 in
set_option maxRecDepth 100000 in
theorem wl_Ma_show_48 {p : Program} {l : Launch} {e : Env} {s : State} {m : MethodId} {args : Array Value} {below : List Frame} {meth : Method} {c : Code} {A : Nat → Prop} {g : GT} {a_lat : Nat} {a_co : Nat} {a_ma : Nat} {a_bu : Nat} {a_wo : Nat} {a_od : Nat} {a_rs : Nat} {a_ca : Nat} {a_cm : Nat} {y : Int32} (M : MX p s m args meth c b_Ma_show 2 (some .int) "MoveDesk$Machine" g A) : ∀ (r_ma : Nat → Int32) (r_od : Nat → Int32) (r_rs : Nat → Int32) (v1 : Int32) (H : Heap) (locs : List Loc) (ls : Array Slot), some y = f_Ma_show_48 r_ma r_od r_rs v1 → va_P g.1 classes (w_ma_od_rs g a_lat a_co a_ma a_bu a_wo a_od a_rs a_ca a_cm r_ma r_od r_rs) H → va_D A (w_ma_od_rs g a_lat a_co a_ma a_bu a_wo a_od a_rs a_ca a_cm r_ma r_od r_rs) → va_S A s.heap H locs → lv_has ls 2 [(0, .ref a_ma), (1, .int v1)] → W p l e rm_Ma_show s m args below meth c H locs 0 0 (MQ below (QW g (some (.int y)) (w_ma_od_rs g a_lat a_co a_ma a_bu a_wo a_od a_rs a_ca a_cm r_ma r_od r_rs) A) args s 0 0 A) (F0 m 48 ls []) := by
  obtain ⟨hx, hb, hr, hml, hown, hts, hlocks, hA, hK, hG⟩ := id M
  intro r_ma r_od r_rs v1 H locs ls hE hP hD hS hl
  rw [f_Ma_show_48] at hE
  refine lv_iload_n hx hb d_Ma_show_48 rfl (lv_at hl 1 rfl) ?_
  refine lv_bipush (v := 6) hx hb d_Ma_show_49 (by decide) ?_
  refine lv_icmp_lt (tgt := 70) hx hb d_Ma_show_51 (by decide) (fun c1 => ?_) (fun c1 => ?_)
  · have hE := it_t hE c1
    exact wl_Ma_show_70 M _ _ _ _ _ _ _ hE hP hD hS (lv_sub hl [0, 1] rfl)
  · have hE := it_f hE c1
    refine lv_iload_n hx hb d_Ma_show_54 rfl (lv_at hl 1 rfl) ?_
    refine lv_bipush (v := 8) hx hb d_Ma_show_55 (by decide) ?_
    refine lv_icmp_gt (tgt := 70) hx hb d_Ma_show_57 (by decide) (fun c2 => ?_) (fun c2 => ?_)
    · have hE := it_t hE c2
      exact wl_Ma_show_70 M _ _ _ _ _ _ _ hE hP hD hS (lv_sub hl [0, 1] rfl)
    · have hE := it_f hE c2
      refine lv_aload_n hx hb d_Ma_show_60 rfl (lv_at hl 0 rfl) ?_
      refine va_get (D := g.1) (ci := 3) (v := .ref a_od) (C := "MoveDesk$Machine") (T := F_Ma) (N := 16) hx hb hts i_Ma hown hK hP 0 rfl rfl 4 (by decide) (hts _ m_107) (fun _ h9 => h9) rfl d_Ma_show_61 ?_
      refine lv_iload_n hx hb d_Ma_show_64 rfl (lv_at hl 1 rfl) ?_
      refine lv_bipush (v := 6) hx hb d_Ma_show_65 (by decide) ?_
      refine lv_isub hx hb d_Ma_show_67 ?_
      have ⟨h3, hE⟩ := ck_at hE
      refine va_iald hx hb hK hP 1 0 rfl rfl h3 d_Ma_show_68 ?_
      have hE := Option.some.inj hE
      rw [hE]
      exact W.iret (v := (r_od (v1 - (6 : Int32)).toNatClampNeg)) hx hb hr (fun t ht hW => ⟨⟨rfl, by rw [ht]; exact hP, va_K.moved hW.alike hK, hD⟩, hS.F ht⟩) hS.2.2 d_Ma_show_69 hlocks
set_option maxHeartbeats 4000000 in
set_option maxRecDepth 100000 in
theorem c_Ma_show (l : Launch) (g : GT) (a_lat : Nat) (a_co : Nat) (a_ma : Nat) (a_bu : Nat) (a_wo : Nat) (a_od : Nat) (a_rs : Nat) (a_ca : Nat) (a_cm : Nat) (r_ma : Nat → Int32) (r_od : Nat → Int32) (r_rs : Nat → Int32) (v1 : Int32) (y : Int32) (hy : some y = f_Ma_show r_ma r_od r_rs v1) : Ct l y_Ma_show (.code y_Ma_show b_Ma_show 2 (some .int)) rm_Ma_show g [.ref a_ma, .int v1] (w_ma_od_rs g a_lat a_co a_ma a_bu a_wo a_od a_rs a_ca a_cm r_ma r_od r_rs) (w_ma_od_rs g a_lat a_co a_ma a_bu a_wo a_od a_rs a_ca a_cm r_ma r_od r_rs) (some (.int y)) := by
  refine ct_in (C := "MoveDesk$Machine") rfl (by decide) (Nat.le_of_ble_eq_true rfl) (fun p e s m below meth c A ls M hP hD hS hl => ?_)
  obtain ⟨hx, hb, hr, hml, hown, hts, hlocks, hA, hK, hG⟩ := id M
  have hl : lv_has ls 2 [(0, .ref a_ma), (1, .int v1)] := hl
  have hE := hy
  rw [f_Ma_show] at hE
  refine lv_iload_n hx hb d_Ma_show_0 rfl (lv_at hl 1 rfl) ?_
  refine lv_if_ne (tgt := 9) hx hb d_Ma_show_1 (by decide) (fun c1 => ?_) (fun c1 => ?_)
  · have hE := it_f hE c1
    refine lv_iload_n hx hb d_Ma_show_9 rfl (lv_at hl 1 rfl) ?_
    refine lv_iconst (v := 1) hx hb d_Ma_show_10 (by decide) ?_
    refine lv_icmp_ne (tgt := 27) hx hb d_Ma_show_11 (by decide) (fun c2 => ?_) (fun c2 => ?_)
    · have hE := it_f hE c2
      refine lv_iload_n hx hb d_Ma_show_27 rfl (lv_at hl 1 rfl) ?_
      refine lv_iconst (v := 2) hx hb d_Ma_show_28 (by decide) ?_
      refine lv_icmp_lt (tgt := 48) hx hb d_Ma_show_29 (by decide) (fun c3 => ?_) (fun c3 => ?_)
      · have hE := it_t hE c3
        exact wl_Ma_show_48 M _ _ _ _ _ _ _ hE hP hD hS (lv_sub hl [0, 1] rfl)
      · have hE := it_f hE c3
        refine lv_iload_n hx hb d_Ma_show_32 rfl (lv_at hl 1 rfl) ?_
        refine lv_iconst (v := 5) hx hb d_Ma_show_33 (by decide) ?_
        refine lv_icmp_gt (tgt := 48) hx hb d_Ma_show_34 (by decide) (fun c4 => ?_) (fun c4 => ?_)
        · have hE := it_t hE c4
          exact wl_Ma_show_48 M _ _ _ _ _ _ _ hE hP hD hS (lv_sub hl [0, 1] rfl)
        · have hE := it_f hE c4
          refine lv_aload_n hx hb d_Ma_show_37 rfl (lv_at hl 0 rfl) ?_
          refine va_get (D := g.1) (ci := 3) (v := .int (r_ma 11)) (C := "MoveDesk$Machine") (T := F_Ma) (N := 16) hx hb hts i_Ma hown hK hP 0 rfl rfl 11 (by decide) (hts _ m_114) (fun _ h9 => h9) rfl d_Ma_show_38 ?_
          refine lv_iload_n hx hb d_Ma_show_41 rfl (lv_at hl 1 rfl) ?_
          refine lv_iconst (v := 2) hx hb d_Ma_show_42 (by decide) ?_
          refine lv_isub hx hb d_Ma_show_43 ?_
          refine lv_ishr hx hb d_Ma_show_44 ?_
          refine lv_iconst (v := 1) hx hb d_Ma_show_45 (by decide) ?_
          refine lv_iand hx hb d_Ma_show_46 ?_
          have hE := Option.some.inj hE
          rw [hE]
          exact W.iret (v := (((r_ma 11) >>> ((v1 - (2 : Int32)) &&& 31)) &&& (1 : Int32))) hx hb hr (fun t ht hW => ⟨⟨rfl, by rw [ht]; exact hP, va_K.moved hW.alike hK, hD⟩, hS.F ht⟩) hS.2.2 d_Ma_show_47 hlocks
    · have hE := it_t hE c2
      refine lv_aload_n hx hb d_Ma_show_14 rfl (lv_at hl 0 rfl) ?_
      refine va_get (D := g.1) (ci := 3) (v := .int (r_ma 15)) (C := "MoveDesk$Machine") (T := F_Ma) (N := 16) hx hb hts i_Ma hown hK hP 0 rfl rfl 15 (by decide) (hts _ m_118) (fun _ h9 => h9) rfl d_Ma_show_15 ?_
      refine lv_if_eq (tgt := 25) hx hb d_Ma_show_18 (by decide) (fun c5 => ?_) (fun c5 => ?_)
      · have hE := it_t hE c5
        refine lv_iconst (v := 0) hx hb d_Ma_show_25 (by decide) ?_
        have hE := Option.some.inj hE
        rw [hE]
        exact W.iret (v := 0) hx hb hr (fun t ht hW => ⟨⟨rfl, by rw [ht]; exact hP, va_K.moved hW.alike hK, hD⟩, hS.F ht⟩) hS.2.2 d_Ma_show_26 hlocks
      · have hE := it_f hE c5
        refine lv_iconst (v := 1) hx hb d_Ma_show_21 (by decide) ?_
        refine lv_goto (tgt := 26) hx hb d_Ma_show_22 (by decide) ?_
        have hE := Option.some.inj hE
        rw [hE]
        exact W.iret (v := 1) hx hb hr (fun t ht hW => ⟨⟨rfl, by rw [ht]; exact hP, va_K.moved hW.alike hK, hD⟩, hS.F ht⟩) hS.2.2 d_Ma_show_26 hlocks
  · have hE := it_t hE c1
    refine lv_aload_n hx hb d_Ma_show_4 rfl (lv_at hl 0 rfl) ?_
    refine va_get (D := g.1) (ci := 3) (v := .int (r_ma 12)) (C := "MoveDesk$Machine") (T := F_Ma) (N := 16) hx hb hts i_Ma hown hK hP 0 rfl rfl 12 (by decide) (hts _ m_115) (fun _ h9 => h9) rfl d_Ma_show_5 ?_
    have hE := Option.some.inj hE
    rw [hE]
    exact W.iret (v := (r_ma 12)) hx hb hr (fun t ht hW => ⟨⟨rfl, by rw [ht]; exact hP, va_K.moved hW.alike hK, hD⟩, hS.F ht⟩) hS.2.2 d_Ma_show_8 hlocks
abbrev rm_Ma_has : Room := { frames := 0, cells := 0, slots := 0, locals := 0 }
set_option maxHeartbeats 4000000 in
set_option maxRecDepth 100000 in
theorem c_Ma_has (l : Launch) (g : GT)   (v0 : Int32) (v1 : Int32) (y : Int32) (hy : some y = f_Ma_has v0 v1) : Ct l y_Ma_has (.code y_Ma_has b_Ma_has 2 (some .boolean)) rm_Ma_has g [.int v0, .int v1] (w_ g  ) (w_ g  ) (some (.int y)) := by
  refine ct_in (C := "MoveDesk$Machine") rfl (by decide) (Nat.le_of_ble_eq_true rfl) (fun p e s m below meth c A ls M hP hD hS hl => ?_)
  obtain ⟨hx, hb, hr, hml, hown, hts, hlocks, hA, hK, hG⟩ := id M
  have hl : lv_has ls 2 [(0, .int v0), (1, .int v1)] := hl
  have hE := hy
  rw [f_Ma_has] at hE
  refine lv_iload_n hx hb d_Ma_has_0 rfl (lv_at hl 0 rfl) ?_
  refine lv_iload_n hx hb d_Ma_has_1 rfl (lv_at hl 1 rfl) ?_
  refine lv_ishr hx hb d_Ma_has_2 ?_
  refine lv_iconst (v := 1) hx hb d_Ma_has_3 (by decide) ?_
  refine lv_iand hx hb d_Ma_has_4 ?_
  refine lv_if_eq (tgt := 12) hx hb d_Ma_has_5 (by decide) (fun c1 => ?_) (fun c1 => ?_)
  · have hE := it_t hE c1
    refine lv_iconst (v := 0) hx hb d_Ma_has_12 (by decide) ?_
    have hE := Option.some.inj hE
    rw [hE]
    exact W.zret (v := 0) (ty := .boolean) hx hb hr rfl (fun t ht hW => ⟨⟨rfl, by rw [ht]; exact hP, va_K.moved hW.alike hK, hD⟩, hS.F ht⟩) hS.2.2 d_Ma_has_13 hlocks
  · have hE := it_f hE c1
    refine lv_iconst (v := 1) hx hb d_Ma_has_8 (by decide) ?_
    refine lv_goto (tgt := 13) hx hb d_Ma_has_9 (by decide) ?_
    have hE := Option.some.inj hE
    rw [hE]
    exact W.zret (v := 1) (ty := .boolean) hx hb hr rfl (fun t ht hW => ⟨⟨rfl, by rw [ht]; exact hP, va_K.moved hW.alike hK, hD⟩, hS.F ht⟩) hS.2.2 d_Ma_has_13 hlocks
abbrev rm_Ma_valueOf : Room := { frames := 0, cells := 0, slots := 0, locals := 0 }
set_option maxHeartbeats 4000000 in
set_option maxRecDepth 100000 in
theorem c_Ma_valueOf (l : Launch) (g : GT) (a_lat : Nat) (a_co : Nat) (a_ma : Nat) (a_bu : Nat) (a_wo : Nat) (a_od : Nat) (a_rs : Nat) (a_ca : Nat) (a_cm : Nat) (r_ma : Nat → Int32) (r_wo : Nat → Int32) (r_rs : Nat → Int32) (v1 : Int32) (v2 : Int32) (y : Int32) (hy : some y = f_Ma_valueOf r_ma r_wo r_rs v1 v2) : Ct l y_Ma_valueOf (.code y_Ma_valueOf b_Ma_valueOf 3 (some .int)) rm_Ma_valueOf g [.ref a_ma, .int v1, .int v2] (w_ma_wo_rs g a_lat a_co a_ma a_bu a_wo a_od a_rs a_ca a_cm r_ma r_wo r_rs) (w_ma_wo_rs g a_lat a_co a_ma a_bu a_wo a_od a_rs a_ca a_cm r_ma r_wo r_rs) (some (.int y)) := by
  refine ct_in (C := "MoveDesk$Machine") rfl (by decide) (Nat.le_of_ble_eq_true rfl) (fun p e s m below meth c A ls M hP hD hS hl => ?_)
  obtain ⟨hx, hb, hr, hml, hown, hts, hlocks, hA, hK, hG⟩ := id M
  have hl : lv_has ls 3 [(0, .ref a_ma), (1, .int v1), (2, .int v2)] := hl
  have hE := hy
  rw [f_Ma_valueOf] at hE
  refine lv_iload_n hx hb d_Ma_valueOf_0 rfl (lv_at hl 1 rfl) ?_
  refine lv_bipush (v := 8) hx hb d_Ma_valueOf_1 (by decide) ?_
  refine lv_icmp_ge (tgt := 13) hx hb d_Ma_valueOf_3 (by decide) (fun c1 => ?_) (fun c1 => ?_)
  · have hE := it_t hE c1
    refine lv_iload_n hx hb d_Ma_valueOf_13 rfl (lv_at hl 1 rfl) ?_
    refine lv_bipush (v := 11) hx hb d_Ma_valueOf_14 (by decide) ?_
    refine lv_icmp_ge (tgt := 31) hx hb d_Ma_valueOf_16 (by decide) (fun c2 => ?_) (fun c2 => ?_)
    · have hE := it_t hE c2
      refine lv_iload_n hx hb d_Ma_valueOf_31 rfl (lv_at hl 2 rfl) ?_
      have hE := Option.some.inj hE
      rw [hE]
      exact W.iret (v := v2) hx hb hr (fun t ht hW => ⟨⟨rfl, by rw [ht]; exact hP, va_K.moved hW.alike hK, hD⟩, hS.F ht⟩) hS.2.2 d_Ma_valueOf_32 hlocks
    · have hE := it_f hE c2
      refine lv_aload_n hx hb d_Ma_valueOf_19 rfl (lv_at hl 0 rfl) ?_
      refine va_get (D := g.1) (ci := 3) (v := .ref a_rs) (C := "MoveDesk$Machine") (T := F_Ma) (N := 16) hx hb hts i_Ma hown hK hP 0 rfl rfl 5 (by decide) (hts _ m_108) (fun _ h9 => h9) rfl d_Ma_valueOf_20 ?_
      refine lv_iload_n hx hb d_Ma_valueOf_23 rfl (lv_at hl 1 rfl) ?_
      refine lv_bipush (v := 8) hx hb d_Ma_valueOf_24 (by decide) ?_
      refine lv_isub hx hb d_Ma_valueOf_26 ?_
      have ⟨h3, hE⟩ := ck_at hE
      refine va_iald hx hb hK hP 2 0 rfl rfl h3 d_Ma_valueOf_27 ?_
      refine lv_goto (tgt := 32) hx hb d_Ma_valueOf_28 (by decide) ?_
      have hE := Option.some.inj hE
      rw [hE]
      exact W.iret (v := (r_rs (v1 - (8 : Int32)).toNatClampNeg)) hx hb hr (fun t ht hW => ⟨⟨rfl, by rw [ht]; exact hP, va_K.moved hW.alike hK, hD⟩, hS.F ht⟩) hS.2.2 d_Ma_valueOf_32 hlocks
  · have hE := it_f hE c1
    refine lv_aload_n hx hb d_Ma_valueOf_6 rfl (lv_at hl 0 rfl) ?_
    refine va_get (D := g.1) (ci := 3) (v := .ref a_wo) (C := "MoveDesk$Machine") (T := F_Ma) (N := 16) hx hb hts i_Ma hown hK hP 0 rfl rfl 3 (by decide) (hts _ m_105) (fun _ h9 => h9) rfl d_Ma_valueOf_7 ?_
    refine lv_iload_n hx hb d_Ma_valueOf_10 rfl (lv_at hl 1 rfl) ?_
    have ⟨h4, hE⟩ := ck_at hE
    refine va_iald hx hb hK hP 1 0 rfl rfl h4 d_Ma_valueOf_11 ?_
    have hE := Option.some.inj hE
    rw [hE]
    exact W.iret (v := (r_wo v1.toNatClampNeg)) hx hb hr (fun t ht hW => ⟨⟨rfl, by rw [ht]; exact hP, va_K.moved hW.alike hK, hD⟩, hS.F ht⟩) hS.2.2 d_Ma_valueOf_12 hlocks
abbrev rm_Ma_readSources : Room := { frames := 1, cells := 0, slots := 0, locals := 22 }
set_option maxHeartbeats 4000000 in
set_option maxRecDepth 100000 in
theorem wl_Ma_readSources_49 {p : Program} {l : Launch} {e : Env} {s : State} {m : MethodId} {args : Array Value} {below : List Frame} {meth : Method} {c : Code} {A : Nat → Prop} {g : GT} {a_lat : Nat} {a_co : Nat} {a_ta : Nat} {a_gu : Nat} {a_so : Nat} {a_cn : Nat} {a_de : Nat} {a_ma : Nat} {a_bu : Nat} {a_wo : Nat} {a_od : Nat} {a_rs : Nat} {a_ca : Nat} {a_cm : Nat} {y : (Nat → Int32)} (M : MX p s m args meth c b_Ma_readSources 3 none "MoveDesk$Machine" g A) (rec_2 : (Nat → Int32) → (Nat → Int32) → (Nat → Int32) → (Nat → Int32) → (Nat → Int32) → (Nat → Int32) → (Nat → Int32) → Int32 → Int32 → Option ((Nat → Int32))) (hrec_2 : ∀ (r_co : Nat → Int32) (r_so : Nat → Int32) (r_cn : Nat → Int32) (r_ma : Nat → Int32) (r_wo : Nat → Int32) (r_rs : Nat → Int32) (r_ca : Nat → Int32) (v1 : Int32) (v2 : Int32) (H : Heap) (locs : List Loc) (ls : Array Slot), some y = rec_2 r_co r_so r_cn r_ma r_wo r_rs r_ca v1 v2 → va_P g.1 classes (w_co_7_3d79 g a_lat a_co a_ta a_gu a_so a_cn a_de a_ma a_bu a_wo a_od a_rs a_ca a_cm r_co r_so r_cn r_ma r_wo r_rs r_ca) H → va_D A (w_co_7_3d79 g a_lat a_co a_ta a_gu a_so a_cn a_de a_ma a_bu a_wo a_od a_rs a_ca a_cm r_co r_so r_cn r_ma r_wo r_rs r_ca) → va_S A s.heap H locs → lv_has ls 3 [(0, .ref a_ma), (1, .int v1), (2, .int v2)] → W p l e rm_Ma_readSources s m args below meth c H locs 0 0 (MQ below (QW g none (w_co_7_3d79 g a_lat a_co a_ta a_gu a_so a_cn a_de a_ma a_bu a_wo a_od a_rs a_ca a_cm r_co r_so r_cn r_ma r_wo r_rs y) A) args s 0 0 A) (F0 m 2 ls [])) : ∀ (r_co : Nat → Int32) (r_so : Nat → Int32) (r_cn : Nat → Int32) (r_ma : Nat → Int32) (r_wo : Nat → Int32) (r_rs : Nat → Int32) (r_ca : Nat → Int32) (v1 : Int32) (v2 : Int32) (H : Heap) (locs : List Loc) (ls : Array Slot), some y = (f_Ma_readSources_49 rec_2) r_co r_so r_cn r_ma r_wo r_rs r_ca v1 v2 → va_P g.1 classes (w_co_7_3d79 g a_lat a_co a_ta a_gu a_so a_cn a_de a_ma a_bu a_wo a_od a_rs a_ca a_cm r_co r_so r_cn r_ma r_wo r_rs r_ca) H → va_D A (w_co_7_3d79 g a_lat a_co a_ta a_gu a_so a_cn a_de a_ma a_bu a_wo a_od a_rs a_ca a_cm r_co r_so r_cn r_ma r_wo r_rs r_ca) → va_S A s.heap H locs → lv_has ls 3 [(0, .ref a_ma), (1, .int v1), (2, .int v2)] → W p l e rm_Ma_readSources s m args below meth c H locs 0 0 (MQ below (QW g none (w_co_7_3d79 g a_lat a_co a_ta a_gu a_so a_cn a_de a_ma a_bu a_wo a_od a_rs a_ca a_cm r_co r_so r_cn r_ma r_wo r_rs y) A) args s 0 0 A) (F0 m 49 ls []) := by
  obtain ⟨hx, hb, hr, hml, hown, hts, hlocks, hA, hK, hG⟩ := id M
  intro r_co r_so r_cn r_ma r_wo r_rs r_ca v1 v2 H locs ls hE hP hD hS hl
  rw [f_Ma_readSources_49] at hE
  obtain ⟨x1, ex1⟩ : ∃ z : Int32, z = v2 + 1 := ⟨_, rfl⟩
  have hE := nm_at hE ex1
  refine lv_iinc (v := x1) (lv' := [(2, .int x1), (0, .ref a_ma), (1, .int v1)]) hx hb d_Ma_readSources_49 hl (k := 2) rfl (by rw [ex1]; rfl) (by decide) rfl (fun ls hl => ?_)
  refine lv_goto (tgt := 2) hx hb d_Ma_readSources_52 (by decide) ?_
  exact hrec_2 _ _ _ _ _ _ _ _ _ _ _ _ hE hP hD hS (lv_sub hl [1, 2, 0] rfl)
set_option maxHeartbeats 4000000 in
set_option maxRecDepth 100000 in
theorem wl_Ma_readSources_2 {p : Program} {l : Launch} {e : Env} {s : State} {m : MethodId} {args : Array Value} {below : List Frame} {meth : Method} {c : Code} {A : Nat → Prop} {g : GT} {a_lat : Nat} {a_co : Nat} {a_ta : Nat} {a_gu : Nat} {a_so : Nat} {a_cn : Nat} {a_de : Nat} {a_ma : Nat} {a_bu : Nat} {a_wo : Nat} {a_od : Nat} {a_rs : Nat} {a_ca : Nat} {a_cm : Nat} {y : (Nat → Int32)} (M : MX p s m args meth c b_Ma_readSources 3 none "MoveDesk$Machine" g A) : ∀ n : Nat, ∀ (r_co : Nat → Int32) (r_so : Nat → Int32) (r_cn : Nat → Int32) (r_ma : Nat → Int32) (r_wo : Nat → Int32) (r_rs : Nat → Int32) (r_ca : Nat → Int32) (v1 : Int32) (v2 : Int32) (H : Heap) (locs : List Loc) (ls : Array Slot), some y = (f_Ma_readSources_2 n) r_co r_so r_cn r_ma r_wo r_rs r_ca v1 v2 → va_P g.1 classes (w_co_7_3d79 g a_lat a_co a_ta a_gu a_so a_cn a_de a_ma a_bu a_wo a_od a_rs a_ca a_cm r_co r_so r_cn r_ma r_wo r_rs r_ca) H → va_D A (w_co_7_3d79 g a_lat a_co a_ta a_gu a_so a_cn a_de a_ma a_bu a_wo a_od a_rs a_ca a_cm r_co r_so r_cn r_ma r_wo r_rs r_ca) → va_S A s.heap H locs → lv_has ls 3 [(0, .ref a_ma), (1, .int v1), (2, .int v2)] → W p l e rm_Ma_readSources s m args below meth c H locs 0 0 (MQ below (QW g none (w_co_7_3d79 g a_lat a_co a_ta a_gu a_so a_cn a_de a_ma a_bu a_wo a_od a_rs a_ca a_cm r_co r_so r_cn r_ma r_wo r_rs y) A) args s 0 0 A) (F0 m 2 ls []) := by
  obtain ⟨hx, hb, hr, hml, hown, hts, hlocks, hA, hK, hG⟩ := id M
  intro n
  induction n with
  | zero =>
    intro r_co r_so r_cn r_ma r_wo r_rs r_ca v1 v2 H locs ls hE hP hD hS hl
    rw [f_Ma_readSources_2] at hE
    cases hE
  | succ n ih =>
    intro r_co r_so r_cn r_ma r_wo r_rs r_ca v1 v2 H locs ls hE hP hD hS hl
    rw [f_Ma_readSources_2] at hE
    refine lv_iload_n hx hb d_Ma_readSources_2 rfl (lv_at hl 2 rfl) ?_
    refine lv_iconst (v := 4) hx hb d_Ma_readSources_3 (by decide) ?_
    refine lv_icmp_ge (tgt := 55) hx hb d_Ma_readSources_4 (by decide) (fun c1 => ?_) (fun c1 => ?_)
    · have hE := it_t hE c1
      have hE := Option.some.inj hE
      rw [hE]
      exact W.vret hx hb hr (fun t ht hW => ⟨⟨rfl, by rw [ht]; exact hP, va_K.moved hW.alike hK, hD⟩, hS.F ht⟩) hS.2.2 d_Ma_readSources_55 hlocks
    · have hE := it_f hE c1
      refine lv_iload_n hx hb d_Ma_readSources_7 rfl (lv_at hl 1 rfl) ?_
      refine lv_iload_n hx hb d_Ma_readSources_8 rfl (lv_at hl 2 rfl) ?_
      obtain ⟨y2, hy2, hE⟩ := bd_at hE
      refine kS (index := 97) (As := [.int v1, .int v2]) (rest := []) (ws2 := (w_co_7_3d79 g a_lat a_co a_ta a_gu a_so a_cn a_de a_ma a_bu a_wo a_od a_rs a_ca a_cm r_co r_so r_cn r_ma r_wo r_rs r_ca)) M hP hD hS hl.1 (c_Ma_has l g   v1 v2 y2 hy2) m_729 m_730 m_4 m_731 hs_Ma_has rfl rfl rfl ⟨by decide, by decide⟩ ⟨by decide, by decide⟩ [] [0, 1, 2, 3, 4, 5, 6] [0, 1, 2, 3, 4, 5, 6] rfl rfl rfl rfl (by decide) rfl rfl rfl (Nat.le_of_ble_eq_true rfl) d_Ma_readSources_9 (fun H locs hP hD hS => ?_)
      refine W.eq (g2 := F0 m 12 ls [.int y2]) rfl ?_
      refine lv_if_eq (tgt := 49) hx hb d_Ma_readSources_12 (by decide) (fun c3 => ?_) (fun c3 => ?_)
      · have hE := it_t hE c3
        exact wl_Ma_readSources_49 M (f_Ma_readSources_2 n) ih _ _ _ _ _ _ _ _ _ _ _ _ hE hP hD hS (lv_sub hl [0, 1, 2] rfl)
      · have hE := it_f hE c3
        refine lv_aload_n hx hb d_Ma_readSources_15 rfl (lv_at hl 0 rfl) ?_
        refine va_get (D := g.1) (ci := 3) (v := .ref a_ca) (C := "MoveDesk$Machine") (T := F_Ma) (N := 16) hx hb hts i_Ma hown hK hP 3 rfl rfl 6 (by decide) (hts _ m_109) (fun _ h9 => h9) rfl d_Ma_readSources_16 ?_
        refine lv_iload_n hx hb d_Ma_readSources_19 rfl (lv_at hl 2 rfl) ?_
        refine lv_aload_n hx hb d_Ma_readSources_20 rfl (lv_at hl 0 rfl) ?_
        refine lv_aload_n hx hb d_Ma_readSources_21 rfl (lv_at hl 0 rfl) ?_
        refine va_get (D := g.1) (ci := 3) (v := .ref a_co) (C := "MoveDesk$Machine") (T := F_Ma) (N := 16) hx hb hts i_Ma hown hK hP 3 rfl rfl 0 (by decide) (hts _ m_102) (fun _ h9 => h9) rfl d_Ma_readSources_22 ?_
        refine lv_aload_n hx hb d_Ma_readSources_25 rfl (lv_at hl 0 rfl) ?_
        refine va_get (D := g.1) (ci := 3) (v := .int (r_ma 12)) (C := "MoveDesk$Machine") (T := F_Ma) (N := 16) hx hb hts i_Ma hown hK hP 3 rfl rfl 12 (by decide) (hts _ m_115) (fun _ h9 => h9) rfl d_Ma_readSources_26 ?_
        refine lv_iload_n hx hb d_Ma_readSources_29 rfl (lv_at hl 2 rfl) ?_
        obtain ⟨y4, hy4, hE⟩ := bd_at hE
        refine kV (C := "MoveDesk$Code") (index := 101) (As := [.int (r_ma 12), .int v2]) (rest := [.ref a_ma, .int v2, .ref a_ca]) (ws2 := (w_co_7_3d79 g a_lat a_co a_ta a_gu a_so a_cn a_de a_ma a_bu a_wo a_od a_rs a_ca a_cm r_co r_so r_cn r_ma r_wo r_rs r_ca)) M hP hD hS hl.1 (c_Co_source l g a_co a_ta a_gu a_so a_cn a_de r_co r_so (r_ma 12) v2 y4 hy4) m_732 m_310 m_311 m_3 m_312 hd_Co_source rfl rfl rfl ⟨by decide, by decide⟩ ⟨by decide, by decide⟩ 1 0 rfl rfl rfl [0, 1] [2, 3, 4, 5, 6] [5, 6, 0, 1, 2, 3, 4] rfl rfl rfl rfl (by decide) rfl rfl rfl (Nat.le_of_ble_eq_true rfl) d_Ma_readSources_30 (fun H locs hP hD hS => ?_)
        refine W.eq (g2 := F0 m 33 ls [.int y4, .ref a_ma, .int v2, .ref a_ca]) rfl ?_
        refine lv_aload_n hx hb d_Ma_readSources_33 rfl (lv_at hl 0 rfl) ?_
        refine va_get (D := g.1) (ci := 3) (v := .ref a_co) (C := "MoveDesk$Machine") (T := F_Ma) (N := 16) hx hb hts i_Ma hown hK hP 3 rfl rfl 0 (by decide) (hts _ m_102) (fun _ h9 => h9) rfl d_Ma_readSources_34 ?_
        refine lv_aload_n hx hb d_Ma_readSources_37 rfl (lv_at hl 0 rfl) ?_
        refine va_get (D := g.1) (ci := 3) (v := .int (r_ma 12)) (C := "MoveDesk$Machine") (T := F_Ma) (N := 16) hx hb hts i_Ma hown hK hP 3 rfl rfl 12 (by decide) (hts _ m_115) (fun _ h9 => h9) rfl d_Ma_readSources_38 ?_
        refine lv_iload_n hx hb d_Ma_readSources_41 rfl (lv_at hl 2 rfl) ?_
        obtain ⟨y5, hy5, hE⟩ := bd_at hE
        refine kV (C := "MoveDesk$Code") (index := 104) (As := [.int (r_ma 12), .int v2]) (rest := [.int y4, .ref a_ma, .int v2, .ref a_ca]) (ws2 := (w_co_7_3d79 g a_lat a_co a_ta a_gu a_so a_cn a_de a_ma a_bu a_wo a_od a_rs a_ca a_cm r_co r_so r_cn r_ma r_wo r_rs r_ca)) M hP hD hS hl.1 (c_Co_constant l g a_co a_ta a_gu a_so a_cn a_de r_co r_cn (r_ma 12) v2 y5 hy5) m_733 m_314 m_315 m_3 m_316 hd_Co_constant rfl rfl rfl ⟨by decide, by decide⟩ ⟨by decide, by decide⟩ 1 0 rfl rfl rfl [0, 2] [1, 3, 4, 5, 6] [5, 0, 6, 1, 2, 3, 4] rfl rfl rfl rfl (by decide) rfl rfl rfl (Nat.le_of_ble_eq_true rfl) d_Ma_readSources_42 (fun H locs hP hD hS => ?_)
        refine W.eq (g2 := F0 m 45 ls [.int y5, .int y4, .ref a_ma, .int v2, .ref a_ca]) rfl ?_
        obtain ⟨y6, hy6, hE⟩ := bd_at hE
        refine kV (C := "MoveDesk$Machine") (index := 107) (As := [.int y4, .int y5]) (rest := [.int v2, .ref a_ca]) (ws2 := (w_co_7_3d79 g a_lat a_co a_ta a_gu a_so a_cn a_de a_ma a_bu a_wo a_od a_rs a_ca a_cm r_co r_so r_cn r_ma r_wo r_rs r_ca)) M hP hD hS hl.1 (c_Ma_valueOf l g a_lat a_co a_ma a_bu a_wo a_od a_rs a_ca a_cm r_ma r_wo r_rs y4 y5 y6 hy6) m_734 m_736 s_21 m_4 m_737 hd_Ma_valueOf rfl rfl rfl ⟨by decide, by decide⟩ ⟨by decide, by decide⟩ 3 0 rfl rfl rfl [3, 4, 5] [0, 1, 2, 6] [0, 1, 2, 4, 5, 6, 3] rfl rfl rfl rfl (by decide) rfl rfl rfl (Nat.le_of_ble_eq_true rfl) d_Ma_readSources_45 (fun H locs hP hD hS => ?_)
        refine W.eq (g2 := F0 m 48 ls [.int y6, .int v2, .ref a_ca]) rfl ?_
        have ⟨h7, hE⟩ := ck_at hE
        refine va_iast hx hb hK hP hD hS 6 0 rfl rfl h7 d_Ma_readSources_48 (fun H locs hP hD hS => ?_)
        have hP : va_P g.1 classes (w_co_7_3d79 g a_lat a_co a_ta a_gu a_so a_cn a_de a_ma a_bu a_wo a_od a_rs a_ca a_cm r_co r_so r_cn r_ma r_wo r_rs (upd r_ca v2.toNatClampNeg y6)) H := hP
        have hD : va_D A (w_co_7_3d79 g a_lat a_co a_ta a_gu a_so a_cn a_de a_ma a_bu a_wo a_od a_rs a_ca a_cm r_co r_so r_cn r_ma r_wo r_rs (upd r_ca v2.toNatClampNeg y6)) := hD
        exact wl_Ma_readSources_49 M (f_Ma_readSources_2 n) ih _ _ _ _ _ _ _ _ _ _ _ _ hE hP hD hS (lv_sub hl [0, 1, 2] rfl)
set_option maxHeartbeats 4000000 in
set_option maxRecDepth 100000 in
theorem c_Ma_readSources (l : Launch) (g : GT) (a_lat : Nat) (a_co : Nat) (a_ta : Nat) (a_gu : Nat) (a_so : Nat) (a_cn : Nat) (a_de : Nat) (a_ma : Nat) (a_bu : Nat) (a_wo : Nat) (a_od : Nat) (a_rs : Nat) (a_ca : Nat) (a_cm : Nat) (r_co : Nat → Int32) (r_so : Nat → Int32) (r_cn : Nat → Int32) (r_ma : Nat → Int32) (r_wo : Nat → Int32) (r_rs : Nat → Int32) (r_ca : Nat → Int32) (v1 : Int32) (y : (Nat → Int32)) (hy : some y = f_Ma_readSources r_co r_so r_cn r_ma r_wo r_rs r_ca v1) : Ct l y_Ma_readSources (.code y_Ma_readSources b_Ma_readSources 3 none) rm_Ma_readSources g [.ref a_ma, .int v1] (w_co_7_3d79 g a_lat a_co a_ta a_gu a_so a_cn a_de a_ma a_bu a_wo a_od a_rs a_ca a_cm r_co r_so r_cn r_ma r_wo r_rs r_ca) (w_co_7_3d79 g a_lat a_co a_ta a_gu a_so a_cn a_de a_ma a_bu a_wo a_od a_rs a_ca a_cm r_co r_so r_cn r_ma r_wo r_rs y) none := by
  refine ct_in (C := "MoveDesk$Machine") rfl (by decide) (Nat.le_of_ble_eq_true rfl) (fun p e s m below meth c A ls M hP hD hS hl => ?_)
  obtain ⟨hx, hb, hr, hml, hown, hts, hlocks, hA, hK, hG⟩ := id M
  have hl : lv_has ls 3 [(0, .ref a_ma), (1, .int v1)] := hl
  have hE := hy
  rw [f_Ma_readSources] at hE
  refine lv_iconst (v := 0) hx hb d_Ma_readSources_0 (by decide) ?_
  refine lv_istore_n (lv' := [(2, .int 0), (0, .ref a_ma), (1, .int v1)]) hx hb d_Ma_readSources_1 rfl hl (by decide) rfl (fun ls hl => ?_)
  exact wl_Ma_readSources_2 M 5000 _ _ _ _ _ _ _ _ _ _ _ _ hE hP hD hS (lv_sub hl [1, 2, 0] rfl)
abbrev rm_Ma_writePlaces : Room := { frames := 1, cells := 0, slots := 0, locals := 22 }
set_option maxHeartbeats 4000000 in
set_option maxRecDepth 100000 in
theorem wl_Ma_writePlaces_75 {p : Program} {l : Launch} {e : Env} {s : State} {m : MethodId} {args : Array Value} {below : List Frame} {meth : Method} {c : Code} {A : Nat → Prop} {g : GT} {a_lat : Nat} {a_co : Nat} {a_ta : Nat} {a_gu : Nat} {a_so : Nat} {a_cn : Nat} {a_de : Nat} {a_ma : Nat} {a_bu : Nat} {a_wo : Nat} {a_od : Nat} {a_rs : Nat} {a_ca : Nat} {a_cm : Nat} {y : (Nat → Int32) × (Nat → Int32)} (M : MX p s m args meth c b_Ma_writePlaces 4 none "MoveDesk$Machine" g A) (rec_2 : (Nat → Int32) → (Nat → Int32) → (Nat → Int32) → (Nat → Int32) → (Nat → Int32) → (Nat → Int32) → Int32 → Int32 → Option ((Nat → Int32) × (Nat → Int32))) (hrec_2 : ∀ (r_co : Nat → Int32) (r_de : Nat → Int32) (r_ma : Nat → Int32) (r_wo : Nat → Int32) (r_od : Nat → Int32) (r_ca : Nat → Int32) (v1 : Int32) (v2 : Int32) (H : Heap) (locs : List Loc) (ls : Array Slot), some y = rec_2 r_co r_de r_ma r_wo r_od r_ca v1 v2 → va_P g.1 classes (w_co_de_ma_wo_od_ca g a_lat a_co a_ta a_gu a_so a_cn a_de a_ma a_bu a_wo a_od a_rs a_ca a_cm r_co r_de r_ma r_wo r_od r_ca) H → va_D A (w_co_de_ma_wo_od_ca g a_lat a_co a_ta a_gu a_so a_cn a_de a_ma a_bu a_wo a_od a_rs a_ca a_cm r_co r_de r_ma r_wo r_od r_ca) → va_S A s.heap H locs → lv_has ls 4 [(0, .ref a_ma), (1, .int v1), (2, .int v2)] → W p l e rm_Ma_writePlaces s m args below meth c H locs 0 0 (MQ below (QW g none (w_co_de_ma_wo_od_ca g a_lat a_co a_ta a_gu a_so a_cn a_de a_ma a_bu a_wo a_od a_rs a_ca a_cm r_co r_de r_ma y.1 y.2 r_ca) A) args s 0 0 A) (F0 m 2 ls [])) : ∀ (r_co : Nat → Int32) (r_de : Nat → Int32) (r_ma : Nat → Int32) (r_wo : Nat → Int32) (r_od : Nat → Int32) (r_ca : Nat → Int32) (v1 : Int32) (v2 : Int32) (H : Heap) (locs : List Loc) (ls : Array Slot), some y = (f_Ma_writePlaces_75 rec_2) r_co r_de r_ma r_wo r_od r_ca v1 v2 → va_P g.1 classes (w_co_de_ma_wo_od_ca g a_lat a_co a_ta a_gu a_so a_cn a_de a_ma a_bu a_wo a_od a_rs a_ca a_cm r_co r_de r_ma r_wo r_od r_ca) H → va_D A (w_co_de_ma_wo_od_ca g a_lat a_co a_ta a_gu a_so a_cn a_de a_ma a_bu a_wo a_od a_rs a_ca a_cm r_co r_de r_ma r_wo r_od r_ca) → va_S A s.heap H locs → lv_has ls 4 [(0, .ref a_ma), (1, .int v1), (2, .int v2)] → W p l e rm_Ma_writePlaces s m args below meth c H locs 0 0 (MQ below (QW g none (w_co_de_ma_wo_od_ca g a_lat a_co a_ta a_gu a_so a_cn a_de a_ma a_bu a_wo a_od a_rs a_ca a_cm r_co r_de r_ma y.1 y.2 r_ca) A) args s 0 0 A) (F0 m 75 ls []) := by
  obtain ⟨hx, hb, hr, hml, hown, hts, hlocks, hA, hK, hG⟩ := id M
  intro r_co r_de r_ma r_wo r_od r_ca v1 v2 H locs ls hE hP hD hS hl
  rw [f_Ma_writePlaces_75] at hE
  obtain ⟨x1, ex1⟩ : ∃ z : Int32, z = v2 + 1 := ⟨_, rfl⟩
  have hE := nm_at hE ex1
  refine lv_iinc (v := x1) (lv' := [(2, .int x1), (0, .ref a_ma), (1, .int v1)]) hx hb d_Ma_writePlaces_75 hl (k := 2) rfl (by rw [ex1]; rfl) (by decide) rfl (fun ls hl => ?_)
  refine lv_goto (tgt := 2) hx hb d_Ma_writePlaces_78 (by decide) ?_
  exact hrec_2 _ _ _ _ _ _ _ _ _ _ _ hE hP hD hS (lv_sub hl [1, 2, 0] rfl)
set_option maxHeartbeats 4000000 in
set_option maxRecDepth 100000 in
theorem wl_Ma_writePlaces_33 {p : Program} {l : Launch} {e : Env} {s : State} {m : MethodId} {args : Array Value} {below : List Frame} {meth : Method} {c : Code} {A : Nat → Prop} {g : GT} {a_lat : Nat} {a_co : Nat} {a_ta : Nat} {a_gu : Nat} {a_so : Nat} {a_cn : Nat} {a_de : Nat} {a_ma : Nat} {a_bu : Nat} {a_wo : Nat} {a_od : Nat} {a_rs : Nat} {a_ca : Nat} {a_cm : Nat} {y : (Nat → Int32) × (Nat → Int32)} (M : MX p s m args meth c b_Ma_writePlaces 4 none "MoveDesk$Machine" g A) (rec_2 : (Nat → Int32) → (Nat → Int32) → (Nat → Int32) → (Nat → Int32) → (Nat → Int32) → (Nat → Int32) → Int32 → Int32 → Option ((Nat → Int32) × (Nat → Int32))) (hrec_2 : ∀ (r_co : Nat → Int32) (r_de : Nat → Int32) (r_ma : Nat → Int32) (r_wo : Nat → Int32) (r_od : Nat → Int32) (r_ca : Nat → Int32) (v1 : Int32) (v2 : Int32) (H : Heap) (locs : List Loc) (ls : Array Slot), some y = rec_2 r_co r_de r_ma r_wo r_od r_ca v1 v2 → va_P g.1 classes (w_co_de_ma_wo_od_ca g a_lat a_co a_ta a_gu a_so a_cn a_de a_ma a_bu a_wo a_od a_rs a_ca a_cm r_co r_de r_ma r_wo r_od r_ca) H → va_D A (w_co_de_ma_wo_od_ca g a_lat a_co a_ta a_gu a_so a_cn a_de a_ma a_bu a_wo a_od a_rs a_ca a_cm r_co r_de r_ma r_wo r_od r_ca) → va_S A s.heap H locs → lv_has ls 4 [(0, .ref a_ma), (1, .int v1), (2, .int v2)] → W p l e rm_Ma_writePlaces s m args below meth c H locs 0 0 (MQ below (QW g none (w_co_de_ma_wo_od_ca g a_lat a_co a_ta a_gu a_so a_cn a_de a_ma a_bu a_wo a_od a_rs a_ca a_cm r_co r_de r_ma y.1 y.2 r_ca) A) args s 0 0 A) (F0 m 2 ls [])) : ∀ (r_co : Nat → Int32) (r_de : Nat → Int32) (r_ma : Nat → Int32) (r_wo : Nat → Int32) (r_od : Nat → Int32) (r_ca : Nat → Int32) (v1 : Int32) (v2 : Int32) (v3 : Int32) (H : Heap) (locs : List Loc) (ls : Array Slot), some y = (f_Ma_writePlaces_33 rec_2) r_co r_de r_ma r_wo r_od r_ca v1 v2 v3 → va_P g.1 classes (w_co_de_ma_wo_od_ca g a_lat a_co a_ta a_gu a_so a_cn a_de a_ma a_bu a_wo a_od a_rs a_ca a_cm r_co r_de r_ma r_wo r_od r_ca) H → va_D A (w_co_de_ma_wo_od_ca g a_lat a_co a_ta a_gu a_so a_cn a_de a_ma a_bu a_wo a_od a_rs a_ca a_cm r_co r_de r_ma r_wo r_od r_ca) → va_S A s.heap H locs → lv_has ls 4 [(0, .ref a_ma), (1, .int v1), (2, .int v2), (3, .int v3)] → W p l e rm_Ma_writePlaces s m args below meth c H locs 0 0 (MQ below (QW g none (w_co_de_ma_wo_od_ca g a_lat a_co a_ta a_gu a_so a_cn a_de a_ma a_bu a_wo a_od a_rs a_ca a_cm r_co r_de r_ma y.1 y.2 r_ca) A) args s 0 0 A) (F0 m 33 ls []) := by
  obtain ⟨hx, hb, hr, hml, hown, hts, hlocks, hA, hK, hG⟩ := id M
  intro r_co r_de r_ma r_wo r_od r_ca v1 v2 v3 H locs ls hE hP hD hS hl
  rw [f_Ma_writePlaces_33] at hE
  refine lv_iload_n hx hb d_Ma_writePlaces_33 rfl (lv_at hl 3 rfl) ?_
  refine lv_bipush (v := 8) hx hb d_Ma_writePlaces_34 (by decide) ?_
  refine lv_icmp_ge (tgt := 54) hx hb d_Ma_writePlaces_36 (by decide) (fun c1 => ?_) (fun c1 => ?_)
  · have hE := it_t hE c1
    refine lv_iload_n hx hb d_Ma_writePlaces_54 rfl (lv_at hl 3 rfl) ?_
    refine lv_bipush (v := 11) hx hb d_Ma_writePlaces_55 (by decide) ?_
    refine lv_icmp_ge (tgt := 75) hx hb d_Ma_writePlaces_57 (by decide) (fun c2 => ?_) (fun c2 => ?_)
    · have hE := it_t hE c2
      exact wl_Ma_writePlaces_75 M rec_2 hrec_2 _ _ _ _ _ _ _ _ _ _ _ hE hP hD hS (lv_sub hl [0, 1, 2] rfl)
    · have hE := it_f hE c2
      refine lv_aload_n hx hb d_Ma_writePlaces_60 rfl (lv_at hl 0 rfl) ?_
      refine va_get (D := g.1) (ci := 3) (v := .ref a_od) (C := "MoveDesk$Machine") (T := F_Ma) (N := 16) hx hb hts i_Ma hown hK hP 2 rfl rfl 4 (by decide) (hts _ m_107) (fun _ h9 => h9) rfl d_Ma_writePlaces_61 ?_
      refine lv_iload_n hx hb d_Ma_writePlaces_64 rfl (lv_at hl 3 rfl) ?_
      refine lv_bipush (v := 8) hx hb d_Ma_writePlaces_65 (by decide) ?_
      refine lv_isub hx hb d_Ma_writePlaces_67 ?_
      refine lv_aload_n hx hb d_Ma_writePlaces_68 rfl (lv_at hl 0 rfl) ?_
      refine va_get (D := g.1) (ci := 3) (v := .ref a_ca) (C := "MoveDesk$Machine") (T := F_Ma) (N := 16) hx hb hts i_Ma hown hK hP 2 rfl rfl 6 (by decide) (hts _ m_109) (fun _ h9 => h9) rfl d_Ma_writePlaces_69 ?_
      refine lv_iload_n hx hb d_Ma_writePlaces_72 rfl (lv_at hl 2 rfl) ?_
      have ⟨h3, hE⟩ := ck_at hE
      refine va_iald hx hb hK hP 5 0 rfl rfl h3 d_Ma_writePlaces_73 ?_
      have ⟨h4, hE⟩ := ck_at hE
      refine va_iast hx hb hK hP hD hS 4 0 rfl rfl h4 d_Ma_writePlaces_74 (fun H locs hP hD hS => ?_)
      have hP : va_P g.1 classes (w_co_de_ma_wo_od_ca g a_lat a_co a_ta a_gu a_so a_cn a_de a_ma a_bu a_wo a_od a_rs a_ca a_cm r_co r_de r_ma r_wo (upd r_od (v3 - (8 : Int32)).toNatClampNeg (r_ca v2.toNatClampNeg)) r_ca) H := hP
      have hD : va_D A (w_co_de_ma_wo_od_ca g a_lat a_co a_ta a_gu a_so a_cn a_de a_ma a_bu a_wo a_od a_rs a_ca a_cm r_co r_de r_ma r_wo (upd r_od (v3 - (8 : Int32)).toNatClampNeg (r_ca v2.toNatClampNeg)) r_ca) := hD
      exact wl_Ma_writePlaces_75 M rec_2 hrec_2 _ _ _ _ _ _ _ _ _ _ _ hE hP hD hS (lv_sub hl [0, 1, 2] rfl)
  · have hE := it_f hE c1
    refine lv_aload_n hx hb d_Ma_writePlaces_39 rfl (lv_at hl 0 rfl) ?_
    refine va_get (D := g.1) (ci := 3) (v := .ref a_wo) (C := "MoveDesk$Machine") (T := F_Ma) (N := 16) hx hb hts i_Ma hown hK hP 2 rfl rfl 3 (by decide) (hts _ m_105) (fun _ h9 => h9) rfl d_Ma_writePlaces_40 ?_
    refine lv_iload_n hx hb d_Ma_writePlaces_43 rfl (lv_at hl 3 rfl) ?_
    refine lv_aload_n hx hb d_Ma_writePlaces_44 rfl (lv_at hl 0 rfl) ?_
    refine va_get (D := g.1) (ci := 3) (v := .ref a_ca) (C := "MoveDesk$Machine") (T := F_Ma) (N := 16) hx hb hts i_Ma hown hK hP 2 rfl rfl 6 (by decide) (hts _ m_109) (fun _ h9 => h9) rfl d_Ma_writePlaces_45 ?_
    refine lv_iload_n hx hb d_Ma_writePlaces_48 rfl (lv_at hl 2 rfl) ?_
    have ⟨h5, hE⟩ := ck_at hE
    refine va_iald hx hb hK hP 5 0 rfl rfl h5 d_Ma_writePlaces_49 ?_
    have ⟨h6, hE⟩ := ck_at hE
    refine va_iast hx hb hK hP hD hS 3 0 rfl rfl h6 d_Ma_writePlaces_50 (fun H locs hP hD hS => ?_)
    have hP : va_P g.1 classes (w_co_de_ma_wo_od_ca g a_lat a_co a_ta a_gu a_so a_cn a_de a_ma a_bu a_wo a_od a_rs a_ca a_cm r_co r_de r_ma (upd r_wo v3.toNatClampNeg (r_ca v2.toNatClampNeg)) r_od r_ca) H := hP
    have hD : va_D A (w_co_de_ma_wo_od_ca g a_lat a_co a_ta a_gu a_so a_cn a_de a_ma a_bu a_wo a_od a_rs a_ca a_cm r_co r_de r_ma (upd r_wo v3.toNatClampNeg (r_ca v2.toNatClampNeg)) r_od r_ca) := hD
    refine lv_goto (tgt := 75) hx hb d_Ma_writePlaces_51 (by decide) ?_
    exact wl_Ma_writePlaces_75 M rec_2 hrec_2 _ _ _ _ _ _ _ _ _ _ _ hE hP hD hS (lv_sub hl [0, 1, 2] rfl)
set_option maxHeartbeats 4000000 in
set_option maxRecDepth 100000 in
theorem wl_Ma_writePlaces_2 {p : Program} {l : Launch} {e : Env} {s : State} {m : MethodId} {args : Array Value} {below : List Frame} {meth : Method} {c : Code} {A : Nat → Prop} {g : GT} {a_lat : Nat} {a_co : Nat} {a_ta : Nat} {a_gu : Nat} {a_so : Nat} {a_cn : Nat} {a_de : Nat} {a_ma : Nat} {a_bu : Nat} {a_wo : Nat} {a_od : Nat} {a_rs : Nat} {a_ca : Nat} {a_cm : Nat} {y : (Nat → Int32) × (Nat → Int32)} (M : MX p s m args meth c b_Ma_writePlaces 4 none "MoveDesk$Machine" g A) : ∀ n : Nat, ∀ (r_co : Nat → Int32) (r_de : Nat → Int32) (r_ma : Nat → Int32) (r_wo : Nat → Int32) (r_od : Nat → Int32) (r_ca : Nat → Int32) (v1 : Int32) (v2 : Int32) (H : Heap) (locs : List Loc) (ls : Array Slot), some y = (f_Ma_writePlaces_2 n) r_co r_de r_ma r_wo r_od r_ca v1 v2 → va_P g.1 classes (w_co_de_ma_wo_od_ca g a_lat a_co a_ta a_gu a_so a_cn a_de a_ma a_bu a_wo a_od a_rs a_ca a_cm r_co r_de r_ma r_wo r_od r_ca) H → va_D A (w_co_de_ma_wo_od_ca g a_lat a_co a_ta a_gu a_so a_cn a_de a_ma a_bu a_wo a_od a_rs a_ca a_cm r_co r_de r_ma r_wo r_od r_ca) → va_S A s.heap H locs → lv_has ls 4 [(0, .ref a_ma), (1, .int v1), (2, .int v2)] → W p l e rm_Ma_writePlaces s m args below meth c H locs 0 0 (MQ below (QW g none (w_co_de_ma_wo_od_ca g a_lat a_co a_ta a_gu a_so a_cn a_de a_ma a_bu a_wo a_od a_rs a_ca a_cm r_co r_de r_ma y.1 y.2 r_ca) A) args s 0 0 A) (F0 m 2 ls []) := by
  obtain ⟨hx, hb, hr, hml, hown, hts, hlocks, hA, hK, hG⟩ := id M
  intro n
  induction n with
  | zero =>
    intro r_co r_de r_ma r_wo r_od r_ca v1 v2 H locs ls hE hP hD hS hl
    rw [f_Ma_writePlaces_2] at hE
    cases hE
  | succ n ih =>
    intro r_co r_de r_ma r_wo r_od r_ca v1 v2 H locs ls hE hP hD hS hl
    rw [f_Ma_writePlaces_2] at hE
    refine lv_iload_n hx hb d_Ma_writePlaces_2 rfl (lv_at hl 2 rfl) ?_
    refine lv_iconst (v := 4) hx hb d_Ma_writePlaces_3 (by decide) ?_
    refine lv_icmp_ge (tgt := 81) hx hb d_Ma_writePlaces_4 (by decide) (fun c1 => ?_) (fun c1 => ?_)
    · have hE := it_t hE c1
      have hE := Option.some.inj hE
      rw [hE]
      exact W.vret hx hb hr (fun t ht hW => ⟨⟨rfl, by rw [ht]; exact hP, va_K.moved hW.alike hK, hD⟩, hS.F ht⟩) hS.2.2 d_Ma_writePlaces_81 hlocks
    · have hE := it_f hE c1
      refine lv_iload_n hx hb d_Ma_writePlaces_7 rfl (lv_at hl 1 rfl) ?_
      refine lv_iload_n hx hb d_Ma_writePlaces_8 rfl (lv_at hl 2 rfl) ?_
      obtain ⟨y2, hy2, hE⟩ := bd_at hE
      refine kS (index := 97) (As := [.int v1, .int v2]) (rest := []) (ws2 := (w_co_de_ma_wo_od_ca g a_lat a_co a_ta a_gu a_so a_cn a_de a_ma a_bu a_wo a_od a_rs a_ca a_cm r_co r_de r_ma r_wo r_od r_ca)) M hP hD hS hl.1 (c_Ma_has l g   v1 v2 y2 hy2) m_729 m_730 m_4 m_731 hs_Ma_has rfl rfl rfl ⟨by decide, by decide⟩ ⟨by decide, by decide⟩ [] [0, 1, 2, 3, 4, 5] [0, 1, 2, 3, 4, 5] rfl rfl rfl rfl (by decide) rfl rfl rfl (Nat.le_of_ble_eq_true rfl) d_Ma_writePlaces_9 (fun H locs hP hD hS => ?_)
      refine W.eq (g2 := F0 m 12 ls [.int y2]) rfl ?_
      refine lv_if_eq (tgt := 30) hx hb d_Ma_writePlaces_12 (by decide) (fun c3 => ?_) (fun c3 => ?_)
      · have hE := it_t hE c3
        refine lv_bipush (v := 11) hx hb d_Ma_writePlaces_30 (by decide) ?_
        refine lv_istore_n (lv' := [(3, .int 11), (0, .ref a_ma), (1, .int v1), (2, .int v2)]) hx hb d_Ma_writePlaces_32 rfl hl (by decide) rfl (fun ls hl => ?_)
        exact wl_Ma_writePlaces_33 M (f_Ma_writePlaces_2 n) ih _ _ _ _ _ _ _ _ _ _ _ _ hE hP hD hS (lv_sub hl [1, 2, 3, 0] rfl)
      · have hE := it_f hE c3
        refine lv_aload_n hx hb d_Ma_writePlaces_15 rfl (lv_at hl 0 rfl) ?_
        refine va_get (D := g.1) (ci := 3) (v := .ref a_co) (C := "MoveDesk$Machine") (T := F_Ma) (N := 16) hx hb hts i_Ma hown hK hP 2 rfl rfl 0 (by decide) (hts _ m_102) (fun _ h9 => h9) rfl d_Ma_writePlaces_16 ?_
        refine lv_aload_n hx hb d_Ma_writePlaces_19 rfl (lv_at hl 0 rfl) ?_
        refine va_get (D := g.1) (ci := 3) (v := .int (r_ma 12)) (C := "MoveDesk$Machine") (T := F_Ma) (N := 16) hx hb hts i_Ma hown hK hP 2 rfl rfl 12 (by decide) (hts _ m_115) (fun _ h9 => h9) rfl d_Ma_writePlaces_20 ?_
        refine lv_iload_n hx hb d_Ma_writePlaces_23 rfl (lv_at hl 2 rfl) ?_
        obtain ⟨y4, hy4, hE⟩ := bd_at hE
        refine kV (C := "MoveDesk$Code") (index := 110) (As := [.int (r_ma 12), .int v2]) (rest := []) (ws2 := (w_co_de_ma_wo_od_ca g a_lat a_co a_ta a_gu a_so a_cn a_de a_ma a_bu a_wo a_od a_rs a_ca a_cm r_co r_de r_ma r_wo r_od r_ca)) M hP hD hS hl.1 (c_Co_destination l g a_co a_ta a_gu a_so a_cn a_de r_co r_de (r_ma 12) v2 y4 hy4) m_742 m_318 m_319 m_3 m_320 hd_Co_destination rfl rfl rfl ⟨by decide, by decide⟩ ⟨by decide, by decide⟩ 1 0 rfl rfl rfl [0, 1] [2, 3, 4, 5] [4, 5, 0, 1, 2, 3] rfl rfl rfl rfl (by decide) rfl rfl rfl (Nat.le_of_ble_eq_true rfl) d_Ma_writePlaces_24 (fun H locs hP hD hS => ?_)
        refine W.eq (g2 := F0 m 27 ls [.int y4]) rfl ?_
        refine lv_goto (tgt := 32) hx hb d_Ma_writePlaces_27 (by decide) ?_
        refine lv_istore_n (lv' := [(3, .int y4), (0, .ref a_ma), (1, .int v1), (2, .int v2)]) hx hb d_Ma_writePlaces_32 rfl hl (by decide) rfl (fun ls hl => ?_)
        exact wl_Ma_writePlaces_33 M (f_Ma_writePlaces_2 n) ih _ _ _ _ _ _ _ _ _ _ _ _ hE hP hD hS (lv_sub hl [1, 2, 3, 0] rfl)
set_option maxHeartbeats 4000000 in
set_option maxRecDepth 100000 in
theorem c_Ma_writePlaces (l : Launch) (g : GT) (a_lat : Nat) (a_co : Nat) (a_ta : Nat) (a_gu : Nat) (a_so : Nat) (a_cn : Nat) (a_de : Nat) (a_ma : Nat) (a_bu : Nat) (a_wo : Nat) (a_od : Nat) (a_rs : Nat) (a_ca : Nat) (a_cm : Nat) (r_co : Nat → Int32) (r_de : Nat → Int32) (r_ma : Nat → Int32) (r_wo : Nat → Int32) (r_od : Nat → Int32) (r_ca : Nat → Int32) (v1 : Int32) (y : (Nat → Int32) × (Nat → Int32)) (hy : some y = f_Ma_writePlaces r_co r_de r_ma r_wo r_od r_ca v1) : Ct l y_Ma_writePlaces (.code y_Ma_writePlaces b_Ma_writePlaces 4 none) rm_Ma_writePlaces g [.ref a_ma, .int v1] (w_co_de_ma_wo_od_ca g a_lat a_co a_ta a_gu a_so a_cn a_de a_ma a_bu a_wo a_od a_rs a_ca a_cm r_co r_de r_ma r_wo r_od r_ca) (w_co_de_ma_wo_od_ca g a_lat a_co a_ta a_gu a_so a_cn a_de a_ma a_bu a_wo a_od a_rs a_ca a_cm r_co r_de r_ma y.1 y.2 r_ca) none := by
  refine ct_in (C := "MoveDesk$Machine") rfl (by decide) (Nat.le_of_ble_eq_true rfl) (fun p e s m below meth c A ls M hP hD hS hl => ?_)
  obtain ⟨hx, hb, hr, hml, hown, hts, hlocks, hA, hK, hG⟩ := id M
  have hl : lv_has ls 4 [(0, .ref a_ma), (1, .int v1)] := hl
  have hE := hy
  rw [f_Ma_writePlaces] at hE
  refine lv_iconst (v := 0) hx hb d_Ma_writePlaces_0 (by decide) ?_
  refine lv_istore_n (lv' := [(2, .int 0), (0, .ref a_ma), (1, .int v1)]) hx hb d_Ma_writePlaces_1 rfl hl (by decide) rfl (fun ls hl => ?_)
  exact wl_Ma_writePlaces_2 M 5000 _ _ _ _ _ _ _ _ _ _ _ hE hP hD hS (lv_sub hl [1, 2, 0] rfl)
abbrev rm_Ma_begin : Room := { frames := 0, cells := 0, slots := 0, locals := 0 }
set_option maxHeartbeats 4000000 in
set_option maxRecDepth 100000 in
theorem c_Ma_begin (l : Launch) (g : GT) (a_lat : Nat) (a_co : Nat) (a_ma : Nat) (a_bu : Nat) (a_wo : Nat) (a_od : Nat) (a_rs : Nat) (a_ca : Nat) (a_cm : Nat) (r_lat : Nat → Int32) (r_ma : Nat → Int32) (r_cm : Nat → Int32) (v1 : Int32) (v2 : Int32) (y : (Nat → Int32) × (Nat → Int32)) (hy : some y = f_Ma_begin r_lat r_ma r_cm v1 v2) : Ct l y_Ma_begin (.code y_Ma_begin b_Ma_begin 4 none) rm_Ma_begin g [.ref a_ma, .int v1, .int v2] (w_lat_ma_cm g a_lat a_co a_ma a_bu a_wo a_od a_rs a_ca a_cm r_lat r_ma r_cm) (w_lat_ma_cm g a_lat a_co a_ma a_bu a_wo a_od a_rs a_ca a_cm r_lat y.1 y.2) none := by
  refine ct_in (C := "MoveDesk$Machine") rfl (by decide) (Nat.le_of_ble_eq_true rfl) (fun p e s m below meth c A ls M hP hD hS hl => ?_)
  obtain ⟨hx, hb, hr, hml, hown, hts, hlocks, hA, hK, hG⟩ := id M
  have hl : lv_has ls 4 [(0, .ref a_ma), (1, .int v1), (2, .int v2)] := hl
  have hE := hy
  rw [f_Ma_begin] at hE
  refine lv_iload_n hx hb d_Ma_begin_0 rfl (lv_at hl 1 rfl) ?_
  refine lv_iconst (v := 4) hx hb d_Ma_begin_1 (by decide) ?_
  refine lv_imul hx hb d_Ma_begin_2 ?_
  refine lv_aload_n hx hb d_Ma_begin_3 rfl (lv_at hl 0 rfl) ?_
  refine va_get (D := g.1) (ci := 3) (v := .int (r_ma 9)) (C := "MoveDesk$Machine") (T := F_Ma) (N := 16) hx hb hts i_Ma hown hK hP 1 rfl rfl 9 (by decide) (hts _ m_112) (fun _ h9 => h9) rfl d_Ma_begin_4 ?_
  refine lv_aload_n hx hb d_Ma_begin_7 rfl (lv_at hl 0 rfl) ?_
  refine va_get (D := g.1) (ci := 3) (v := .ref a_lat) (C := "MoveDesk$Machine") (T := F_Ma) (N := 16) hx hb hts i_Ma hown hK hP 1 rfl rfl 1 (by decide) (hts _ m_103) (fun _ h9 => h9) rfl d_Ma_begin_8 ?_
  refine lv_iload_n hx hb d_Ma_begin_11 rfl (lv_at hl 1 rfl) ?_
  have ⟨h1, hE⟩ := ck_at hE
  refine va_iald hx hb hK hP 0 0 rfl rfl h1 d_Ma_begin_12 ?_
  refine lv_iadd hx hb d_Ma_begin_13 ?_
  refine lv_iconst (v := 1) hx hb d_Ma_begin_14 (by decide) ?_
  refine lv_isub hx hb d_Ma_begin_15 ?_
  refine lv_iconst (v := 4) hx hb d_Ma_begin_16 (by decide) ?_
  refine lv_irem hx hb d_Ma_begin_17 (by decide) ?_
  refine lv_iadd hx hb d_Ma_begin_18 ?_
  refine lv_topi (fun x2 ex2 => ?_)
  have hE := nm_at hE ex2
  refine lv_istore_n (lv' := [(3, .int x2), (0, .ref a_ma), (1, .int v1), (2, .int v2)]) hx hb d_Ma_begin_19 rfl hl (by decide) rfl (fun ls hl => ?_)
  refine lv_aload_n hx hb d_Ma_begin_20 rfl (lv_at hl 1 rfl) ?_
  refine va_get (D := g.1) (ci := 3) (v := .ref a_cm) (C := "MoveDesk$Machine") (T := F_Ma) (N := 16) hx hb hts i_Ma hown hK hP 1 rfl rfl 7 (by decide) (hts _ m_110) (fun _ h9 => h9) rfl d_Ma_begin_21 ?_
  refine lv_iload_n hx hb d_Ma_begin_24 rfl (lv_at hl 0 rfl) ?_
  refine lv_iload_n hx hb d_Ma_begin_25 rfl (lv_at hl 3 rfl) ?_
  have ⟨h3, hE⟩ := ck_at hE
  refine va_iast hx hb hK hP hD hS 2 0 rfl rfl h3 d_Ma_begin_26 (fun H locs hP hD hS => ?_)
  have hP : va_P g.1 classes (w_lat_ma_cm g a_lat a_co a_ma a_bu a_wo a_od a_rs a_ca a_cm r_lat r_ma (upd r_cm x2.toNatClampNeg v2)) H := hP
  have hD : va_D A (w_lat_ma_cm g a_lat a_co a_ma a_bu a_wo a_od a_rs a_ca a_cm r_lat r_ma (upd r_cm x2.toNatClampNeg v2)) := hD
  refine lv_aload_n hx hb d_Ma_begin_27 rfl (lv_at hl 1 rfl) ?_
  refine lv_dup hx hb d_Ma_begin_28 rfl ?_
  refine va_get (D := g.1) (ci := 3) (v := .int (r_ma 8)) (C := "MoveDesk$Machine") (T := F_Ma) (N := 16) hx hb hts i_Ma hown hK hP 1 rfl rfl 8 (by decide) (hts _ m_111) (fun _ h9 => h9) rfl d_Ma_begin_29 ?_
  refine lv_iconst (v := 1) hx hb d_Ma_begin_32 (by decide) ?_
  refine lv_iload_n hx hb d_Ma_begin_33 rfl (lv_at hl 0 rfl) ?_
  refine lv_ishl hx hb d_Ma_begin_34 ?_
  refine lv_ior hx hb d_Ma_begin_35 ?_
  refine lv_topi (fun x4 ex4 => ?_)
  have hE := nm_at hE ex4
  refine va_put (D := g.1) (ci := 3) (v := .int x4) (ty := .int) (C := "MoveDesk$Machine") (T := F_Ma) (N := 16) hx hb hts i_Ma t_Ma t_Ma_ok n_Ma hown hK hP hD hS 1 rfl rfl 8 (by decide) (hts _ m_111) (fun _ h9 => h9) rfl (by decide +kernel) rfl rfl (Nat.le_of_ble_eq_true rfl) d_Ma_begin_36 (fun H locs hP hD hS => ?_)
  have hP : va_P g.1 classes (w_lat_ma_cm g a_lat a_co a_ma a_bu a_wo a_od a_rs a_ca a_cm r_lat (upd r_ma 8 x4) (upd r_cm x2.toNatClampNeg v2)) H := hP
  have hD : va_D A (w_lat_ma_cm g a_lat a_co a_ma a_bu a_wo a_od a_rs a_ca a_cm r_lat (upd r_ma 8 x4) (upd r_cm x2.toNatClampNeg v2)) := hD
  have hE := Option.some.inj hE
  rw [hE]
  exact W.vret hx hb hr (fun t ht hW => ⟨⟨rfl, by rw [ht]; exact hP, va_K.moved hW.alike hK, hD⟩, hS.F ht⟩) hS.2.2 d_Ma_begin_39 hlocks
abbrev rm_Ma_setGuard : Room := { frames := 0, cells := 0, slots := 0, locals := 0 }
set_option maxHeartbeats 4000000 in
set_option maxRecDepth 100000 in
theorem c_Ma_setGuard (l : Launch) (g : GT) (a_lat : Nat) (a_co : Nat) (a_ma : Nat) (a_bu : Nat) (a_wo : Nat) (a_od : Nat) (a_rs : Nat) (a_ca : Nat) (a_cm : Nat) (r_ma : Nat → Int32) (v1 : Int32) (v2 : Int32) (y : (Nat → Int32)) (hy : some y = f_Ma_setGuard r_ma v1 v2) : Ct l y_Ma_setGuard (.code y_Ma_setGuard b_Ma_setGuard 3 none) rm_Ma_setGuard g [.ref a_ma, .int v1, .int v2] (w_ma g a_lat a_co a_ma a_bu a_wo a_od a_rs a_ca a_cm r_ma) (w_ma g a_lat a_co a_ma a_bu a_wo a_od a_rs a_ca a_cm y) none := by
  refine ct_in (C := "MoveDesk$Machine") rfl (by decide) (Nat.le_of_ble_eq_true rfl) (fun p e s m below meth c A ls M hP hD hS hl => ?_)
  obtain ⟨hx, hb, hr, hml, hown, hts, hlocks, hA, hK, hG⟩ := id M
  have hl : lv_has ls 3 [(0, .ref a_ma), (1, .int v1), (2, .int v2)] := hl
  have hE := hy
  rw [f_Ma_setGuard] at hE
  refine lv_aload_n hx hb d_Ma_setGuard_0 rfl (lv_at hl 0 rfl) ?_
  refine lv_iload_n hx hb d_Ma_setGuard_1 rfl (lv_at hl 2 rfl) ?_
  refine lv_if_eq (tgt := 16) hx hb d_Ma_setGuard_2 (by decide) (fun c1 => ?_) (fun c1 => ?_)
  · have hE := it_t hE c1
    refine lv_aload_n hx hb d_Ma_setGuard_16 rfl (lv_at hl 0 rfl) ?_
    refine va_get (D := g.1) (ci := 3) (v := .int (r_ma 11)) (C := "MoveDesk$Machine") (T := F_Ma) (N := 16) hx hb hts i_Ma hown hK hP 0 rfl rfl 11 (by decide) (hts _ m_114) (fun _ h9 => h9) rfl d_Ma_setGuard_17 ?_
    refine lv_iconst (v := 1) hx hb d_Ma_setGuard_20 (by decide) ?_
    refine lv_iload_n hx hb d_Ma_setGuard_21 rfl (lv_at hl 1 rfl) ?_
    refine lv_ishl hx hb d_Ma_setGuard_22 ?_
    refine lv_iconst (v := (-1)) hx hb d_Ma_setGuard_23 (by decide) ?_
    refine lv_ixor hx hb d_Ma_setGuard_24 ?_
    refine lv_iand hx hb d_Ma_setGuard_25 ?_
    refine lv_topi (fun x2 ex2 => ?_)
    have hE := nm_at hE ex2
    refine va_put (D := g.1) (ci := 3) (v := .int x2) (ty := .int) (C := "MoveDesk$Machine") (T := F_Ma) (N := 16) hx hb hts i_Ma t_Ma t_Ma_ok n_Ma hown hK hP hD hS 0 rfl rfl 11 (by decide) (hts _ m_114) (fun _ h9 => h9) rfl (by decide +kernel) rfl rfl (Nat.le_of_ble_eq_true rfl) d_Ma_setGuard_26 (fun H locs hP hD hS => ?_)
    have hP : va_P g.1 classes (w_ma g a_lat a_co a_ma a_bu a_wo a_od a_rs a_ca a_cm (upd r_ma 11 x2)) H := hP
    have hD : va_D A (w_ma g a_lat a_co a_ma a_bu a_wo a_od a_rs a_ca a_cm (upd r_ma 11 x2)) := hD
    have hE := Option.some.inj hE
    rw [hE]
    exact W.vret hx hb hr (fun t ht hW => ⟨⟨rfl, by rw [ht]; exact hP, va_K.moved hW.alike hK, hD⟩, hS.F ht⟩) hS.2.2 d_Ma_setGuard_29 hlocks
  · have hE := it_f hE c1
    refine lv_aload_n hx hb d_Ma_setGuard_5 rfl (lv_at hl 0 rfl) ?_
    refine va_get (D := g.1) (ci := 3) (v := .int (r_ma 11)) (C := "MoveDesk$Machine") (T := F_Ma) (N := 16) hx hb hts i_Ma hown hK hP 0 rfl rfl 11 (by decide) (hts _ m_114) (fun _ h9 => h9) rfl d_Ma_setGuard_6 ?_
    refine lv_iconst (v := 1) hx hb d_Ma_setGuard_9 (by decide) ?_
    refine lv_iload_n hx hb d_Ma_setGuard_10 rfl (lv_at hl 1 rfl) ?_
    refine lv_ishl hx hb d_Ma_setGuard_11 ?_
    refine lv_ior hx hb d_Ma_setGuard_12 ?_
    refine lv_goto (tgt := 26) hx hb d_Ma_setGuard_13 (by decide) ?_
    refine lv_topi (fun x3 ex3 => ?_)
    have hE := nm_at hE ex3
    refine va_put (D := g.1) (ci := 3) (v := .int x3) (ty := .int) (C := "MoveDesk$Machine") (T := F_Ma) (N := 16) hx hb hts i_Ma t_Ma t_Ma_ok n_Ma hown hK hP hD hS 0 rfl rfl 11 (by decide) (hts _ m_114) (fun _ h9 => h9) rfl (by decide +kernel) rfl rfl (Nat.le_of_ble_eq_true rfl) d_Ma_setGuard_26 (fun H locs hP hD hS => ?_)
    have hP : va_P g.1 classes (w_ma g a_lat a_co a_ma a_bu a_wo a_od a_rs a_ca a_cm (upd r_ma 11 x3)) H := hP
    have hD : va_D A (w_ma g a_lat a_co a_ma a_bu a_wo a_od a_rs a_ca a_cm (upd r_ma 11 x3)) := hD
    have hE := Option.some.inj hE
    rw [hE]
    exact W.vret hx hb hr (fun t ht hW => ⟨⟨rfl, by rw [ht]; exact hP, va_K.moved hW.alike hK, hD⟩, hS.F ht⟩) hS.2.2 d_Ma_setGuard_29 hlocks
abbrev rm_Ma_pull : Room := { frames := 1, cells := 0, slots := 0, locals := 23 }
set_option maxHeartbeats 4000000 in
set_option maxRecDepth 100000 in
theorem wl_Ma_pull_189 {p : Program} {l : Launch} {e : Env} {s : State} {m : MethodId} {args : Array Value} {below : List Frame} {meth : Method} {c : Code} {A : Nat → Prop} {g : GT} {a_lat : Nat} {a_co : Nat} {a_ma : Nat} {a_bu : Nat} {a_wo : Nat} {a_od : Nat} {a_rs : Nat} {a_ca : Nat} {a_cm : Nat} {y : (Nat → Int32) × (Nat → Int32) × (Nat → Int32)} (M : MX p s m args meth c b_Ma_pull 3 none "MoveDesk$Machine" g A) : ∀ (r_lat : Nat → Int32) (r_ma : Nat → Int32) (r_wo : Nat → Int32) (r_od : Nat → Int32) (r_cm : Nat → Int32) (v1 : Int32) (v2 : Int32) (H : Heap) (locs : List Loc) (ls : Array Slot), some y = f_Ma_pull_189 r_lat r_ma r_wo r_od r_cm v1 v2 → va_P g.1 classes (w_lat_ma_wo_od_cm g a_lat a_co a_ma a_bu a_wo a_od a_rs a_ca a_cm r_lat r_ma r_wo r_od r_cm) H → va_D A (w_lat_ma_wo_od_cm g a_lat a_co a_ma a_bu a_wo a_od a_rs a_ca a_cm r_lat r_ma r_wo r_od r_cm) → va_S A s.heap H locs → lv_has ls 3 [(0, .ref a_ma), (1, .int v1), (2, .int v2)] → W p l e rm_Ma_pull s m args below meth c H locs 0 0 (MQ below (QW g none (w_lat_ma_wo_od_cm g a_lat a_co a_ma a_bu a_wo a_od a_rs a_ca a_cm r_lat y.1 y.2.1 r_od y.2.2) A) args s 0 0 A) (F0 m 189 ls []) := by
  obtain ⟨hx, hb, hr, hml, hown, hts, hlocks, hA, hK, hG⟩ := id M
  intro r_lat r_ma r_wo r_od r_cm v1 v2 H locs ls hE hP hD hS hl
  rw [f_Ma_pull_189] at hE
  refine lv_iload_n hx hb d_Ma_pull_189 rfl (lv_at hl 1 rfl) ?_
  refine lv_bipush (v := 24) hx hb d_Ma_pull_190 (by decide) ?_
  refine lv_icmp_ne (tgt := 211) hx hb d_Ma_pull_192 (by decide) (fun c1 => ?_) (fun c1 => ?_)
  · have hE := it_f hE c1
    refine lv_iload_n hx hb d_Ma_pull_211 rfl (lv_at hl 1 rfl) ?_
    refine lv_bipush (v := 25) hx hb d_Ma_pull_212 (by decide) ?_
    refine lv_icmp_ne (tgt := 222) hx hb d_Ma_pull_214 (by decide) (fun c2 => ?_) (fun c2 => ?_)
    · have hE := it_f hE c2
      have hE := Option.some.inj hE
      rw [hE]
      exact W.vret hx hb hr (fun t ht hW => ⟨⟨rfl, by rw [ht]; exact hP, va_K.moved hW.alike hK, hD⟩, hS.F ht⟩) hS.2.2 d_Ma_pull_222 hlocks
    · have hE := it_t hE c2
      refine lv_aload_n hx hb d_Ma_pull_217 rfl (lv_at hl 0 rfl) ?_
      refine lv_iconst (v := 1) hx hb d_Ma_pull_218 (by decide) ?_
      refine va_put (D := g.1) (ci := 3) (v := .int 1) (ty := .boolean) (C := "MoveDesk$Machine") (T := F_Ma) (N := 16) hx hb hts i_Ma t_Ma t_Ma_ok n_Ma hown hK hP hD hS 1 rfl rfl 15 (by decide) (hts _ m_118) (fun _ h9 => h9) rfl (by decide +kernel) rfl rfl (Nat.le_of_ble_eq_true rfl) d_Ma_pull_219 (fun H locs hP hD hS => ?_)
      have hP : va_P g.1 classes (w_lat_ma_wo_od_cm g a_lat a_co a_ma a_bu a_wo a_od a_rs a_ca a_cm r_lat (upd r_ma 15 1) r_wo r_od r_cm) H := hP
      have hD : va_D A (w_lat_ma_wo_od_cm g a_lat a_co a_ma a_bu a_wo a_od a_rs a_ca a_cm r_lat (upd r_ma 15 1) r_wo r_od r_cm) := hD
      have hE := Option.some.inj hE
      rw [hE]
      exact W.vret hx hb hr (fun t ht hW => ⟨⟨rfl, by rw [ht]; exact hP, va_K.moved hW.alike hK, hD⟩, hS.F ht⟩) hS.2.2 d_Ma_pull_222 hlocks
  · have hE := it_t hE c1
    refine lv_aload_n hx hb d_Ma_pull_195 rfl (lv_at hl 0 rfl) ?_
    refine lv_iconst (v := 3) hx hb d_Ma_pull_196 (by decide) ?_
    refine va_put (D := g.1) (ci := 3) (v := .int 3) (ty := .int) (C := "MoveDesk$Machine") (T := F_Ma) (N := 16) hx hb hts i_Ma t_Ma t_Ma_ok n_Ma hown hK hP hD hS 1 rfl rfl 13 (by decide) (hts _ m_116) (fun _ h9 => h9) rfl (by decide +kernel) rfl rfl (Nat.le_of_ble_eq_true rfl) d_Ma_pull_197 (fun H locs hP hD hS => ?_)
    have hP : va_P g.1 classes (w_lat_ma_wo_od_cm g a_lat a_co a_ma a_bu a_wo a_od a_rs a_ca a_cm r_lat (upd r_ma 13 3) r_wo r_od r_cm) H := hP
    have hD : va_D A (w_lat_ma_wo_od_cm g a_lat a_co a_ma a_bu a_wo a_od a_rs a_ca a_cm r_lat (upd r_ma 13 3) r_wo r_od r_cm) := hD
    refine lv_aload_n hx hb d_Ma_pull_200 rfl (lv_at hl 0 rfl) ?_
    refine lv_iload_n hx hb d_Ma_pull_201 rfl (lv_at hl 2 rfl) ?_
    obtain ⟨y3, hy3, hE⟩ := bd_at hE
    refine kSN (index := 128) (As := [.int v2]) (rest := [.ref a_ma]) (ws2 := (w_lat_ma_wo_od_cm g a_lat a_co a_ma a_bu a_wo a_od a_rs a_ca a_cm r_lat (upd r_ma 13 3) r_wo r_od r_cm)) M hP hD hS hl.1 (c_Md_wrapCycle l g   v2 y3 hy3) nw_762 m_417 m_1 m_418 hs_Md_wrapCycle rfl rfl rfl ⟨by decide, by decide⟩ ⟨by decide, by decide⟩ [] [0, 1, 2, 3, 4] [0, 1, 2, 3, 4] rfl rfl rfl rfl (by decide) rfl rfl rfl (Nat.le_of_ble_eq_true rfl) d_Ma_pull_202 (fun H locs hP hD hS => ?_)
    refine W.eq (g2 := F0 m 205 ls [.int y3, .ref a_ma]) rfl ?_
    refine va_put (D := g.1) (ci := 3) (v := .int y3) (ty := .int) (C := "MoveDesk$Machine") (T := F_Ma) (N := 16) hx hb hts i_Ma t_Ma t_Ma_ok n_Ma hown hK hP hD hS 1 rfl rfl 14 (by decide) (hts _ m_117) (fun _ h9 => h9) rfl (by decide +kernel) rfl rfl (Nat.le_of_ble_eq_true rfl) d_Ma_pull_205 (fun H locs hP hD hS => ?_)
    have hP : va_P g.1 classes (w_lat_ma_wo_od_cm g a_lat a_co a_ma a_bu a_wo a_od a_rs a_ca a_cm r_lat (upd (upd r_ma 13 3) 14 y3) r_wo r_od r_cm) H := hP
    have hD : va_D A (w_lat_ma_wo_od_cm g a_lat a_co a_ma a_bu a_wo a_od a_rs a_ca a_cm r_lat (upd (upd r_ma 13 3) 14 y3) r_wo r_od r_cm) := hD
    refine lv_goto (tgt := 222) hx hb d_Ma_pull_208 (by decide) ?_
    have hE := Option.some.inj hE
    rw [hE]
    exact W.vret hx hb hr (fun t ht hW => ⟨⟨rfl, by rw [ht]; exact hP, va_K.moved hW.alike hK, hD⟩, hS.F ht⟩) hS.2.2 d_Ma_pull_222 hlocks
set_option maxHeartbeats 4000000 in
set_option maxRecDepth 100000 in
theorem wl_Ma_pull_151 {p : Program} {l : Launch} {e : Env} {s : State} {m : MethodId} {args : Array Value} {below : List Frame} {meth : Method} {c : Code} {A : Nat → Prop} {g : GT} {a_lat : Nat} {a_co : Nat} {a_ma : Nat} {a_bu : Nat} {a_wo : Nat} {a_od : Nat} {a_rs : Nat} {a_ca : Nat} {a_cm : Nat} {y : (Nat → Int32) × (Nat → Int32) × (Nat → Int32)} (M : MX p s m args meth c b_Ma_pull 3 none "MoveDesk$Machine" g A) : ∀ (r_lat : Nat → Int32) (r_ma : Nat → Int32) (r_wo : Nat → Int32) (r_od : Nat → Int32) (r_cm : Nat → Int32) (v1 : Int32) (v2 : Int32) (H : Heap) (locs : List Loc) (ls : Array Slot), some y = f_Ma_pull_151 r_lat r_ma r_wo r_od r_cm v1 v2 → va_P g.1 classes (w_lat_ma_wo_od_cm g a_lat a_co a_ma a_bu a_wo a_od a_rs a_ca a_cm r_lat r_ma r_wo r_od r_cm) H → va_D A (w_lat_ma_wo_od_cm g a_lat a_co a_ma a_bu a_wo a_od a_rs a_ca a_cm r_lat r_ma r_wo r_od r_cm) → va_S A s.heap H locs → lv_has ls 3 [(0, .ref a_ma), (1, .int v1), (2, .int v2)] → W p l e rm_Ma_pull s m args below meth c H locs 0 0 (MQ below (QW g none (w_lat_ma_wo_od_cm g a_lat a_co a_ma a_bu a_wo a_od a_rs a_ca a_cm r_lat y.1 y.2.1 r_od y.2.2) A) args s 0 0 A) (F0 m 151 ls []) := by
  obtain ⟨hx, hb, hr, hml, hown, hts, hlocks, hA, hK, hG⟩ := id M
  intro r_lat r_ma r_wo r_od r_cm v1 v2 H locs ls hE hP hD hS hl
  rw [f_Ma_pull_151] at hE
  refine lv_iload_n hx hb d_Ma_pull_151 rfl (lv_at hl 1 rfl) ?_
  refine lv_bipush (v := 20) hx hb d_Ma_pull_152 (by decide) ?_
  refine lv_icmp_lt (tgt := 189) hx hb d_Ma_pull_154 (by decide) (fun c1 => ?_) (fun c1 => ?_)
  · have hE := it_t hE c1
    exact wl_Ma_pull_189 M _ _ _ _ _ _ _ _ _ _ hE hP hD hS (lv_sub hl [0, 1, 2] rfl)
  · have hE := it_f hE c1
    refine lv_iload_n hx hb d_Ma_pull_157 rfl (lv_at hl 1 rfl) ?_
    refine lv_bipush (v := 24) hx hb d_Ma_pull_158 (by decide) ?_
    refine lv_icmp_ge (tgt := 189) hx hb d_Ma_pull_160 (by decide) (fun c2 => ?_) (fun c2 => ?_)
    · have hE := it_t hE c2
      exact wl_Ma_pull_189 M _ _ _ _ _ _ _ _ _ _ hE hP hD hS (lv_sub hl [0, 1, 2] rfl)
    · have hE := it_f hE c2
      refine lv_aload_n hx hb d_Ma_pull_163 rfl (lv_at hl 0 rfl) ?_
      refine lv_iload_n hx hb d_Ma_pull_164 rfl (lv_at hl 1 rfl) ?_
      refine lv_bipush (v := 20) hx hb d_Ma_pull_165 (by decide) ?_
      refine lv_isub hx hb d_Ma_pull_167 ?_
      refine lv_aload_n hx hb d_Ma_pull_168 rfl (lv_at hl 0 rfl) ?_
      refine va_get (D := g.1) (ci := 3) (v := .ref a_od) (C := "MoveDesk$Machine") (T := F_Ma) (N := 16) hx hb hts i_Ma hown hK hP 1 rfl rfl 4 (by decide) (hts _ m_107) (fun _ h9 => h9) rfl d_Ma_pull_169 ?_
      refine lv_iconst (v := 0) hx hb d_Ma_pull_172 (by decide) ?_
      have ⟨h3, hE⟩ := ck_at hE
      refine va_iald hx hb hK hP 3 0 rfl rfl h3 d_Ma_pull_173 ?_
      refine lv_iload_n hx hb d_Ma_pull_174 rfl (lv_at hl 2 rfl) ?_
      refine lv_icmp_ge (tgt := 182) hx hb d_Ma_pull_175 (by decide) (fun c4 => ?_) (fun c4 => ?_)
      · have hE := it_t hE c4
        refine lv_iconst (v := 0) hx hb d_Ma_pull_182 (by decide) ?_
        obtain ⟨y5, hy5, hE⟩ := bd_at hE
        refine kV (C := "MoveDesk$Machine") (index := 124) (As := [.int (v1 - (20 : Int32)), .int 0]) (rest := []) (ws2 := (w_lat_ma_wo_od_cm g a_lat a_co a_ma a_bu a_wo a_od a_rs a_ca a_cm r_lat y5 r_wo r_od r_cm)) M hP hD hS hl.1 (c_Ma_setGuard l g a_lat a_co a_ma a_bu a_wo a_od a_rs a_ca a_cm r_ma (v1 - (20 : Int32)) (0 : Int32) y5 hy5) m_758 m_760 s_26 m_4 m_761 hd_Ma_setGuard rfl rfl rfl ⟨by decide, by decide⟩ ⟨by decide, by decide⟩ 3 0 rfl rfl rfl [1] [0, 2, 3, 4] [0, 4, 1, 2, 3] rfl rfl rfl rfl (by decide) rfl rfl rfl (Nat.le_of_ble_eq_true rfl) d_Ma_pull_183 (fun H locs hP hD hS => ?_)
        refine W.eq (g2 := F0 m 186 ls []) rfl ?_
        refine lv_goto (tgt := 222) hx hb d_Ma_pull_186 (by decide) ?_
        have hE := Option.some.inj hE
        rw [hE]
        exact W.vret hx hb hr (fun t ht hW => ⟨⟨rfl, by rw [ht]; exact hP, va_K.moved hW.alike hK, hD⟩, hS.F ht⟩) hS.2.2 d_Ma_pull_222 hlocks
      · have hE := it_f hE c4
        refine lv_iconst (v := 1) hx hb d_Ma_pull_178 (by decide) ?_
        refine lv_goto (tgt := 183) hx hb d_Ma_pull_179 (by decide) ?_
        obtain ⟨y6, hy6, hE⟩ := bd_at hE
        refine kV (C := "MoveDesk$Machine") (index := 124) (As := [.int (v1 - (20 : Int32)), .int 1]) (rest := []) (ws2 := (w_lat_ma_wo_od_cm g a_lat a_co a_ma a_bu a_wo a_od a_rs a_ca a_cm r_lat y6 r_wo r_od r_cm)) M hP hD hS hl.1 (c_Ma_setGuard l g a_lat a_co a_ma a_bu a_wo a_od a_rs a_ca a_cm r_ma (v1 - (20 : Int32)) (1 : Int32) y6 hy6) m_758 m_760 s_26 m_4 m_761 hd_Ma_setGuard rfl rfl rfl ⟨by decide, by decide⟩ ⟨by decide, by decide⟩ 3 0 rfl rfl rfl [1] [0, 2, 3, 4] [0, 4, 1, 2, 3] rfl rfl rfl rfl (by decide) rfl rfl rfl (Nat.le_of_ble_eq_true rfl) d_Ma_pull_183 (fun H locs hP hD hS => ?_)
        refine W.eq (g2 := F0 m 186 ls []) rfl ?_
        refine lv_goto (tgt := 222) hx hb d_Ma_pull_186 (by decide) ?_
        have hE := Option.some.inj hE
        rw [hE]
        exact W.vret hx hb hr (fun t ht hW => ⟨⟨rfl, by rw [ht]; exact hP, va_K.moved hW.alike hK, hD⟩, hS.F ht⟩) hS.2.2 d_Ma_pull_222 hlocks
set_option maxHeartbeats 4000000 in
set_option maxRecDepth 100000 in
theorem c_Ma_pull (l : Launch) (g : GT) (a_lat : Nat) (a_co : Nat) (a_ma : Nat) (a_bu : Nat) (a_wo : Nat) (a_od : Nat) (a_rs : Nat) (a_ca : Nat) (a_cm : Nat) (r_lat : Nat → Int32) (r_ma : Nat → Int32) (r_wo : Nat → Int32) (r_od : Nat → Int32) (r_cm : Nat → Int32) (v1 : Int32) (v2 : Int32) (y : (Nat → Int32) × (Nat → Int32) × (Nat → Int32)) (hy : some y = f_Ma_pull r_lat r_ma r_wo r_od r_cm v1 v2) : Ct l y_Ma_pull (.code y_Ma_pull b_Ma_pull 3 none) rm_Ma_pull g [.ref a_ma, .int v1, .int v2] (w_lat_ma_wo_od_cm g a_lat a_co a_ma a_bu a_wo a_od a_rs a_ca a_cm r_lat r_ma r_wo r_od r_cm) (w_lat_ma_wo_od_cm g a_lat a_co a_ma a_bu a_wo a_od a_rs a_ca a_cm r_lat y.1 y.2.1 r_od y.2.2) none := by
  refine ct_in (C := "MoveDesk$Machine") rfl (by decide) (Nat.le_of_ble_eq_true rfl) (fun p e s m below meth c A ls M hP hD hS hl => ?_)
  obtain ⟨hx, hb, hr, hml, hown, hts, hlocks, hA, hK, hG⟩ := id M
  have hl : lv_has ls 3 [(0, .ref a_ma), (1, .int v1), (2, .int v2)] := hl
  have hE := hy
  rw [f_Ma_pull] at hE
  refine lv_iload_n hx hb d_Ma_pull_0 rfl (lv_at hl 1 rfl) ?_
  refine lv_bipush (v := 11) hx hb d_Ma_pull_1 (by decide) ?_
  refine lv_icmp_ne (tgt := 22) hx hb d_Ma_pull_3 (by decide) (fun c1 => ?_) (fun c1 => ?_)
  · have hE := it_f hE c1
    refine lv_iload_n hx hb d_Ma_pull_22 rfl (lv_at hl 1 rfl) ?_
    refine lv_bipush (v := 12) hx hb d_Ma_pull_23 (by decide) ?_
    refine lv_icmp_ne (tgt := 44) hx hb d_Ma_pull_25 (by decide) (fun c2 => ?_) (fun c2 => ?_)
    · have hE := it_f hE c2
      refine lv_iload_n hx hb d_Ma_pull_44 rfl (lv_at hl 1 rfl) ?_
      refine lv_bipush (v := 13) hx hb d_Ma_pull_45 (by decide) ?_
      refine lv_icmp_ne (tgt := 66) hx hb d_Ma_pull_47 (by decide) (fun c3 => ?_) (fun c3 => ?_)
      · have hE := it_f hE c3
        refine lv_iload_n hx hb d_Ma_pull_66 rfl (lv_at hl 1 rfl) ?_
        refine lv_bipush (v := 14) hx hb d_Ma_pull_67 (by decide) ?_
        refine lv_icmp_ne (tgt := 89) hx hb d_Ma_pull_69 (by decide) (fun c4 => ?_) (fun c4 => ?_)
        · have hE := it_f hE c4
          refine lv_iload_n hx hb d_Ma_pull_89 rfl (lv_at hl 1 rfl) ?_
          refine lv_bipush (v := 15) hx hb d_Ma_pull_90 (by decide) ?_
          refine lv_icmp_ne (tgt := 113) hx hb d_Ma_pull_92 (by decide) (fun c5 => ?_) (fun c5 => ?_)
          · have hE := it_f hE c5
            refine lv_iload_n hx hb d_Ma_pull_113 rfl (lv_at hl 1 rfl) ?_
            refine lv_bipush (v := 16) hx hb d_Ma_pull_114 (by decide) ?_
            refine lv_icmp_lt (tgt := 151) hx hb d_Ma_pull_116 (by decide) (fun c6 => ?_) (fun c6 => ?_)
            · have hE := it_t hE c6
              exact wl_Ma_pull_151 M _ _ _ _ _ _ _ _ _ _ hE hP hD hS (lv_sub hl [0, 1, 2] rfl)
            · have hE := it_f hE c6
              refine lv_iload_n hx hb d_Ma_pull_119 rfl (lv_at hl 1 rfl) ?_
              refine lv_bipush (v := 20) hx hb d_Ma_pull_120 (by decide) ?_
              refine lv_icmp_ge (tgt := 151) hx hb d_Ma_pull_122 (by decide) (fun c7 => ?_) (fun c7 => ?_)
              · have hE := it_t hE c7
                exact wl_Ma_pull_151 M _ _ _ _ _ _ _ _ _ _ hE hP hD hS (lv_sub hl [0, 1, 2] rfl)
              · have hE := it_f hE c7
                refine lv_aload_n hx hb d_Ma_pull_125 rfl (lv_at hl 0 rfl) ?_
                refine lv_iload_n hx hb d_Ma_pull_126 rfl (lv_at hl 1 rfl) ?_
                refine lv_bipush (v := 16) hx hb d_Ma_pull_127 (by decide) ?_
                refine lv_isub hx hb d_Ma_pull_129 ?_
                refine lv_aload_n hx hb d_Ma_pull_130 rfl (lv_at hl 0 rfl) ?_
                refine va_get (D := g.1) (ci := 3) (v := .ref a_od) (C := "MoveDesk$Machine") (T := F_Ma) (N := 16) hx hb hts i_Ma hown hK hP 1 rfl rfl 4 (by decide) (hts _ m_107) (fun _ h9 => h9) rfl d_Ma_pull_131 ?_
                refine lv_iconst (v := 0) hx hb d_Ma_pull_134 (by decide) ?_
                have ⟨h8, hE⟩ := ck_at hE
                refine va_iald hx hb hK hP 3 0 rfl rfl h8 d_Ma_pull_135 ?_
                refine lv_iload_n hx hb d_Ma_pull_136 rfl (lv_at hl 2 rfl) ?_
                refine lv_icmp_ne (tgt := 144) hx hb d_Ma_pull_137 (by decide) (fun c9 => ?_) (fun c9 => ?_)
                · have hE := it_f hE c9
                  refine lv_iconst (v := 0) hx hb d_Ma_pull_144 (by decide) ?_
                  obtain ⟨y10, hy10, hE⟩ := bd_at hE
                  refine kV (C := "MoveDesk$Machine") (index := 124) (As := [.int (v1 - (16 : Int32)), .int 0]) (rest := []) (ws2 := (w_lat_ma_wo_od_cm g a_lat a_co a_ma a_bu a_wo a_od a_rs a_ca a_cm r_lat y10 r_wo r_od r_cm)) M hP hD hS hl.1 (c_Ma_setGuard l g a_lat a_co a_ma a_bu a_wo a_od a_rs a_ca a_cm r_ma (v1 - (16 : Int32)) (0 : Int32) y10 hy10) m_758 m_760 s_26 m_4 m_761 hd_Ma_setGuard rfl rfl rfl ⟨by decide, by decide⟩ ⟨by decide, by decide⟩ 3 0 rfl rfl rfl [1] [0, 2, 3, 4] [0, 4, 1, 2, 3] rfl rfl rfl rfl (by decide) rfl rfl rfl (Nat.le_of_ble_eq_true rfl) d_Ma_pull_145 (fun H locs hP hD hS => ?_)
                  refine W.eq (g2 := F0 m 148 ls []) rfl ?_
                  refine lv_goto (tgt := 222) hx hb d_Ma_pull_148 (by decide) ?_
                  have hE := Option.some.inj hE
                  rw [hE]
                  exact W.vret hx hb hr (fun t ht hW => ⟨⟨rfl, by rw [ht]; exact hP, va_K.moved hW.alike hK, hD⟩, hS.F ht⟩) hS.2.2 d_Ma_pull_222 hlocks
                · have hE := it_t hE c9
                  refine lv_iconst (v := 1) hx hb d_Ma_pull_140 (by decide) ?_
                  refine lv_goto (tgt := 145) hx hb d_Ma_pull_141 (by decide) ?_
                  obtain ⟨y11, hy11, hE⟩ := bd_at hE
                  refine kV (C := "MoveDesk$Machine") (index := 124) (As := [.int (v1 - (16 : Int32)), .int 1]) (rest := []) (ws2 := (w_lat_ma_wo_od_cm g a_lat a_co a_ma a_bu a_wo a_od a_rs a_ca a_cm r_lat y11 r_wo r_od r_cm)) M hP hD hS hl.1 (c_Ma_setGuard l g a_lat a_co a_ma a_bu a_wo a_od a_rs a_ca a_cm r_ma (v1 - (16 : Int32)) (1 : Int32) y11 hy11) m_758 m_760 s_26 m_4 m_761 hd_Ma_setGuard rfl rfl rfl ⟨by decide, by decide⟩ ⟨by decide, by decide⟩ 3 0 rfl rfl rfl [1] [0, 2, 3, 4] [0, 4, 1, 2, 3] rfl rfl rfl rfl (by decide) rfl rfl rfl (Nat.le_of_ble_eq_true rfl) d_Ma_pull_145 (fun H locs hP hD hS => ?_)
                  refine W.eq (g2 := F0 m 148 ls []) rfl ?_
                  refine lv_goto (tgt := 222) hx hb d_Ma_pull_148 (by decide) ?_
                  have hE := Option.some.inj hE
                  rw [hE]
                  exact W.vret hx hb hr (fun t ht hW => ⟨⟨rfl, by rw [ht]; exact hP, va_K.moved hW.alike hK, hD⟩, hS.F ht⟩) hS.2.2 d_Ma_pull_222 hlocks
          · have hE := it_t hE c5
            refine lv_aload_n hx hb d_Ma_pull_95 rfl (lv_at hl 0 rfl) ?_
            refine va_get (D := g.1) (ci := 3) (v := .ref a_wo) (C := "MoveDesk$Machine") (T := F_Ma) (N := 16) hx hb hts i_Ma hown hK hP 1 rfl rfl 3 (by decide) (hts _ m_105) (fun _ h9 => h9) rfl d_Ma_pull_96 ?_
            refine lv_aload_n hx hb d_Ma_pull_99 rfl (lv_at hl 0 rfl) ?_
            refine va_get (D := g.1) (ci := 3) (v := .ref a_od) (C := "MoveDesk$Machine") (T := F_Ma) (N := 16) hx hb hts i_Ma hown hK hP 1 rfl rfl 4 (by decide) (hts _ m_107) (fun _ h9 => h9) rfl d_Ma_pull_100 ?_
            refine lv_iconst (v := 2) hx hb d_Ma_pull_103 (by decide) ?_
            have ⟨h12, hE⟩ := ck_at hE
            refine va_iald hx hb hK hP 3 0 rfl rfl h12 d_Ma_pull_104 ?_
            obtain ⟨y13, hy13, hE⟩ := bd_at hE
            refine kSN (index := 120) (As := [.int (r_od (2 : Int32).toNatClampNeg)]) (rest := [.ref a_wo]) (ws2 := (w_lat_ma_wo_od_cm g a_lat a_co a_ma a_bu a_wo a_od a_rs a_ca a_cm r_lat r_ma r_wo r_od r_cm)) M hP hD hS hl.1 (c_Md_memoryPlace l g   (r_od (2 : Int32).toNatClampNeg) y13 hy13) nw_755 m_756 m_1 m_757 hs_Md_memoryPlace rfl rfl rfl ⟨by decide, by decide⟩ ⟨by decide, by decide⟩ [] [0, 1, 2, 3, 4] [0, 1, 2, 3, 4] rfl rfl rfl rfl (by decide) rfl rfl rfl (Nat.le_of_ble_eq_true rfl) d_Ma_pull_105 (fun H locs hP hD hS => ?_)
            refine W.eq (g2 := F0 m 108 ls [.int y13, .ref a_wo]) rfl ?_
            refine lv_iload_n hx hb d_Ma_pull_108 rfl (lv_at hl 2 rfl) ?_
            have ⟨h14, hE⟩ := ck_at hE
            refine va_iast hx hb hK hP hD hS 2 0 rfl rfl h14 d_Ma_pull_109 (fun H locs hP hD hS => ?_)
            have hP : va_P g.1 classes (w_lat_ma_wo_od_cm g a_lat a_co a_ma a_bu a_wo a_od a_rs a_ca a_cm r_lat r_ma (upd r_wo y13.toNatClampNeg v2) r_od r_cm) H := hP
            have hD : va_D A (w_lat_ma_wo_od_cm g a_lat a_co a_ma a_bu a_wo a_od a_rs a_ca a_cm r_lat r_ma (upd r_wo y13.toNatClampNeg v2) r_od r_cm) := hD
            refine lv_goto (tgt := 222) hx hb d_Ma_pull_110 (by decide) ?_
            have hE := Option.some.inj hE
            rw [hE]
            exact W.vret hx hb hr (fun t ht hW => ⟨⟨rfl, by rw [ht]; exact hP, va_K.moved hW.alike hK, hD⟩, hS.F ht⟩) hS.2.2 d_Ma_pull_222 hlocks
        · have hE := it_t hE c4
          refine lv_aload_n hx hb d_Ma_pull_72 rfl (lv_at hl 0 rfl) ?_
          refine lv_iconst (v := 2) hx hb d_Ma_pull_73 (by decide) ?_
          refine lv_aload_n hx hb d_Ma_pull_74 rfl (lv_at hl 0 rfl) ?_
          refine va_get (D := g.1) (ci := 3) (v := .ref a_wo) (C := "MoveDesk$Machine") (T := F_Ma) (N := 16) hx hb hts i_Ma hown hK hP 1 rfl rfl 3 (by decide) (hts _ m_105) (fun _ h9 => h9) rfl d_Ma_pull_75 ?_
          refine lv_iload_n hx hb d_Ma_pull_78 rfl (lv_at hl 2 rfl) ?_
          obtain ⟨y15, hy15, hE⟩ := bd_at hE
          refine kSN (index := 120) (As := [.int v2]) (rest := [.ref a_wo, .int 2, .ref a_ma]) (ws2 := (w_lat_ma_wo_od_cm g a_lat a_co a_ma a_bu a_wo a_od a_rs a_ca a_cm r_lat r_ma r_wo r_od r_cm)) M hP hD hS hl.1 (c_Md_memoryPlace l g   v2 y15 hy15) nw_755 m_756 m_1 m_757 hs_Md_memoryPlace rfl rfl rfl ⟨by decide, by decide⟩ ⟨by decide, by decide⟩ [] [0, 1, 2, 3, 4] [0, 1, 2, 3, 4] rfl rfl rfl rfl (by decide) rfl rfl rfl (Nat.le_of_ble_eq_true rfl) d_Ma_pull_79 (fun H locs hP hD hS => ?_)
          refine W.eq (g2 := F0 m 82 ls [.int y15, .ref a_wo, .int 2, .ref a_ma]) rfl ?_
          have ⟨h16, hE⟩ := ck_at hE
          refine va_iald hx hb hK hP 2 0 rfl rfl h16 d_Ma_pull_82 ?_
          obtain ⟨y17, hy17, hE⟩ := bd_at hE
          refine kV (C := "MoveDesk$Machine") (index := 117) (As := [.int 2, .int (r_wo y15.toNatClampNeg)]) (rest := []) (ws2 := (w_lat_ma_wo_od_cm g a_lat a_co a_ma a_bu a_wo a_od a_rs a_ca a_cm r_lat y17.1 r_wo r_od y17.2)) M hP hD hS hl.1 (c_Ma_begin l g a_lat a_co a_ma a_bu a_wo a_od a_rs a_ca a_cm r_lat r_ma r_cm (2 : Int32) (r_wo y15.toNatClampNeg) y17 hy17) m_751 m_753 s_25 m_4 m_754 hd_Ma_begin rfl rfl rfl ⟨by decide, by decide⟩ ⟨by decide, by decide⟩ 3 1 rfl rfl rfl [0, 1, 4] [2, 3] [2, 3, 0, 1, 4] rfl rfl rfl rfl (by decide) rfl rfl rfl (Nat.le_of_ble_eq_true rfl) d_Ma_pull_83 (fun H locs hP hD hS => ?_)
          refine W.eq (g2 := F0 m 86 ls []) rfl ?_
          refine lv_goto (tgt := 222) hx hb d_Ma_pull_86 (by decide) ?_
          have hE := Option.some.inj hE
          rw [hE]
          exact W.vret hx hb hr (fun t ht hW => ⟨⟨rfl, by rw [ht]; exact hP, va_K.moved hW.alike hK, hD⟩, hS.F ht⟩) hS.2.2 d_Ma_pull_222 hlocks
      · have hE := it_t hE c3
        refine lv_aload_n hx hb d_Ma_pull_50 rfl (lv_at hl 0 rfl) ?_
        refine lv_iconst (v := 1) hx hb d_Ma_pull_51 (by decide) ?_
        refine lv_aload_n hx hb d_Ma_pull_52 rfl (lv_at hl 0 rfl) ?_
        refine va_get (D := g.1) (ci := 3) (v := .ref a_od) (C := "MoveDesk$Machine") (T := F_Ma) (N := 16) hx hb hts i_Ma hown hK hP 1 rfl rfl 4 (by decide) (hts _ m_107) (fun _ h9 => h9) rfl d_Ma_pull_53 ?_
        refine lv_iconst (v := 1) hx hb d_Ma_pull_56 (by decide) ?_
        have ⟨h18, hE⟩ := ck_at hE
        refine va_iald hx hb hK hP 3 0 rfl rfl h18 d_Ma_pull_57 ?_
        refine lv_iload_n hx hb d_Ma_pull_58 rfl (lv_at hl 2 rfl) ?_
        refine lv_imul hx hb d_Ma_pull_59 ?_
        obtain ⟨y19, hy19, hE⟩ := bd_at hE
        refine kV (C := "MoveDesk$Machine") (index := 117) (As := [.int 1, .int ((r_od (1 : Int32).toNatClampNeg) * v2)]) (rest := []) (ws2 := (w_lat_ma_wo_od_cm g a_lat a_co a_ma a_bu a_wo a_od a_rs a_ca a_cm r_lat y19.1 r_wo r_od y19.2)) M hP hD hS hl.1 (c_Ma_begin l g a_lat a_co a_ma a_bu a_wo a_od a_rs a_ca a_cm r_lat r_ma r_cm (1 : Int32) ((r_od (1 : Int32).toNatClampNeg) * v2) y19 hy19) m_751 m_753 s_25 m_4 m_754 hd_Ma_begin rfl rfl rfl ⟨by decide, by decide⟩ ⟨by decide, by decide⟩ 3 1 rfl rfl rfl [0, 1, 4] [2, 3] [2, 3, 0, 1, 4] rfl rfl rfl rfl (by decide) rfl rfl rfl (Nat.le_of_ble_eq_true rfl) d_Ma_pull_60 (fun H locs hP hD hS => ?_)
        refine W.eq (g2 := F0 m 63 ls []) rfl ?_
        refine lv_goto (tgt := 222) hx hb d_Ma_pull_63 (by decide) ?_
        have hE := Option.some.inj hE
        rw [hE]
        exact W.vret hx hb hr (fun t ht hW => ⟨⟨rfl, by rw [ht]; exact hP, va_K.moved hW.alike hK, hD⟩, hS.F ht⟩) hS.2.2 d_Ma_pull_222 hlocks
    · have hE := it_t hE c2
      refine lv_aload_n hx hb d_Ma_pull_28 rfl (lv_at hl 0 rfl) ?_
      refine lv_iconst (v := 0) hx hb d_Ma_pull_29 (by decide) ?_
      refine lv_aload_n hx hb d_Ma_pull_30 rfl (lv_at hl 0 rfl) ?_
      refine va_get (D := g.1) (ci := 3) (v := .ref a_od) (C := "MoveDesk$Machine") (T := F_Ma) (N := 16) hx hb hts i_Ma hown hK hP 1 rfl rfl 4 (by decide) (hts _ m_107) (fun _ h9 => h9) rfl d_Ma_pull_31 ?_
      refine lv_iconst (v := 0) hx hb d_Ma_pull_34 (by decide) ?_
      have ⟨h20, hE⟩ := ck_at hE
      refine va_iald hx hb hK hP 3 0 rfl rfl h20 d_Ma_pull_35 ?_
      refine lv_iload_n hx hb d_Ma_pull_36 rfl (lv_at hl 2 rfl) ?_
      refine lv_isub hx hb d_Ma_pull_37 ?_
      obtain ⟨y21, hy21, hE⟩ := bd_at hE
      refine kV (C := "MoveDesk$Machine") (index := 117) (As := [.int 0, .int ((r_od (0 : Int32).toNatClampNeg) - v2)]) (rest := []) (ws2 := (w_lat_ma_wo_od_cm g a_lat a_co a_ma a_bu a_wo a_od a_rs a_ca a_cm r_lat y21.1 r_wo r_od y21.2)) M hP hD hS hl.1 (c_Ma_begin l g a_lat a_co a_ma a_bu a_wo a_od a_rs a_ca a_cm r_lat r_ma r_cm (0 : Int32) ((r_od (0 : Int32).toNatClampNeg) - v2) y21 hy21) m_751 m_753 s_25 m_4 m_754 hd_Ma_begin rfl rfl rfl ⟨by decide, by decide⟩ ⟨by decide, by decide⟩ 3 1 rfl rfl rfl [0, 1, 4] [2, 3] [2, 3, 0, 1, 4] rfl rfl rfl rfl (by decide) rfl rfl rfl (Nat.le_of_ble_eq_true rfl) d_Ma_pull_38 (fun H locs hP hD hS => ?_)
      refine W.eq (g2 := F0 m 41 ls []) rfl ?_
      refine lv_goto (tgt := 222) hx hb d_Ma_pull_41 (by decide) ?_
      have hE := Option.some.inj hE
      rw [hE]
      exact W.vret hx hb hr (fun t ht hW => ⟨⟨rfl, by rw [ht]; exact hP, va_K.moved hW.alike hK, hD⟩, hS.F ht⟩) hS.2.2 d_Ma_pull_222 hlocks
  · have hE := it_t hE c1
    refine lv_aload_n hx hb d_Ma_pull_6 rfl (lv_at hl 0 rfl) ?_
    refine lv_iconst (v := 0) hx hb d_Ma_pull_7 (by decide) ?_
    refine lv_aload_n hx hb d_Ma_pull_8 rfl (lv_at hl 0 rfl) ?_
    refine va_get (D := g.1) (ci := 3) (v := .ref a_od) (C := "MoveDesk$Machine") (T := F_Ma) (N := 16) hx hb hts i_Ma hown hK hP 1 rfl rfl 4 (by decide) (hts _ m_107) (fun _ h9 => h9) rfl d_Ma_pull_9 ?_
    refine lv_iconst (v := 0) hx hb d_Ma_pull_12 (by decide) ?_
    have ⟨h22, hE⟩ := ck_at hE
    refine va_iald hx hb hK hP 3 0 rfl rfl h22 d_Ma_pull_13 ?_
    refine lv_iload_n hx hb d_Ma_pull_14 rfl (lv_at hl 2 rfl) ?_
    refine lv_iadd hx hb d_Ma_pull_15 ?_
    obtain ⟨y23, hy23, hE⟩ := bd_at hE
    refine kV (C := "MoveDesk$Machine") (index := 117) (As := [.int 0, .int ((r_od (0 : Int32).toNatClampNeg) + v2)]) (rest := []) (ws2 := (w_lat_ma_wo_od_cm g a_lat a_co a_ma a_bu a_wo a_od a_rs a_ca a_cm r_lat y23.1 r_wo r_od y23.2)) M hP hD hS hl.1 (c_Ma_begin l g a_lat a_co a_ma a_bu a_wo a_od a_rs a_ca a_cm r_lat r_ma r_cm (0 : Int32) ((r_od (0 : Int32).toNatClampNeg) + v2) y23 hy23) m_751 m_753 s_25 m_4 m_754 hd_Ma_begin rfl rfl rfl ⟨by decide, by decide⟩ ⟨by decide, by decide⟩ 3 1 rfl rfl rfl [0, 1, 4] [2, 3] [2, 3, 0, 1, 4] rfl rfl rfl rfl (by decide) rfl rfl rfl (Nat.le_of_ble_eq_true rfl) d_Ma_pull_16 (fun H locs hP hD hS => ?_)
    refine W.eq (g2 := F0 m 19 ls []) rfl ?_
    refine lv_goto (tgt := 222) hx hb d_Ma_pull_19 (by decide) ?_
    have hE := Option.some.inj hE
    rw [hE]
    exact W.vret hx hb hr (fun t ht hW => ⟨⟨rfl, by rw [ht]; exact hP, va_K.moved hW.alike hK, hD⟩, hS.F ht⟩) hS.2.2 d_Ma_pull_222 hlocks
abbrev rm_Ma_pullTriggers : Room := { frames := 2, cells := 0, slots := 0, locals := 45 }
set_option maxHeartbeats 4000000 in
set_option maxRecDepth 100000 in
theorem wl_Ma_pullTriggers_37 {p : Program} {l : Launch} {e : Env} {s : State} {m : MethodId} {args : Array Value} {below : List Frame} {meth : Method} {c : Code} {A : Nat → Prop} {g : GT} {a_lat : Nat} {a_co : Nat} {a_ta : Nat} {a_gu : Nat} {a_so : Nat} {a_cn : Nat} {a_de : Nat} {a_ma : Nat} {a_bu : Nat} {a_wo : Nat} {a_od : Nat} {a_rs : Nat} {a_ca : Nat} {a_cm : Nat} {y : (Nat → Int32) × (Nat → Int32) × (Nat → Int32)} (M : MX p s m args meth c b_Ma_pullTriggers 3 none "MoveDesk$Machine" g A) (rec_2 : (Nat → Int32) → (Nat → Int32) → (Nat → Int32) → (Nat → Int32) → (Nat → Int32) → (Nat → Int32) → (Nat → Int32) → (Nat → Int32) → Int32 → Int32 → Option ((Nat → Int32) × (Nat → Int32) × (Nat → Int32))) (hrec_2 : ∀ (r_lat : Nat → Int32) (r_co : Nat → Int32) (r_de : Nat → Int32) (r_ma : Nat → Int32) (r_wo : Nat → Int32) (r_od : Nat → Int32) (r_ca : Nat → Int32) (r_cm : Nat → Int32) (v1 : Int32) (v2 : Int32) (H : Heap) (locs : List Loc) (ls : Array Slot), some y = rec_2 r_lat r_co r_de r_ma r_wo r_od r_ca r_cm v1 v2 → va_P g.1 classes (w_lat_8_993e g a_lat a_co a_ta a_gu a_so a_cn a_de a_ma a_bu a_wo a_od a_rs a_ca a_cm r_lat r_co r_de r_ma r_wo r_od r_ca r_cm) H → va_D A (w_lat_8_993e g a_lat a_co a_ta a_gu a_so a_cn a_de a_ma a_bu a_wo a_od a_rs a_ca a_cm r_lat r_co r_de r_ma r_wo r_od r_ca r_cm) → va_S A s.heap H locs → lv_has ls 3 [(0, .ref a_ma), (1, .int v1), (2, .int v2)] → W p l e rm_Ma_pullTriggers s m args below meth c H locs 0 0 (MQ below (QW g none (w_lat_8_993e g a_lat a_co a_ta a_gu a_so a_cn a_de a_ma a_bu a_wo a_od a_rs a_ca a_cm r_lat r_co r_de y.1 y.2.1 r_od r_ca y.2.2) A) args s 0 0 A) (F0 m 2 ls [])) : ∀ (r_lat : Nat → Int32) (r_co : Nat → Int32) (r_de : Nat → Int32) (r_ma : Nat → Int32) (r_wo : Nat → Int32) (r_od : Nat → Int32) (r_ca : Nat → Int32) (r_cm : Nat → Int32) (v1 : Int32) (v2 : Int32) (H : Heap) (locs : List Loc) (ls : Array Slot), some y = (f_Ma_pullTriggers_37 rec_2) r_lat r_co r_de r_ma r_wo r_od r_ca r_cm v1 v2 → va_P g.1 classes (w_lat_8_993e g a_lat a_co a_ta a_gu a_so a_cn a_de a_ma a_bu a_wo a_od a_rs a_ca a_cm r_lat r_co r_de r_ma r_wo r_od r_ca r_cm) H → va_D A (w_lat_8_993e g a_lat a_co a_ta a_gu a_so a_cn a_de a_ma a_bu a_wo a_od a_rs a_ca a_cm r_lat r_co r_de r_ma r_wo r_od r_ca r_cm) → va_S A s.heap H locs → lv_has ls 3 [(0, .ref a_ma), (1, .int v1), (2, .int v2)] → W p l e rm_Ma_pullTriggers s m args below meth c H locs 0 0 (MQ below (QW g none (w_lat_8_993e g a_lat a_co a_ta a_gu a_so a_cn a_de a_ma a_bu a_wo a_od a_rs a_ca a_cm r_lat r_co r_de y.1 y.2.1 r_od r_ca y.2.2) A) args s 0 0 A) (F0 m 37 ls []) := by
  obtain ⟨hx, hb, hr, hml, hown, hts, hlocks, hA, hK, hG⟩ := id M
  intro r_lat r_co r_de r_ma r_wo r_od r_ca r_cm v1 v2 H locs ls hE hP hD hS hl
  rw [f_Ma_pullTriggers_37] at hE
  obtain ⟨x1, ex1⟩ : ∃ z : Int32, z = v2 + 1 := ⟨_, rfl⟩
  have hE := nm_at hE ex1
  refine lv_iinc (v := x1) (lv' := [(2, .int x1), (0, .ref a_ma), (1, .int v1)]) hx hb d_Ma_pullTriggers_37 hl (k := 2) rfl (by rw [ex1]; rfl) (by decide) rfl (fun ls hl => ?_)
  refine lv_goto (tgt := 2) hx hb d_Ma_pullTriggers_40 (by decide) ?_
  exact hrec_2 _ _ _ _ _ _ _ _ _ _ _ _ _ hE hP hD hS (lv_sub hl [1, 2, 0] rfl)
set_option maxHeartbeats 4000000 in
set_option maxRecDepth 100000 in
theorem wl_Ma_pullTriggers_2 {p : Program} {l : Launch} {e : Env} {s : State} {m : MethodId} {args : Array Value} {below : List Frame} {meth : Method} {c : Code} {A : Nat → Prop} {g : GT} {a_lat : Nat} {a_co : Nat} {a_ta : Nat} {a_gu : Nat} {a_so : Nat} {a_cn : Nat} {a_de : Nat} {a_ma : Nat} {a_bu : Nat} {a_wo : Nat} {a_od : Nat} {a_rs : Nat} {a_ca : Nat} {a_cm : Nat} {y : (Nat → Int32) × (Nat → Int32) × (Nat → Int32)} (M : MX p s m args meth c b_Ma_pullTriggers 3 none "MoveDesk$Machine" g A) : ∀ n : Nat, ∀ (r_lat : Nat → Int32) (r_co : Nat → Int32) (r_de : Nat → Int32) (r_ma : Nat → Int32) (r_wo : Nat → Int32) (r_od : Nat → Int32) (r_ca : Nat → Int32) (r_cm : Nat → Int32) (v1 : Int32) (v2 : Int32) (H : Heap) (locs : List Loc) (ls : Array Slot), some y = (f_Ma_pullTriggers_2 n) r_lat r_co r_de r_ma r_wo r_od r_ca r_cm v1 v2 → va_P g.1 classes (w_lat_8_993e g a_lat a_co a_ta a_gu a_so a_cn a_de a_ma a_bu a_wo a_od a_rs a_ca a_cm r_lat r_co r_de r_ma r_wo r_od r_ca r_cm) H → va_D A (w_lat_8_993e g a_lat a_co a_ta a_gu a_so a_cn a_de a_ma a_bu a_wo a_od a_rs a_ca a_cm r_lat r_co r_de r_ma r_wo r_od r_ca r_cm) → va_S A s.heap H locs → lv_has ls 3 [(0, .ref a_ma), (1, .int v1), (2, .int v2)] → W p l e rm_Ma_pullTriggers s m args below meth c H locs 0 0 (MQ below (QW g none (w_lat_8_993e g a_lat a_co a_ta a_gu a_so a_cn a_de a_ma a_bu a_wo a_od a_rs a_ca a_cm r_lat r_co r_de y.1 y.2.1 r_od r_ca y.2.2) A) args s 0 0 A) (F0 m 2 ls []) := by
  obtain ⟨hx, hb, hr, hml, hown, hts, hlocks, hA, hK, hG⟩ := id M
  intro n
  induction n with
  | zero =>
    intro r_lat r_co r_de r_ma r_wo r_od r_ca r_cm v1 v2 H locs ls hE hP hD hS hl
    rw [f_Ma_pullTriggers_2] at hE
    cases hE
  | succ n ih =>
    intro r_lat r_co r_de r_ma r_wo r_od r_ca r_cm v1 v2 H locs ls hE hP hD hS hl
    rw [f_Ma_pullTriggers_2] at hE
    refine lv_iload_n hx hb d_Ma_pullTriggers_2 rfl (lv_at hl 2 rfl) ?_
    refine lv_iconst (v := 4) hx hb d_Ma_pullTriggers_3 (by decide) ?_
    refine lv_icmp_ge (tgt := 43) hx hb d_Ma_pullTriggers_4 (by decide) (fun c1 => ?_) (fun c1 => ?_)
    · have hE := it_t hE c1
      have hE := Option.some.inj hE
      rw [hE]
      exact W.vret hx hb hr (fun t ht hW => ⟨⟨rfl, by rw [ht]; exact hP, va_K.moved hW.alike hK, hD⟩, hS.F ht⟩) hS.2.2 d_Ma_pullTriggers_43 hlocks
    · have hE := it_f hE c1
      refine lv_iload_n hx hb d_Ma_pullTriggers_7 rfl (lv_at hl 1 rfl) ?_
      refine lv_iload_n hx hb d_Ma_pullTriggers_8 rfl (lv_at hl 2 rfl) ?_
      obtain ⟨y2, hy2, hE⟩ := bd_at hE
      refine kS (index := 97) (As := [.int v1, .int v2]) (rest := []) (ws2 := (w_lat_8_993e g a_lat a_co a_ta a_gu a_so a_cn a_de a_ma a_bu a_wo a_od a_rs a_ca a_cm r_lat r_co r_de r_ma r_wo r_od r_ca r_cm)) M hP hD hS hl.1 (c_Ma_has l g   v1 v2 y2 hy2) m_729 m_730 m_4 m_731 hs_Ma_has rfl rfl rfl ⟨by decide, by decide⟩ ⟨by decide, by decide⟩ [] [0, 1, 2, 3, 4, 5, 6, 7] [0, 1, 2, 3, 4, 5, 6, 7] rfl rfl rfl rfl (by decide) rfl rfl rfl (Nat.le_of_ble_eq_true rfl) d_Ma_pullTriggers_9 (fun H locs hP hD hS => ?_)
      refine W.eq (g2 := F0 m 12 ls [.int y2]) rfl ?_
      refine lv_if_eq (tgt := 37) hx hb d_Ma_pullTriggers_12 (by decide) (fun c3 => ?_) (fun c3 => ?_)
      · have hE := it_t hE c3
        exact wl_Ma_pullTriggers_37 M (f_Ma_pullTriggers_2 n) ih _ _ _ _ _ _ _ _ _ _ _ _ _ hE hP hD hS (lv_sub hl [0, 1, 2] rfl)
      · have hE := it_f hE c3
        refine lv_aload_n hx hb d_Ma_pullTriggers_15 rfl (lv_at hl 0 rfl) ?_
        refine lv_aload_n hx hb d_Ma_pullTriggers_16 rfl (lv_at hl 0 rfl) ?_
        refine va_get (D := g.1) (ci := 3) (v := .ref a_co) (C := "MoveDesk$Machine") (T := F_Ma) (N := 16) hx hb hts i_Ma hown hK hP 3 rfl rfl 0 (by decide) (hts _ m_102) (fun _ h9 => h9) rfl d_Ma_pullTriggers_17 ?_
        refine lv_aload_n hx hb d_Ma_pullTriggers_20 rfl (lv_at hl 0 rfl) ?_
        refine va_get (D := g.1) (ci := 3) (v := .int (r_ma 12)) (C := "MoveDesk$Machine") (T := F_Ma) (N := 16) hx hb hts i_Ma hown hK hP 3 rfl rfl 12 (by decide) (hts _ m_115) (fun _ h9 => h9) rfl d_Ma_pullTriggers_21 ?_
        refine lv_iload_n hx hb d_Ma_pullTriggers_24 rfl (lv_at hl 2 rfl) ?_
        obtain ⟨y4, hy4, hE⟩ := bd_at hE
        refine kV (C := "MoveDesk$Code") (index := 110) (As := [.int (r_ma 12), .int v2]) (rest := [.ref a_ma]) (ws2 := (w_lat_8_993e g a_lat a_co a_ta a_gu a_so a_cn a_de a_ma a_bu a_wo a_od a_rs a_ca a_cm r_lat r_co r_de r_ma r_wo r_od r_ca r_cm)) M hP hD hS hl.1 (c_Co_destination l g a_co a_ta a_gu a_so a_cn a_de r_co r_de (r_ma 12) v2 y4 hy4) m_742 m_318 m_319 m_3 m_320 hd_Co_destination rfl rfl rfl ⟨by decide, by decide⟩ ⟨by decide, by decide⟩ 1 0 rfl rfl rfl [1, 2] [0, 3, 4, 5, 6, 7] [0, 6, 7, 1, 2, 3, 4, 5] rfl rfl rfl rfl (by decide) rfl rfl rfl (Nat.le_of_ble_eq_true rfl) d_Ma_pullTriggers_25 (fun H locs hP hD hS => ?_)
        refine W.eq (g2 := F0 m 28 ls [.int y4, .ref a_ma]) rfl ?_
        refine lv_aload_n hx hb d_Ma_pullTriggers_28 rfl (lv_at hl 0 rfl) ?_
        refine va_get (D := g.1) (ci := 3) (v := .ref a_ca) (C := "MoveDesk$Machine") (T := F_Ma) (N := 16) hx hb hts i_Ma hown hK hP 3 rfl rfl 6 (by decide) (hts _ m_109) (fun _ h9 => h9) rfl d_Ma_pullTriggers_29 ?_
        refine lv_iload_n hx hb d_Ma_pullTriggers_32 rfl (lv_at hl 2 rfl) ?_
        have ⟨h5, hE⟩ := ck_at hE
        refine va_iald hx hb hK hP 6 0 rfl rfl h5 d_Ma_pullTriggers_33 ?_
        obtain ⟨y6, hy6, hE⟩ := bd_at hE
        refine kV (C := "MoveDesk$Machine") (index := 113) (As := [.int y4, .int (r_ca v2.toNatClampNeg)]) (rest := []) (ws2 := (w_lat_8_993e g a_lat a_co a_ta a_gu a_so a_cn a_de a_ma a_bu a_wo a_od a_rs a_ca a_cm r_lat r_co r_de y6.1 y6.2.1 r_od r_ca y6.2.2)) M hP hD hS hl.1 (c_Ma_pull l g a_lat a_co a_ma a_bu a_wo a_od a_rs a_ca a_cm r_lat r_ma r_wo r_od r_cm y4 (r_ca v2.toNatClampNeg) y6 hy6) m_747 m_749 s_24 m_4 m_750 hd_Ma_pull rfl rfl rfl ⟨by decide, by decide⟩ ⟨by decide, by decide⟩ 3 1 rfl rfl rfl [0, 3, 4, 5, 7] [1, 2, 6] [3, 0, 1, 4, 5, 6, 2, 7] rfl rfl rfl rfl (by decide) rfl rfl rfl (Nat.le_of_ble_eq_true rfl) d_Ma_pullTriggers_34 (fun H locs hP hD hS => ?_)
        refine W.eq (g2 := F0 m 37 ls []) rfl ?_
        exact wl_Ma_pullTriggers_37 M (f_Ma_pullTriggers_2 n) ih _ _ _ _ _ _ _ _ _ _ _ _ _ hE hP hD hS (lv_sub hl [0, 1, 2] rfl)
set_option maxHeartbeats 4000000 in
set_option maxRecDepth 100000 in
theorem c_Ma_pullTriggers (l : Launch) (g : GT) (a_lat : Nat) (a_co : Nat) (a_ta : Nat) (a_gu : Nat) (a_so : Nat) (a_cn : Nat) (a_de : Nat) (a_ma : Nat) (a_bu : Nat) (a_wo : Nat) (a_od : Nat) (a_rs : Nat) (a_ca : Nat) (a_cm : Nat) (r_lat : Nat → Int32) (r_co : Nat → Int32) (r_de : Nat → Int32) (r_ma : Nat → Int32) (r_wo : Nat → Int32) (r_od : Nat → Int32) (r_ca : Nat → Int32) (r_cm : Nat → Int32) (v1 : Int32) (y : (Nat → Int32) × (Nat → Int32) × (Nat → Int32)) (hy : some y = f_Ma_pullTriggers r_lat r_co r_de r_ma r_wo r_od r_ca r_cm v1) : Ct l y_Ma_pullTriggers (.code y_Ma_pullTriggers b_Ma_pullTriggers 3 none) rm_Ma_pullTriggers g [.ref a_ma, .int v1] (w_lat_8_993e g a_lat a_co a_ta a_gu a_so a_cn a_de a_ma a_bu a_wo a_od a_rs a_ca a_cm r_lat r_co r_de r_ma r_wo r_od r_ca r_cm) (w_lat_8_993e g a_lat a_co a_ta a_gu a_so a_cn a_de a_ma a_bu a_wo a_od a_rs a_ca a_cm r_lat r_co r_de y.1 y.2.1 r_od r_ca y.2.2) none := by
  refine ct_in (C := "MoveDesk$Machine") rfl (by decide) (Nat.le_of_ble_eq_true rfl) (fun p e s m below meth c A ls M hP hD hS hl => ?_)
  obtain ⟨hx, hb, hr, hml, hown, hts, hlocks, hA, hK, hG⟩ := id M
  have hl : lv_has ls 3 [(0, .ref a_ma), (1, .int v1)] := hl
  have hE := hy
  rw [f_Ma_pullTriggers] at hE
  refine lv_iconst (v := 0) hx hb d_Ma_pullTriggers_0 (by decide) ?_
  refine lv_istore_n (lv' := [(2, .int 0), (0, .ref a_ma), (1, .int v1)]) hx hb d_Ma_pullTriggers_1 rfl hl (by decide) rfl (fun ls hl => ?_)
  exact wl_Ma_pullTriggers_2 M 5000 _ _ _ _ _ _ _ _ _ _ _ _ _ hE hP hD hS (lv_sub hl [1, 2, 0] rfl)
abbrev rm_Ma_deliverResults : Room := { frames := 0, cells := 0, slots := 0, locals := 0 }
set_option maxHeartbeats 4000000 in
set_option maxRecDepth 100000 in
theorem wl_Ma_deliverResults_72 {p : Program} {l : Launch} {e : Env} {s : State} {m : MethodId} {args : Array Value} {below : List Frame} {meth : Method} {c : Code} {A : Nat → Prop} {g : GT} {a_lat : Nat} {a_co : Nat} {a_ma : Nat} {a_bu : Nat} {a_wo : Nat} {a_od : Nat} {a_rs : Nat} {a_ca : Nat} {a_cm : Nat} {y : (Nat → Int32) × (Nat → Int32)} (M : MX p s m args meth c b_Ma_deliverResults 3 none "MoveDesk$Machine" g A) (rec_2 : (Nat → Int32) → (Nat → Int32) → (Nat → Int32) → Int32 → Option ((Nat → Int32) × (Nat → Int32))) (hrec_2 : ∀ (r_ma : Nat → Int32) (r_rs : Nat → Int32) (r_cm : Nat → Int32) (v1 : Int32) (H : Heap) (locs : List Loc) (ls : Array Slot), some y = rec_2 r_ma r_rs r_cm v1 → va_P g.1 classes (w_ma_rs_cm g a_lat a_co a_ma a_bu a_wo a_od a_rs a_ca a_cm r_ma r_rs r_cm) H → va_D A (w_ma_rs_cm g a_lat a_co a_ma a_bu a_wo a_od a_rs a_ca a_cm r_ma r_rs r_cm) → va_S A s.heap H locs → lv_has ls 3 [(0, .ref a_ma), (1, .int v1)] → W p l e rm_Ma_deliverResults s m args below meth c H locs 0 0 (MQ below (QW g none (w_ma_rs_cm g a_lat a_co a_ma a_bu a_wo a_od a_rs a_ca a_cm y.1 y.2 r_cm) A) args s 0 0 A) (F0 m 2 ls [])) : ∀ (r_ma : Nat → Int32) (r_rs : Nat → Int32) (r_cm : Nat → Int32) (v1 : Int32) (H : Heap) (locs : List Loc) (ls : Array Slot), some y = (f_Ma_deliverResults_72 rec_2) r_ma r_rs r_cm v1 → va_P g.1 classes (w_ma_rs_cm g a_lat a_co a_ma a_bu a_wo a_od a_rs a_ca a_cm r_ma r_rs r_cm) H → va_D A (w_ma_rs_cm g a_lat a_co a_ma a_bu a_wo a_od a_rs a_ca a_cm r_ma r_rs r_cm) → va_S A s.heap H locs → lv_has ls 3 [(0, .ref a_ma), (1, .int v1)] → W p l e rm_Ma_deliverResults s m args below meth c H locs 0 0 (MQ below (QW g none (w_ma_rs_cm g a_lat a_co a_ma a_bu a_wo a_od a_rs a_ca a_cm y.1 y.2 r_cm) A) args s 0 0 A) (F0 m 72 ls []) := by
  obtain ⟨hx, hb, hr, hml, hown, hts, hlocks, hA, hK, hG⟩ := id M
  intro r_ma r_rs r_cm v1 H locs ls hE hP hD hS hl
  rw [f_Ma_deliverResults_72] at hE
  obtain ⟨x1, ex1⟩ : ∃ z : Int32, z = v1 + 1 := ⟨_, rfl⟩
  have hE := nm_at hE ex1
  refine lv_iinc (v := x1) (lv' := [(1, .int x1), (0, .ref a_ma)]) hx hb d_Ma_deliverResults_72 hl (k := 1) rfl (by rw [ex1]; rfl) (by decide) rfl (fun ls hl => ?_)
  refine lv_goto (tgt := 2) hx hb d_Ma_deliverResults_75 (by decide) ?_
  exact hrec_2 _ _ _ _ _ _ _ hE hP hD hS (lv_sub hl [1, 0] rfl)
set_option maxHeartbeats 4000000 in
set_option maxRecDepth 100000 in
theorem wl_Ma_deliverResults_78 {p : Program} {l : Launch} {e : Env} {s : State} {m : MethodId} {args : Array Value} {below : List Frame} {meth : Method} {c : Code} {A : Nat → Prop} {g : GT} {a_lat : Nat} {a_co : Nat} {a_ma : Nat} {a_bu : Nat} {a_wo : Nat} {a_od : Nat} {a_rs : Nat} {a_ca : Nat} {a_cm : Nat} {y : (Nat → Int32) × (Nat → Int32)} (M : MX p s m args meth c b_Ma_deliverResults 3 none "MoveDesk$Machine" g A) : ∀ (r_ma : Nat → Int32) (r_rs : Nat → Int32) (r_cm : Nat → Int32)  (H : Heap) (locs : List Loc) (ls : Array Slot), some y = f_Ma_deliverResults_78 r_ma r_rs r_cm → va_P g.1 classes (w_ma_rs_cm g a_lat a_co a_ma a_bu a_wo a_od a_rs a_ca a_cm r_ma r_rs r_cm) H → va_D A (w_ma_rs_cm g a_lat a_co a_ma a_bu a_wo a_od a_rs a_ca a_cm r_ma r_rs r_cm) → va_S A s.heap H locs → lv_has ls 3 [(0, .ref a_ma)] → W p l e rm_Ma_deliverResults s m args below meth c H locs 0 0 (MQ below (QW g none (w_ma_rs_cm g a_lat a_co a_ma a_bu a_wo a_od a_rs a_ca a_cm y.1 y.2 r_cm) A) args s 0 0 A) (F0 m 78 ls []) := by
  obtain ⟨hx, hb, hr, hml, hown, hts, hlocks, hA, hK, hG⟩ := id M
  intro r_ma r_rs r_cm H locs ls hE hP hD hS hl
  rw [f_Ma_deliverResults_78] at hE
  refine lv_aload_n hx hb d_Ma_deliverResults_78 rfl (lv_at hl 0 rfl) ?_
  refine lv_aload_n hx hb d_Ma_deliverResults_79 rfl (lv_at hl 0 rfl) ?_
  refine va_get (D := g.1) (ci := 3) (v := .int (r_ma 9)) (C := "MoveDesk$Machine") (T := F_Ma) (N := 16) hx hb hts i_Ma hown hK hP 0 rfl rfl 9 (by decide) (hts _ m_112) (fun _ h9 => h9) rfl d_Ma_deliverResults_80 ?_
  refine lv_iconst (v := 1) hx hb d_Ma_deliverResults_83 (by decide) ?_
  refine lv_iadd hx hb d_Ma_deliverResults_84 ?_
  refine lv_iconst (v := 4) hx hb d_Ma_deliverResults_85 (by decide) ?_
  refine lv_irem hx hb d_Ma_deliverResults_86 (by decide) ?_
  refine lv_topi (fun x1 ex1 => ?_)
  have hE := nm_at hE ex1
  refine va_put (D := g.1) (ci := 3) (v := .int x1) (ty := .int) (C := "MoveDesk$Machine") (T := F_Ma) (N := 16) hx hb hts i_Ma t_Ma t_Ma_ok n_Ma hown hK hP hD hS 0 rfl rfl 9 (by decide) (hts _ m_112) (fun _ h9 => h9) rfl (by decide +kernel) rfl rfl (Nat.le_of_ble_eq_true rfl) d_Ma_deliverResults_87 (fun H locs hP hD hS => ?_)
  have hP : va_P g.1 classes (w_ma_rs_cm g a_lat a_co a_ma a_bu a_wo a_od a_rs a_ca a_cm (upd r_ma 9 x1) r_rs r_cm) H := hP
  have hD : va_D A (w_ma_rs_cm g a_lat a_co a_ma a_bu a_wo a_od a_rs a_ca a_cm (upd r_ma 9 x1) r_rs r_cm) := hD
  have hE := Option.some.inj hE
  rw [hE]
  exact W.vret hx hb hr (fun t ht hW => ⟨⟨rfl, by rw [ht]; exact hP, va_K.moved hW.alike hK, hD⟩, hS.F ht⟩) hS.2.2 d_Ma_deliverResults_90 hlocks
set_option maxHeartbeats 4000000 in
set_option maxRecDepth 100000 in
theorem wl_Ma_deliverResults_2 {p : Program} {l : Launch} {e : Env} {s : State} {m : MethodId} {args : Array Value} {below : List Frame} {meth : Method} {c : Code} {A : Nat → Prop} {g : GT} {a_lat : Nat} {a_co : Nat} {a_ma : Nat} {a_bu : Nat} {a_wo : Nat} {a_od : Nat} {a_rs : Nat} {a_ca : Nat} {a_cm : Nat} {y : (Nat → Int32) × (Nat → Int32)} (M : MX p s m args meth c b_Ma_deliverResults 3 none "MoveDesk$Machine" g A) : ∀ n : Nat, ∀ (r_ma : Nat → Int32) (r_rs : Nat → Int32) (r_cm : Nat → Int32) (v1 : Int32) (H : Heap) (locs : List Loc) (ls : Array Slot), some y = (f_Ma_deliverResults_2 n) r_ma r_rs r_cm v1 → va_P g.1 classes (w_ma_rs_cm g a_lat a_co a_ma a_bu a_wo a_od a_rs a_ca a_cm r_ma r_rs r_cm) H → va_D A (w_ma_rs_cm g a_lat a_co a_ma a_bu a_wo a_od a_rs a_ca a_cm r_ma r_rs r_cm) → va_S A s.heap H locs → lv_has ls 3 [(0, .ref a_ma), (1, .int v1)] → W p l e rm_Ma_deliverResults s m args below meth c H locs 0 0 (MQ below (QW g none (w_ma_rs_cm g a_lat a_co a_ma a_bu a_wo a_od a_rs a_ca a_cm y.1 y.2 r_cm) A) args s 0 0 A) (F0 m 2 ls []) := by
  obtain ⟨hx, hb, hr, hml, hown, hts, hlocks, hA, hK, hG⟩ := id M
  intro n
  induction n with
  | zero =>
    intro r_ma r_rs r_cm v1 H locs ls hE hP hD hS hl
    rw [f_Ma_deliverResults_2] at hE
    cases hE
  | succ n ih =>
    intro r_ma r_rs r_cm v1 H locs ls hE hP hD hS hl
    rw [f_Ma_deliverResults_2] at hE
    refine lv_aload_n hx hb d_Ma_deliverResults_2 rfl (lv_at hl 0 rfl) ?_
    refine va_get (D := g.1) (ci := 3) (v := .int (r_ma 8)) (C := "MoveDesk$Machine") (T := F_Ma) (N := 16) hx hb hts i_Ma hown hK hP 0 rfl rfl 8 (by decide) (hts _ m_111) (fun _ h9 => h9) rfl d_Ma_deliverResults_3 ?_
    refine lv_if_eq (tgt := 78) hx hb d_Ma_deliverResults_6 (by decide) (fun c1 => ?_) (fun c1 => ?_)
    · have hE := it_t hE c1
      exact wl_Ma_deliverResults_78 M _ _ _ _ _ _ hE hP hD hS (lv_sub hl [0] rfl)
    · have hE := it_f hE c1
      refine lv_iload_n hx hb d_Ma_deliverResults_9 rfl (lv_at hl 1 rfl) ?_
      refine lv_iconst (v := 3) hx hb d_Ma_deliverResults_10 (by decide) ?_
      refine lv_icmp_ge (tgt := 78) hx hb d_Ma_deliverResults_11 (by decide) (fun c2 => ?_) (fun c2 => ?_)
      · have hE := it_t hE c2
        exact wl_Ma_deliverResults_78 M _ _ _ _ _ _ hE hP hD hS (lv_sub hl [0] rfl)
      · have hE := it_f hE c2
        refine lv_iload_n hx hb d_Ma_deliverResults_14 rfl (lv_at hl 1 rfl) ?_
        refine lv_iconst (v := 4) hx hb d_Ma_deliverResults_15 (by decide) ?_
        refine lv_imul hx hb d_Ma_deliverResults_16 ?_
        refine lv_aload_n hx hb d_Ma_deliverResults_17 rfl (lv_at hl 0 rfl) ?_
        refine va_get (D := g.1) (ci := 3) (v := .int (r_ma 9)) (C := "MoveDesk$Machine") (T := F_Ma) (N := 16) hx hb hts i_Ma hown hK hP 0 rfl rfl 9 (by decide) (hts _ m_112) (fun _ h9 => h9) rfl d_Ma_deliverResults_18 ?_
        refine lv_iadd hx hb d_Ma_deliverResults_21 ?_
        refine lv_topi (fun x3 ex3 => ?_)
        have hE := nm_at hE ex3
        refine lv_istore_n (lv' := [(2, .int x3), (0, .ref a_ma), (1, .int v1)]) hx hb d_Ma_deliverResults_22 rfl hl (by decide) rfl (fun ls hl => ?_)
        refine lv_aload_n hx hb d_Ma_deliverResults_23 rfl (lv_at hl 1 rfl) ?_
        refine va_get (D := g.1) (ci := 3) (v := .int (r_ma 8)) (C := "MoveDesk$Machine") (T := F_Ma) (N := 16) hx hb hts i_Ma hown hK hP 0 rfl rfl 8 (by decide) (hts _ m_111) (fun _ h9 => h9) rfl d_Ma_deliverResults_24 ?_
        refine lv_iload_n hx hb d_Ma_deliverResults_27 rfl (lv_at hl 0 rfl) ?_
        refine lv_ishr hx hb d_Ma_deliverResults_28 ?_
        refine lv_iconst (v := 1) hx hb d_Ma_deliverResults_29 (by decide) ?_
        refine lv_iand hx hb d_Ma_deliverResults_30 ?_
        refine lv_if_eq (tgt := 72) hx hb d_Ma_deliverResults_31 (by decide) (fun c4 => ?_) (fun c4 => ?_)
        · have hE := it_t hE c4
          exact wl_Ma_deliverResults_72 M (f_Ma_deliverResults_2 n) ih _ _ _ _ _ _ _ hE hP hD hS (lv_sub hl [1, 2] rfl)
        · have hE := it_f hE c4
          refine lv_aload_n hx hb d_Ma_deliverResults_34 rfl (lv_at hl 1 rfl) ?_
          refine lv_dup hx hb d_Ma_deliverResults_35 rfl ?_
          refine va_get (D := g.1) (ci := 3) (v := .int (r_ma 8)) (C := "MoveDesk$Machine") (T := F_Ma) (N := 16) hx hb hts i_Ma hown hK hP 0 rfl rfl 8 (by decide) (hts _ m_111) (fun _ h9 => h9) rfl d_Ma_deliverResults_36 ?_
          refine lv_iconst (v := 1) hx hb d_Ma_deliverResults_39 (by decide) ?_
          refine lv_iload_n hx hb d_Ma_deliverResults_40 rfl (lv_at hl 0 rfl) ?_
          refine lv_ishl hx hb d_Ma_deliverResults_41 ?_
          refine lv_iconst (v := (-1)) hx hb d_Ma_deliverResults_42 (by decide) ?_
          refine lv_ixor hx hb d_Ma_deliverResults_43 ?_
          refine lv_iand hx hb d_Ma_deliverResults_44 ?_
          refine lv_topi (fun x5 ex5 => ?_)
          have hE := nm_at hE ex5
          refine va_put (D := g.1) (ci := 3) (v := .int x5) (ty := .int) (C := "MoveDesk$Machine") (T := F_Ma) (N := 16) hx hb hts i_Ma t_Ma t_Ma_ok n_Ma hown hK hP hD hS 0 rfl rfl 8 (by decide) (hts _ m_111) (fun _ h9 => h9) rfl (by decide +kernel) rfl rfl (Nat.le_of_ble_eq_true rfl) d_Ma_deliverResults_45 (fun H locs hP hD hS => ?_)
          have hP : va_P g.1 classes (w_ma_rs_cm g a_lat a_co a_ma a_bu a_wo a_od a_rs a_ca a_cm (upd r_ma 8 x5) r_rs r_cm) H := hP
          have hD : va_D A (w_ma_rs_cm g a_lat a_co a_ma a_bu a_wo a_od a_rs a_ca a_cm (upd r_ma 8 x5) r_rs r_cm) := hD
          refine lv_aload_n hx hb d_Ma_deliverResults_48 rfl (lv_at hl 1 rfl) ?_
          refine va_get (D := g.1) (ci := 3) (v := .ref a_rs) (C := "MoveDesk$Machine") (T := F_Ma) (N := 16) hx hb hts i_Ma hown hK hP 0 rfl rfl 5 (by decide) (hts _ m_108) (fun _ h9 => h9) rfl d_Ma_deliverResults_49 ?_
          refine lv_iload_n hx hb d_Ma_deliverResults_52 rfl (lv_at hl 2 rfl) ?_
          refine lv_aload_n hx hb d_Ma_deliverResults_53 rfl (lv_at hl 1 rfl) ?_
          refine va_get (D := g.1) (ci := 3) (v := .ref a_cm) (C := "MoveDesk$Machine") (T := F_Ma) (N := 16) hx hb hts i_Ma hown hK hP 0 rfl rfl 7 (by decide) (hts _ m_110) (fun _ h9 => h9) rfl d_Ma_deliverResults_54 ?_
          refine lv_iload_n hx hb d_Ma_deliverResults_57 rfl (lv_at hl 0 rfl) ?_
          have ⟨h6, hE⟩ := ck_at hE
          refine va_iald hx hb hK hP 2 0 rfl rfl h6 d_Ma_deliverResults_58 ?_
          have ⟨h7, hE⟩ := ck_at hE
          refine va_iast hx hb hK hP hD hS 1 0 rfl rfl h7 d_Ma_deliverResults_59 (fun H locs hP hD hS => ?_)
          have hP : va_P g.1 classes (w_ma_rs_cm g a_lat a_co a_ma a_bu a_wo a_od a_rs a_ca a_cm (upd r_ma 8 x5) (upd r_rs v1.toNatClampNeg (r_cm x3.toNatClampNeg)) r_cm) H := hP
          have hD : va_D A (w_ma_rs_cm g a_lat a_co a_ma a_bu a_wo a_od a_rs a_ca a_cm (upd r_ma 8 x5) (upd r_rs v1.toNatClampNeg (r_cm x3.toNatClampNeg)) r_cm) := hD
          refine lv_aload_n hx hb d_Ma_deliverResults_60 rfl (lv_at hl 1 rfl) ?_
          refine lv_dup hx hb d_Ma_deliverResults_61 rfl ?_
          refine va_get (D := g.1) (ci := 3) (v := .int (r_ma 10)) (C := "MoveDesk$Machine") (T := F_Ma) (N := 16) hx hb hts i_Ma hown hK hP 0 rfl rfl 10 (by decide) (hts _ m_113) (fun _ h9 => h9) rfl d_Ma_deliverResults_62 ?_
          refine lv_iconst (v := 1) hx hb d_Ma_deliverResults_65 (by decide) ?_
          refine lv_iload_n hx hb d_Ma_deliverResults_66 rfl (lv_at hl 2 rfl) ?_
          refine lv_ishl hx hb d_Ma_deliverResults_67 ?_
          refine lv_ior hx hb d_Ma_deliverResults_68 ?_
          refine lv_topi (fun x8 ex8 => ?_)
          have hE := nm_at hE ex8
          refine va_put (D := g.1) (ci := 3) (v := .int x8) (ty := .int) (C := "MoveDesk$Machine") (T := F_Ma) (N := 16) hx hb hts i_Ma t_Ma t_Ma_ok n_Ma hown hK hP hD hS 0 rfl rfl 10 (by decide) (hts _ m_113) (fun _ h9 => h9) rfl (by decide +kernel) rfl rfl (Nat.le_of_ble_eq_true rfl) d_Ma_deliverResults_69 (fun H locs hP hD hS => ?_)
          have hP : va_P g.1 classes (w_ma_rs_cm g a_lat a_co a_ma a_bu a_wo a_od a_rs a_ca a_cm (upd (upd r_ma 8 x5) 10 x8) (upd r_rs v1.toNatClampNeg (r_cm x3.toNatClampNeg)) r_cm) H := hP
          have hD : va_D A (w_ma_rs_cm g a_lat a_co a_ma a_bu a_wo a_od a_rs a_ca a_cm (upd (upd r_ma 8 x5) 10 x8) (upd r_rs v1.toNatClampNeg (r_cm x3.toNatClampNeg)) r_cm) := hD
          exact wl_Ma_deliverResults_72 M (f_Ma_deliverResults_2 n) ih _ _ _ _ _ _ _ hE hP hD hS (lv_sub hl [1, 2] rfl)
set_option maxHeartbeats 4000000 in
set_option maxRecDepth 100000 in
theorem c_Ma_deliverResults (l : Launch) (g : GT) (a_lat : Nat) (a_co : Nat) (a_ma : Nat) (a_bu : Nat) (a_wo : Nat) (a_od : Nat) (a_rs : Nat) (a_ca : Nat) (a_cm : Nat) (r_ma : Nat → Int32) (r_rs : Nat → Int32) (r_cm : Nat → Int32)  (y : (Nat → Int32) × (Nat → Int32)) (hy : some y = f_Ma_deliverResults r_ma r_rs r_cm) : Ct l y_Ma_deliverResults (.code y_Ma_deliverResults b_Ma_deliverResults 3 none) rm_Ma_deliverResults g [.ref a_ma] (w_ma_rs_cm g a_lat a_co a_ma a_bu a_wo a_od a_rs a_ca a_cm r_ma r_rs r_cm) (w_ma_rs_cm g a_lat a_co a_ma a_bu a_wo a_od a_rs a_ca a_cm y.1 y.2 r_cm) none := by
  refine ct_in (C := "MoveDesk$Machine") rfl (by decide) (Nat.le_of_ble_eq_true rfl) (fun p e s m below meth c A ls M hP hD hS hl => ?_)
  obtain ⟨hx, hb, hr, hml, hown, hts, hlocks, hA, hK, hG⟩ := id M
  have hl : lv_has ls 3 [(0, .ref a_ma)] := hl
  have hE := hy
  rw [f_Ma_deliverResults] at hE
  refine lv_iconst (v := 0) hx hb d_Ma_deliverResults_0 (by decide) ?_
  refine lv_istore_n (lv' := [(1, .int 0), (0, .ref a_ma)]) hx hb d_Ma_deliverResults_1 rfl hl (by decide) rfl (fun ls hl => ?_)
  exact wl_Ma_deliverResults_2 M 5000 _ _ _ _ _ _ _ hE hP hD hS (lv_sub hl [1, 0] rfl)
abbrev rm_Ma_stepOn : Room := { frames := 1, cells := 0, slots := 0, locals := 20 }
set_option maxHeartbeats 4000000 in
set_option maxRecDepth 100000 in
theorem c_Ma_stepOn (l : Launch) (g : GT) (a_lat : Nat) (a_co : Nat) (a_ma : Nat) (a_bu : Nat) (a_wo : Nat) (a_od : Nat) (a_rs : Nat) (a_ca : Nat) (a_cm : Nat) (r_ma : Nat → Int32)  (y : (Nat → Int32)) (hy : some y = f_Ma_stepOn r_ma) : Ct l y_Ma_stepOn (.code y_Ma_stepOn b_Ma_stepOn 1 none) rm_Ma_stepOn g [.ref a_ma] (w_ma g a_lat a_co a_ma a_bu a_wo a_od a_rs a_ca a_cm r_ma) (w_ma g a_lat a_co a_ma a_bu a_wo a_od a_rs a_ca a_cm y) none := by
  refine ct_in (C := "MoveDesk$Machine") rfl (by decide) (Nat.le_of_ble_eq_true rfl) (fun p e s m below meth c A ls M hP hD hS hl => ?_)
  obtain ⟨hx, hb, hr, hml, hown, hts, hlocks, hA, hK, hG⟩ := id M
  have hl : lv_has ls 1 [(0, .ref a_ma)] := hl
  have hE := hy
  rw [f_Ma_stepOn] at hE
  refine lv_aload_n hx hb d_Ma_stepOn_0 rfl (lv_at hl 0 rfl) ?_
  refine lv_aload_n hx hb d_Ma_stepOn_1 rfl (lv_at hl 0 rfl) ?_
  refine va_get (D := g.1) (ci := 3) (v := .int (r_ma 12)) (C := "MoveDesk$Machine") (T := F_Ma) (N := 16) hx hb hts i_Ma hown hK hP 0 rfl rfl 12 (by decide) (hts _ m_115) (fun _ h9 => h9) rfl d_Ma_stepOn_2 ?_
  refine lv_iconst (v := 1) hx hb d_Ma_stepOn_5 (by decide) ?_
  refine lv_iadd hx hb d_Ma_stepOn_6 ?_
  obtain ⟨y1, hy1, hE⟩ := bd_at hE
  refine kSN (index := 128) (As := [.int ((r_ma 12) + (1 : Int32))]) (rest := [.ref a_ma]) (ws2 := (w_ma g a_lat a_co a_ma a_bu a_wo a_od a_rs a_ca a_cm r_ma)) M hP hD hS hl.1 (c_Md_wrapCycle l g   ((r_ma 12) + (1 : Int32)) y1 hy1) nw_762 m_417 m_1 m_418 hs_Md_wrapCycle rfl rfl rfl ⟨by decide, by decide⟩ ⟨by decide, by decide⟩ [] [0] [0] rfl rfl rfl rfl (by decide) rfl rfl rfl (Nat.le_of_ble_eq_true rfl) d_Ma_stepOn_7 (fun H locs hP hD hS => ?_)
  refine W.eq (g2 := F0 m 10 ls [.int y1, .ref a_ma]) rfl ?_
  refine va_put (D := g.1) (ci := 3) (v := .int y1) (ty := .int) (C := "MoveDesk$Machine") (T := F_Ma) (N := 16) hx hb hts i_Ma t_Ma t_Ma_ok n_Ma hown hK hP hD hS 0 rfl rfl 12 (by decide) (hts _ m_115) (fun _ h9 => h9) rfl (by decide +kernel) rfl rfl (Nat.le_of_ble_eq_true rfl) d_Ma_stepOn_10 (fun H locs hP hD hS => ?_)
  have hP : va_P g.1 classes (w_ma g a_lat a_co a_ma a_bu a_wo a_od a_rs a_ca a_cm (upd r_ma 12 y1)) H := hP
  have hD : va_D A (w_ma g a_lat a_co a_ma a_bu a_wo a_od a_rs a_ca a_cm (upd r_ma 12 y1)) := hD
  refine lv_aload_n hx hb d_Ma_stepOn_13 rfl (lv_at hl 0 rfl) ?_
  refine va_get (D := g.1) (ci := 3) (v := .int (r_ma 13)) (C := "MoveDesk$Machine") (T := F_Ma) (N := 16) hx hb hts i_Ma hown hK hP 0 rfl rfl 13 (by decide) (hts _ m_116) (fun _ h9 => h9) rfl d_Ma_stepOn_14 ?_
  refine lv_if_le (tgt := 45) hx hb d_Ma_stepOn_17 (by decide) (fun c2 => ?_) (fun c2 => ?_)
  · have hE := it_t hE c2
    have hE := Option.some.inj hE
    rw [hE]
    exact W.vret hx hb hr (fun t ht hW => ⟨⟨rfl, by rw [ht]; exact hP, va_K.moved hW.alike hK, hD⟩, hS.F ht⟩) hS.2.2 d_Ma_stepOn_45 hlocks
  · have hE := it_f hE c2
    refine lv_aload_n hx hb d_Ma_stepOn_20 rfl (lv_at hl 0 rfl) ?_
    refine lv_dup hx hb d_Ma_stepOn_21 rfl ?_
    refine va_get (D := g.1) (ci := 3) (v := .int (r_ma 13)) (C := "MoveDesk$Machine") (T := F_Ma) (N := 16) hx hb hts i_Ma hown hK hP 0 rfl rfl 13 (by decide) (hts _ m_116) (fun _ h9 => h9) rfl d_Ma_stepOn_22 ?_
    refine lv_iconst (v := 1) hx hb d_Ma_stepOn_25 (by decide) ?_
    refine lv_isub hx hb d_Ma_stepOn_26 ?_
    refine lv_topi (fun x3 ex3 => ?_)
    have hE := nm_at hE ex3
    refine va_put (D := g.1) (ci := 3) (v := .int x3) (ty := .int) (C := "MoveDesk$Machine") (T := F_Ma) (N := 16) hx hb hts i_Ma t_Ma t_Ma_ok n_Ma hown hK hP hD hS 0 rfl rfl 13 (by decide) (hts _ m_116) (fun _ h9 => h9) rfl (by decide +kernel) rfl rfl (Nat.le_of_ble_eq_true rfl) d_Ma_stepOn_27 (fun H locs hP hD hS => ?_)
    have hP : va_P g.1 classes (w_ma g a_lat a_co a_ma a_bu a_wo a_od a_rs a_ca a_cm (upd (upd r_ma 12 y1) 13 x3)) H := hP
    have hD : va_D A (w_ma g a_lat a_co a_ma a_bu a_wo a_od a_rs a_ca a_cm (upd (upd r_ma 12 y1) 13 x3)) := hD
    refine lv_aload_n hx hb d_Ma_stepOn_30 rfl (lv_at hl 0 rfl) ?_
    refine va_get (D := g.1) (ci := 3) (v := .int x3) (C := "MoveDesk$Machine") (T := F_Ma) (N := 16) hx hb hts i_Ma hown hK hP 0 rfl rfl 13 (by decide) (hts _ m_116) (fun _ h9 => h9) rfl d_Ma_stepOn_31 ?_
    refine lv_if_ne (tgt := 45) hx hb d_Ma_stepOn_34 (by decide) (fun c4 => ?_) (fun c4 => ?_)
    · have hE := it_f hE c4
      have hE := Option.some.inj hE
      rw [hE]
      exact W.vret hx hb hr (fun t ht hW => ⟨⟨rfl, by rw [ht]; exact hP, va_K.moved hW.alike hK, hD⟩, hS.F ht⟩) hS.2.2 d_Ma_stepOn_45 hlocks
    · have hE := it_t hE c4
      refine lv_aload_n hx hb d_Ma_stepOn_37 rfl (lv_at hl 0 rfl) ?_
      refine lv_aload_n hx hb d_Ma_stepOn_38 rfl (lv_at hl 0 rfl) ?_
      refine va_get (D := g.1) (ci := 3) (v := .int (r_ma 14)) (C := "MoveDesk$Machine") (T := F_Ma) (N := 16) hx hb hts i_Ma hown hK hP 0 rfl rfl 14 (by decide) (hts _ m_117) (fun _ h9 => h9) rfl d_Ma_stepOn_39 ?_
      refine lv_topi (fun x5 ex5 => ?_)
      have hE := nm_at hE ex5
      refine va_put (D := g.1) (ci := 3) (v := .int x5) (ty := .int) (C := "MoveDesk$Machine") (T := F_Ma) (N := 16) hx hb hts i_Ma t_Ma t_Ma_ok n_Ma hown hK hP hD hS 0 rfl rfl 12 (by decide) (hts _ m_115) (fun _ h9 => h9) rfl (by decide +kernel) rfl rfl (Nat.le_of_ble_eq_true rfl) d_Ma_stepOn_42 (fun H locs hP hD hS => ?_)
      have hP : va_P g.1 classes (w_ma g a_lat a_co a_ma a_bu a_wo a_od a_rs a_ca a_cm (upd (upd (upd r_ma 12 y1) 13 x3) 12 x5)) H := hP
      have hD : va_D A (w_ma g a_lat a_co a_ma a_bu a_wo a_od a_rs a_ca a_cm (upd (upd (upd r_ma 12 y1) 13 x3) 12 x5)) := hD
      have hE := Option.some.inj hE
      rw [hE]
      exact W.vret hx hb hr (fun t ht hW => ⟨⟨rfl, by rw [ht]; exact hP, va_K.moved hW.alike hK, hD⟩, hS.F ht⟩) hS.2.2 d_Ma_stepOn_45 hlocks
abbrev rm_Ma_tryCycle : Room := { frames := 3, cells := 0, slots := 0, locals := 67 }
set_option maxHeartbeats 4000000 in
set_option maxRecDepth 100000 in
theorem wl_Ma_tryCycle_81 {p : Program} {l : Launch} {e : Env} {s : State} {m : MethodId} {args : Array Value} {below : List Frame} {meth : Method} {c : Code} {A : Nat → Prop} {g : GT} {a_lat : Nat} {a_co : Nat} {a_ta : Nat} {a_gu : Nat} {a_so : Nat} {a_cn : Nat} {a_de : Nat} {a_ma : Nat} {a_bu : Nat} {a_wo : Nat} {a_od : Nat} {a_rs : Nat} {a_ca : Nat} {a_cm : Nat} {y : Int32 × (Nat → Int32) × (Nat → Int32) × (Nat → Int32) × (Nat → Int32) × (Nat → Int32) × (Nat → Int32) × (Nat → Int32)} (M : MX p s m args meth c b_Ma_tryCycle 3 (some .int) "MoveDesk$Machine" g A) : ∀ (r_lat : Nat → Int32) (r_co : Nat → Int32) (r_ta : Nat → Int32) (r_gu : Nat → Int32) (r_so : Nat → Int32) (r_cn : Nat → Int32) (r_de : Nat → Int32) (r_ma : Nat → Int32) (r_bu : Nat → Int32) (r_wo : Nat → Int32) (r_od : Nat → Int32) (r_rs : Nat → Int32) (r_ca : Nat → Int32) (r_cm : Nat → Int32)  (H : Heap) (locs : List Loc) (ls : Array Slot), some y = f_Ma_tryCycle_81 r_lat r_co r_ta r_gu r_so r_cn r_de r_ma r_bu r_wo r_od r_rs r_ca r_cm → va_P g.1 classes (w_lat_14_445d g a_lat a_co a_ta a_gu a_so a_cn a_de a_ma a_bu a_wo a_od a_rs a_ca a_cm r_lat r_co r_ta r_gu r_so r_cn r_de r_ma r_bu r_wo r_od r_rs r_ca r_cm) H → va_D A (w_lat_14_445d g a_lat a_co a_ta a_gu a_so a_cn a_de a_ma a_bu a_wo a_od a_rs a_ca a_cm r_lat r_co r_ta r_gu r_so r_cn r_de r_ma r_bu r_wo r_od r_rs r_ca r_cm) → va_S A s.heap H locs → lv_has ls 3 [(0, .ref a_ma)] → W p l e rm_Ma_tryCycle s m args below meth c H locs 0 0 (MQ below (QW g (some (.int y.1)) (w_lat_14_445d g a_lat a_co a_ta a_gu a_so a_cn a_de a_ma a_bu a_wo a_od a_rs a_ca a_cm r_lat r_co r_ta r_gu r_so r_cn r_de y.2.1 y.2.2.1 y.2.2.2.1 y.2.2.2.2.1 y.2.2.2.2.2.1 y.2.2.2.2.2.2.1 y.2.2.2.2.2.2.2) A) args s 0 0 A) (F0 m 81 ls []) := by
  obtain ⟨hx, hb, hr, hml, hown, hts, hlocks, hA, hK, hG⟩ := id M
  intro r_lat r_co r_ta r_gu r_so r_cn r_de r_ma r_bu r_wo r_od r_rs r_ca r_cm H locs ls hE hP hD hS hl
  rw [f_Ma_tryCycle_81] at hE
  refine lv_aload_n hx hb d_Ma_tryCycle_81 rfl (lv_at hl 0 rfl) ?_
  obtain ⟨y1, hy1, hE⟩ := bd_at hE
  refine kV (C := "MoveDesk$Machine") (index := 91) (As := []) (rest := []) (ws2 := (w_lat_14_445d g a_lat a_co a_ta a_gu a_so a_cn a_de a_ma a_bu a_wo a_od a_rs a_ca a_cm r_lat r_co r_ta r_gu r_so r_cn r_de y1.1 r_bu r_wo r_od y1.2 r_ca r_cm)) M hP hD hS hl.1 (c_Ma_deliverResults l g a_lat a_co a_ma a_bu a_wo a_od a_rs a_ca a_cm r_ma r_rs r_cm  y1 hy1) m_763 m_765 s_27 m_4 m_766 hd_Ma_deliverResults rfl rfl rfl ⟨by decide, by decide⟩ ⟨by decide, by decide⟩ 3 0 rfl rfl rfl [7, 11, 13] [0, 1, 2, 3, 4, 5, 6, 8, 9, 10, 12] [0, 1, 2, 3, 4, 5, 6, 11, 7, 8, 9, 12, 10, 13] rfl rfl rfl rfl (by decide) rfl rfl rfl (Nat.le_of_ble_eq_true rfl) d_Ma_tryCycle_82 (fun H locs hP hD hS => ?_)
  refine W.eq (g2 := F0 m 85 ls []) rfl ?_
  refine lv_aload_n hx hb d_Ma_tryCycle_85 rfl (lv_at hl 0 rfl) ?_
  obtain ⟨y2, hy2, hE⟩ := bd_at hE
  refine kV (C := "MoveDesk$Machine") (index := 94) (As := []) (rest := []) (ws2 := (w_lat_14_445d g a_lat a_co a_ta a_gu a_so a_cn a_de a_ma a_bu a_wo a_od a_rs a_ca a_cm r_lat r_co r_ta r_gu r_so r_cn r_de y2 r_bu r_wo r_od y1.2 r_ca r_cm)) M hP hD hS hl.1 (c_Ma_stepOn l g a_lat a_co a_ma a_bu a_wo a_od a_rs a_ca a_cm y1.1  y2 hy2) m_767 m_769 s_28 m_4 m_770 hd_Ma_stepOn rfl rfl rfl ⟨by decide, by decide⟩ ⟨by decide, by decide⟩ 3 0 rfl rfl rfl [7] [0, 1, 2, 3, 4, 5, 6, 8, 9, 10, 11, 12, 13] [0, 1, 2, 3, 4, 5, 6, 13, 7, 8, 9, 10, 11, 12] rfl rfl rfl rfl (by decide) rfl rfl rfl (Nat.le_of_ble_eq_true rfl) d_Ma_tryCycle_86 (fun H locs hP hD hS => ?_)
  refine W.eq (g2 := F0 m 89 ls []) rfl ?_
  refine lv_iconst (v := 0) hx hb d_Ma_tryCycle_89 (by decide) ?_
  have hE := Option.some.inj hE
  rw [hE]
  exact W.iret (v := 0) hx hb hr (fun t ht hW => ⟨⟨rfl, by rw [ht]; exact hP, va_K.moved hW.alike hK, hD⟩, hS.F ht⟩) hS.2.2 d_Ma_tryCycle_90 hlocks
set_option maxHeartbeats 4000000 in
set_option maxRecDepth 100000 in
theorem wl_Ma_tryCycle_60 {p : Program} {l : Launch} {e : Env} {s : State} {m : MethodId} {args : Array Value} {below : List Frame} {meth : Method} {c : Code} {A : Nat → Prop} {g : GT} {a_lat : Nat} {a_co : Nat} {a_ta : Nat} {a_gu : Nat} {a_so : Nat} {a_cn : Nat} {a_de : Nat} {a_ma : Nat} {a_bu : Nat} {a_wo : Nat} {a_od : Nat} {a_rs : Nat} {a_ca : Nat} {a_cm : Nat} {y : Int32 × (Nat → Int32) × (Nat → Int32) × (Nat → Int32) × (Nat → Int32) × (Nat → Int32) × (Nat → Int32) × (Nat → Int32)} (M : MX p s m args meth c b_Ma_tryCycle 3 (some .int) "MoveDesk$Machine" g A) : ∀ (r_lat : Nat → Int32) (r_co : Nat → Int32) (r_ta : Nat → Int32) (r_gu : Nat → Int32) (r_so : Nat → Int32) (r_cn : Nat → Int32) (r_de : Nat → Int32) (r_ma : Nat → Int32) (r_bu : Nat → Int32) (r_wo : Nat → Int32) (r_od : Nat → Int32) (r_rs : Nat → Int32) (r_ca : Nat → Int32) (r_cm : Nat → Int32) (v1 : Int32) (v2 : Int32) (H : Heap) (locs : List Loc) (ls : Array Slot), some y = f_Ma_tryCycle_60 r_lat r_co r_ta r_gu r_so r_cn r_de r_ma r_bu r_wo r_od r_rs r_ca r_cm v1 v2 → va_P g.1 classes (w_lat_14_445d g a_lat a_co a_ta a_gu a_so a_cn a_de a_ma a_bu a_wo a_od a_rs a_ca a_cm r_lat r_co r_ta r_gu r_so r_cn r_de r_ma r_bu r_wo r_od r_rs r_ca r_cm) H → va_D A (w_lat_14_445d g a_lat a_co a_ta a_gu a_so a_cn a_de a_ma a_bu a_wo a_od a_rs a_ca a_cm r_lat r_co r_ta r_gu r_so r_cn r_de r_ma r_bu r_wo r_od r_rs r_ca r_cm) → va_S A s.heap H locs → lv_has ls 3 [(0, .ref a_ma), (1, .int v1), (2, .int v2)] → W p l e rm_Ma_tryCycle s m args below meth c H locs 0 0 (MQ below (QW g (some (.int y.1)) (w_lat_14_445d g a_lat a_co a_ta a_gu a_so a_cn a_de a_ma a_bu a_wo a_od a_rs a_ca a_cm r_lat r_co r_ta r_gu r_so r_cn r_de y.2.1 y.2.2.1 y.2.2.2.1 y.2.2.2.2.1 y.2.2.2.2.2.1 y.2.2.2.2.2.2.1 y.2.2.2.2.2.2.2) A) args s 0 0 A) (F0 m 60 ls []) := by
  obtain ⟨hx, hb, hr, hml, hown, hts, hlocks, hA, hK, hG⟩ := id M
  intro r_lat r_co r_ta r_gu r_so r_cn r_de r_ma r_bu r_wo r_od r_rs r_ca r_cm v1 v2 H locs ls hE hP hD hS hl
  rw [f_Ma_tryCycle_60] at hE
  refine lv_iload_n hx hb d_Ma_tryCycle_60 rfl (lv_at hl 2 rfl) ?_
  refine lv_if_eq (tgt := 66) hx hb d_Ma_tryCycle_61 (by decide) (fun c1 => ?_) (fun c1 => ?_)
  · have hE := it_t hE c1
    refine lv_aload_n hx hb d_Ma_tryCycle_66 rfl (lv_at hl 0 rfl) ?_
    refine lv_iload_n hx hb d_Ma_tryCycle_67 rfl (lv_at hl 1 rfl) ?_
    obtain ⟨y2, hy2, hE⟩ := bd_at hE
    refine kV (C := "MoveDesk$Machine") (index := 81) (As := [.int v1]) (rest := []) (ws2 := (w_lat_14_445d g a_lat a_co a_ta a_gu a_so a_cn a_de a_ma a_bu a_wo a_od a_rs a_ca a_cm r_lat r_co r_ta r_gu r_so r_cn r_de r_ma r_bu r_wo r_od r_rs y2 r_cm)) M hP hD hS hl.1 (c_Ma_readSources l g a_lat a_co a_ta a_gu a_so a_cn a_de a_ma a_bu a_wo a_od a_rs a_ca a_cm r_co r_so r_cn r_ma r_wo r_rs r_ca v1 y2 hy2) m_725 m_727 s_20 m_4 m_728 hd_Ma_readSources rfl rfl rfl ⟨by decide, by decide⟩ ⟨by decide, by decide⟩ 3 3 rfl rfl rfl [1, 4, 5, 7, 9, 11, 12] [0, 2, 3, 6, 8, 10, 13] [0, 7, 1, 2, 8, 9, 3, 10, 4, 11, 5, 12, 13, 6] rfl rfl rfl rfl (by decide) rfl rfl rfl (Nat.le_of_ble_eq_true rfl) d_Ma_tryCycle_68 (fun H locs hP hD hS => ?_)
    refine W.eq (g2 := F0 m 71 ls []) rfl ?_
    refine lv_aload_n hx hb d_Ma_tryCycle_71 rfl (lv_at hl 0 rfl) ?_
    refine lv_iload_n hx hb d_Ma_tryCycle_72 rfl (lv_at hl 1 rfl) ?_
    obtain ⟨y3, hy3, hE⟩ := bd_at hE
    refine kV (C := "MoveDesk$Machine") (index := 85) (As := [.int v1]) (rest := []) (ws2 := (w_lat_14_445d g a_lat a_co a_ta a_gu a_so a_cn a_de a_ma a_bu a_wo a_od a_rs a_ca a_cm r_lat r_co r_ta r_gu r_so r_cn r_de r_ma r_bu y3.1 y3.2 r_rs y2 r_cm)) M hP hD hS hl.1 (c_Ma_writePlaces l g a_lat a_co a_ta a_gu a_so a_cn a_de a_ma a_bu a_wo a_od a_rs a_ca a_cm r_co r_de r_ma r_wo r_od y2 v1 y3 hy3) m_738 m_740 s_22 m_4 m_741 hd_Ma_writePlaces rfl rfl rfl ⟨by decide, by decide⟩ ⟨by decide, by decide⟩ 3 2 rfl rfl rfl [1, 6, 7, 9, 10, 12] [0, 2, 3, 4, 5, 8, 11, 13] [0, 8, 1, 2, 3, 4, 9, 10, 5, 11, 12, 6, 13, 7] rfl rfl rfl rfl (by decide) rfl rfl rfl (Nat.le_of_ble_eq_true rfl) d_Ma_tryCycle_73 (fun H locs hP hD hS => ?_)
    refine W.eq (g2 := F0 m 76 ls []) rfl ?_
    refine lv_aload_n hx hb d_Ma_tryCycle_76 rfl (lv_at hl 0 rfl) ?_
    refine lv_iload_n hx hb d_Ma_tryCycle_77 rfl (lv_at hl 1 rfl) ?_
    obtain ⟨y4, hy4, hE⟩ := bd_at hE
    refine kV (C := "MoveDesk$Machine") (index := 88) (As := [.int v1]) (rest := []) (ws2 := (w_lat_14_445d g a_lat a_co a_ta a_gu a_so a_cn a_de a_ma a_bu a_wo a_od a_rs a_ca a_cm r_lat r_co r_ta r_gu r_so r_cn r_de y4.1 r_bu y4.2.1 y3.2 r_rs y2 y4.2.2)) M hP hD hS hl.1 (c_Ma_pullTriggers l g a_lat a_co a_ta a_gu a_so a_cn a_de a_ma a_bu a_wo a_od a_rs a_ca a_cm r_lat r_co r_de r_ma y3.1 y3.2 y2 r_cm v1 y4 hy4) m_743 m_745 s_23 m_4 m_746 hd_Ma_pullTriggers rfl rfl rfl ⟨by decide, by decide⟩ ⟨by decide, by decide⟩ 3 3 rfl rfl rfl [0, 1, 6, 7, 9, 10, 12, 13] [2, 3, 4, 5, 8, 11] [6, 7, 0, 1, 2, 3, 8, 9, 4, 10, 11, 5, 12, 13] rfl rfl rfl rfl (by decide) rfl rfl rfl (Nat.le_of_ble_eq_true rfl) d_Ma_tryCycle_78 (fun H locs hP hD hS => ?_)
    refine W.eq (g2 := F0 m 81 ls []) rfl ?_
    exact wl_Ma_tryCycle_81 M _ _ _ _ _ _ _ _ _ _ _ _ _ _ _ _ _ hE hP hD hS (lv_sub hl [0] rfl)
  · have hE := it_f hE c1
    refine lv_iload_n hx hb d_Ma_tryCycle_64 rfl (lv_at hl 2 rfl) ?_
    have hE := Option.some.inj hE
    rw [hE]
    exact W.iret (v := v2) hx hb hr (fun t ht hW => ⟨⟨rfl, by rw [ht]; exact hP, va_K.moved hW.alike hK, hD⟩, hS.F ht⟩) hS.2.2 d_Ma_tryCycle_65 hlocks
set_option maxHeartbeats 4000000 in
set_option maxRecDepth 100000 in
theorem c_Ma_tryCycle (l : Launch) (g : GT) (a_lat : Nat) (a_co : Nat) (a_ta : Nat) (a_gu : Nat) (a_so : Nat) (a_cn : Nat) (a_de : Nat) (a_ma : Nat) (a_bu : Nat) (a_wo : Nat) (a_od : Nat) (a_rs : Nat) (a_ca : Nat) (a_cm : Nat) (r_lat : Nat → Int32) (r_co : Nat → Int32) (r_ta : Nat → Int32) (r_gu : Nat → Int32) (r_so : Nat → Int32) (r_cn : Nat → Int32) (r_de : Nat → Int32) (r_ma : Nat → Int32) (r_bu : Nat → Int32) (r_wo : Nat → Int32) (r_od : Nat → Int32) (r_rs : Nat → Int32) (r_ca : Nat → Int32) (r_cm : Nat → Int32)  (y : Int32 × (Nat → Int32) × (Nat → Int32) × (Nat → Int32) × (Nat → Int32) × (Nat → Int32) × (Nat → Int32) × (Nat → Int32)) (hy : some y = f_Ma_tryCycle r_lat r_co r_ta r_gu r_so r_cn r_de r_ma r_bu r_wo r_od r_rs r_ca r_cm) : Ct l y_Ma_tryCycle (.code y_Ma_tryCycle b_Ma_tryCycle 3 (some .int)) rm_Ma_tryCycle g [.ref a_ma] (w_lat_14_445d g a_lat a_co a_ta a_gu a_so a_cn a_de a_ma a_bu a_wo a_od a_rs a_ca a_cm r_lat r_co r_ta r_gu r_so r_cn r_de r_ma r_bu r_wo r_od r_rs r_ca r_cm) (w_lat_14_445d g a_lat a_co a_ta a_gu a_so a_cn a_de a_ma a_bu a_wo a_od a_rs a_ca a_cm r_lat r_co r_ta r_gu r_so r_cn r_de y.2.1 y.2.2.1 y.2.2.2.1 y.2.2.2.2.1 y.2.2.2.2.2.1 y.2.2.2.2.2.2.1 y.2.2.2.2.2.2.2) (some (.int y.1)) := by
  refine ct_in (C := "MoveDesk$Machine") rfl (by decide) (Nat.le_of_ble_eq_true rfl) (fun p e s m below meth c A ls M hP hD hS hl => ?_)
  obtain ⟨hx, hb, hr, hml, hown, hts, hlocks, hA, hK, hG⟩ := id M
  have hl : lv_has ls 3 [(0, .ref a_ma)] := hl
  have hE := hy
  rw [f_Ma_tryCycle] at hE
  refine lv_aload_n hx hb d_Ma_tryCycle_0 rfl (lv_at hl 0 rfl) ?_
  refine va_get (D := g.1) (ci := 3) (v := .ref a_co) (C := "MoveDesk$Machine") (T := F_Ma) (N := 16) hx hb hts i_Ma hown hK hP 7 rfl rfl 0 (by decide) (hts _ m_102) (fun _ h9 => h9) rfl d_Ma_tryCycle_1 ?_
  refine lv_aload_n hx hb d_Ma_tryCycle_4 rfl (lv_at hl 0 rfl) ?_
  refine va_get (D := g.1) (ci := 3) (v := .int (r_ma 12)) (C := "MoveDesk$Machine") (T := F_Ma) (N := 16) hx hb hts i_Ma hown hK hP 7 rfl rfl 12 (by decide) (hts _ m_115) (fun _ h9 => h9) rfl d_Ma_tryCycle_5 ?_
  refine lv_aload_n hx hb d_Ma_tryCycle_8 rfl (lv_at hl 0 rfl) ?_
  refine va_get (D := g.1) (ci := 3) (v := .int (r_ma 11)) (C := "MoveDesk$Machine") (T := F_Ma) (N := 16) hx hb hts i_Ma hown hK hP 7 rfl rfl 11 (by decide) (hts _ m_114) (fun _ h9 => h9) rfl d_Ma_tryCycle_9 ?_
  obtain ⟨y1, hy1, hE⟩ := bd_at hE
  refine kV (C := "MoveDesk$Code") (index := 67) (As := [.int (r_ma 12), .int (r_ma 11)]) (rest := []) (ws2 := (w_lat_14_445d g a_lat a_co a_ta a_gu a_so a_cn a_de a_ma a_bu a_wo a_od a_rs a_ca a_cm r_lat r_co r_ta r_gu r_so r_cn r_de r_ma r_bu r_wo r_od r_rs r_ca r_cm)) M hP hD hS hl.1 (c_Co_madeWith l g a_co a_ta a_gu a_so a_cn a_de r_co r_ta r_gu (r_ma 12) (r_ma 11) y1 hy1) m_722 m_354 m_355 m_3 m_356 hd_Co_madeWith rfl rfl rfl ⟨by decide, by decide⟩ ⟨by decide, by decide⟩ 1 0 rfl rfl rfl [1, 2, 3] [0, 4, 5, 6, 7, 8, 9, 10, 11, 12, 13] [0, 11, 12, 13, 1, 2, 3, 4, 5, 6, 7, 8, 9, 10] rfl rfl rfl rfl (by decide) rfl rfl rfl (Nat.le_of_ble_eq_true rfl) d_Ma_tryCycle_12 (fun H locs hP hD hS => ?_)
  refine W.eq (g2 := F0 m 15 ls [.int y1]) rfl ?_
  refine lv_istore_n (lv' := [(1, .int y1), (0, .ref a_ma)]) hx hb d_Ma_tryCycle_15 rfl hl (by decide) rfl (fun ls hl => ?_)
  refine lv_iload_n hx hb d_Ma_tryCycle_16 rfl (lv_at hl 0 rfl) ?_
  refine lv_if_eq (tgt := 81) hx hb d_Ma_tryCycle_17 (by decide) (fun c2 => ?_) (fun c2 => ?_)
  · have hE := it_t hE c2
    exact wl_Ma_tryCycle_81 M _ _ _ _ _ _ _ _ _ _ _ _ _ _ _ _ _ hE hP hD hS (lv_sub hl [1] rfl)
  · have hE := it_f hE c2
    refine lv_aload_n hx hb d_Ma_tryCycle_20 rfl (lv_at hl 1 rfl) ?_
    refine va_get (D := g.1) (ci := 3) (v := .ref a_bu) (C := "MoveDesk$Machine") (T := F_Ma) (N := 16) hx hb hts i_Ma hown hK hP 7 rfl rfl 2 (by decide) (hts _ m_104) (fun _ h9 => h9) rfl d_Ma_tryCycle_21 ?_
    refine lv_aload_n hx hb d_Ma_tryCycle_24 rfl (lv_at hl 1 rfl) ?_
    refine va_get (D := g.1) (ci := 3) (v := .ref a_co) (C := "MoveDesk$Machine") (T := F_Ma) (N := 16) hx hb hts i_Ma hown hK hP 7 rfl rfl 0 (by decide) (hts _ m_102) (fun _ h9 => h9) rfl d_Ma_tryCycle_25 ?_
    refine lv_aload_n hx hb d_Ma_tryCycle_28 rfl (lv_at hl 1 rfl) ?_
    refine va_get (D := g.1) (ci := 3) (v := .int (r_ma 12)) (C := "MoveDesk$Machine") (T := F_Ma) (N := 16) hx hb hts i_Ma hown hK hP 7 rfl rfl 12 (by decide) (hts _ m_115) (fun _ h9 => h9) rfl d_Ma_tryCycle_29 ?_
    refine lv_iload_n hx hb d_Ma_tryCycle_32 rfl (lv_at hl 0 rfl) ?_
    obtain ⟨y3, hy3, hE⟩ := bd_at hE
    refine kV (C := "MoveDesk$Bundle") (index := 73) (As := [.ref a_co, .int (r_ma 12), .int y1]) (rest := []) (ws2 := (w_lat_14_445d g a_lat a_co a_ta a_gu a_so a_cn a_de a_ma a_bu a_wo a_od a_rs a_ca a_cm r_lat r_co r_ta r_gu r_so r_cn r_de r_ma y3 r_wo r_od r_rs r_ca r_cm)) M hP hD hS hl.1 (c_Bu_gather l g a_co a_ta a_gu a_so a_cn a_de a_bu r_co r_so r_de r_bu (r_ma 12) y1 y3 hy3) m_723 m_370 m_371 m_5 m_372 hd_Bu_gather rfl rfl rfl ⟨by decide, by decide⟩ ⟨by decide, by decide⟩ 0 3 rfl rfl rfl [1, 4, 6, 8] [0, 2, 3, 5, 7, 9, 10, 11, 12, 13] [0, 10, 1, 2, 11, 3, 12, 4, 13, 5, 6, 7, 8, 9] rfl rfl rfl rfl (by decide) rfl rfl rfl (Nat.le_of_ble_eq_true rfl) d_Ma_tryCycle_33 (fun H locs hP hD hS => ?_)
    refine W.eq (g2 := F0 m 36 ls []) rfl ?_
    refine lv_aload_n hx hb d_Ma_tryCycle_36 rfl (lv_at hl 1 rfl) ?_
    refine va_get (D := g.1) (ci := 3) (v := .ref a_bu) (C := "MoveDesk$Machine") (T := F_Ma) (N := 16) hx hb hts i_Ma hown hK hP 7 rfl rfl 2 (by decide) (hts _ m_104) (fun _ h9 => h9) rfl d_Ma_tryCycle_37 ?_
    refine lv_aload_n hx hb d_Ma_tryCycle_40 rfl (lv_at hl 1 rfl) ?_
    refine va_get (D := g.1) (ci := 3) (v := .int (r_ma 10)) (C := "MoveDesk$Machine") (T := F_Ma) (N := 16) hx hb hts i_Ma hown hK hP 7 rfl rfl 10 (by decide) (hts _ m_113) (fun _ h9 => h9) rfl d_Ma_tryCycle_41 ?_
    refine lv_aload_n hx hb d_Ma_tryCycle_44 rfl (lv_at hl 1 rfl) ?_
    refine va_get (D := g.1) (ci := 3) (v := .int (r_ma 13)) (C := "MoveDesk$Machine") (T := F_Ma) (N := 16) hx hb hts i_Ma hown hK hP 7 rfl rfl 13 (by decide) (hts _ m_116) (fun _ h9 => h9) rfl d_Ma_tryCycle_45 ?_
    refine lv_if_le (tgt := 55) hx hb d_Ma_tryCycle_48 (by decide) (fun c4 => ?_) (fun c4 => ?_)
    · have hE := it_t hE c4
      refine lv_iconst (v := 0) hx hb d_Ma_tryCycle_55 (by decide) ?_
      obtain ⟨y5, hy5, hE⟩ := bd_at hE
      refine kV (C := "MoveDesk$Bundle") (index := 77) (As := [.int (r_ma 10), .int 0]) (rest := []) (ws2 := (w_lat_14_445d g a_lat a_co a_ta a_gu a_so a_cn a_de a_ma a_bu a_wo a_od a_rs a_ca a_cm r_lat r_co r_ta r_gu r_so r_cn r_de r_ma y3 r_wo r_od r_rs r_ca r_cm)) M hP hD hS hl.1 (c_Bu_leastFault l g a_bu y3 (r_ma 10) (0 : Int32) y5 hy5) m_724 m_394 m_395 m_5 m_396 hd_Bu_leastFault rfl rfl rfl ⟨by decide, by decide⟩ ⟨by decide, by decide⟩ 0 0 rfl rfl rfl [8] [0, 1, 2, 3, 4, 5, 6, 7, 9, 10, 11, 12, 13] [0, 1, 2, 3, 4, 5, 6, 7, 13, 8, 9, 10, 11, 12] rfl rfl rfl rfl (by decide) rfl rfl rfl (Nat.le_of_ble_eq_true rfl) d_Ma_tryCycle_56 (fun H locs hP hD hS => ?_)
      refine W.eq (g2 := F0 m 59 ls [.int y5]) rfl ?_
      refine lv_istore_n (lv' := [(2, .int y5), (1, .int y1), (0, .ref a_ma)]) hx hb d_Ma_tryCycle_59 rfl hl (by decide) rfl (fun ls hl => ?_)
      exact wl_Ma_tryCycle_60 M _ _ _ _ _ _ _ _ _ _ _ _ _ _ _ _ _ _ _ hE hP hD hS (lv_sub hl [2, 1, 0] rfl)
    · have hE := it_f hE c4
      refine lv_iconst (v := 1) hx hb d_Ma_tryCycle_51 (by decide) ?_
      refine lv_goto (tgt := 56) hx hb d_Ma_tryCycle_52 (by decide) ?_
      obtain ⟨y6, hy6, hE⟩ := bd_at hE
      refine kV (C := "MoveDesk$Bundle") (index := 77) (As := [.int (r_ma 10), .int 1]) (rest := []) (ws2 := (w_lat_14_445d g a_lat a_co a_ta a_gu a_so a_cn a_de a_ma a_bu a_wo a_od a_rs a_ca a_cm r_lat r_co r_ta r_gu r_so r_cn r_de r_ma y3 r_wo r_od r_rs r_ca r_cm)) M hP hD hS hl.1 (c_Bu_leastFault l g a_bu y3 (r_ma 10) (1 : Int32) y6 hy6) m_724 m_394 m_395 m_5 m_396 hd_Bu_leastFault rfl rfl rfl ⟨by decide, by decide⟩ ⟨by decide, by decide⟩ 0 0 rfl rfl rfl [8] [0, 1, 2, 3, 4, 5, 6, 7, 9, 10, 11, 12, 13] [0, 1, 2, 3, 4, 5, 6, 7, 13, 8, 9, 10, 11, 12] rfl rfl rfl rfl (by decide) rfl rfl rfl (Nat.le_of_ble_eq_true rfl) d_Ma_tryCycle_56 (fun H locs hP hD hS => ?_)
      refine W.eq (g2 := F0 m 59 ls [.int y6]) rfl ?_
      refine lv_istore_n (lv' := [(2, .int y6), (1, .int y1), (0, .ref a_ma)]) hx hb d_Ma_tryCycle_59 rfl hl (by decide) rfl (fun ls hl => ?_)
      exact wl_Ma_tryCycle_60 M _ _ _ _ _ _ _ _ _ _ _ _ _ _ _ _ _ _ _ hE hP hD hS (lv_sub hl [2, 1, 0] rfl)
