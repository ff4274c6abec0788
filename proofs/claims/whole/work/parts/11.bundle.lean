theorem s_4 : (.selects "MoveDesk$Bundle" ⟨"MoveDesk$Bundle", "takeSource", "(I)V"⟩ ⟨"MoveDesk$Bundle", "takeSource", "(I)V"⟩ : Cond) ∈ bw := ms 4 (by decide +kernel) rfl
theorem s_5 : (.selects "MoveDesk$Bundle" ⟨"MoveDesk$Bundle", "takeDestination", "(I)V"⟩ ⟨"MoveDesk$Bundle", "takeDestination", "(I)V"⟩ : Cond) ∈ bw := ms 5 (by decide +kernel) rfl
theorem s_6 : (.selects "MoveDesk$Bundle" ⟨"MoveDesk$Bundle", "takeJump", "(III)V"⟩ ⟨"MoveDesk$Bundle", "takeJump", "(III)V"⟩ : Cond) ∈ bw := ms 6 (by decide +kernel) rfl
theorem m_5 : (.initialized "MoveDesk$Bundle" : Cond) ∈ bw := mw 5 (by decide +kernel) rfl
theorem m_16 : (.initialized "java/lang/Integer" : Cond) ∈ bw := mw 16 (by decide +kernel) rfl
theorem m_72 : (.fieldLink "MoveDesk$Bundle" 9 "MoveDesk$Bundle" "targets" "I" : Cond) ∈ bw := mw 72 (by decide +kernel) rfl
theorem m_73 : (.fieldLink "MoveDesk$Bundle" 15 "MoveDesk$Bundle" "clashes" "Z" : Cond) ∈ bw := mw 73 (by decide +kernel) rfl
theorem m_74 : (.fieldLink "MoveDesk$Bundle" 19 "MoveDesk$Bundle" "registersRead" "I" : Cond) ∈ bw := mw 74 (by decide +kernel) rfl
theorem m_75 : (.fieldLink "MoveDesk$Bundle" 22 "MoveDesk$Bundle" "resultsRead" "I" : Cond) ∈ bw := mw 75 (by decide +kernel) rfl
theorem m_77 : (.fieldLink "MoveDesk$Bundle" 25 "MoveDesk$Bundle" "begun" "I" : Cond) ∈ bw := mw 77 (by decide +kernel) rfl
theorem m_79 : (.fieldLink "MoveDesk$Bundle" 28 "MoveDesk$Bundle" "jumpBus" "I" : Cond) ∈ bw := mw 79 (by decide +kernel) rfl
theorem m_81 : (.fieldLink "MoveDesk$Bundle" 31 "MoveDesk$Bundle" "jumpsAnywhere" "Z" : Cond) ∈ bw := mw 81 (by decide +kernel) rfl
theorem m_83 : (.fieldLink "MoveDesk$Bundle" 34 "MoveDesk$Bundle" "halts" "Z" : Cond) ∈ bw := mw 83 (by decide +kernel) rfl
theorem m_373 : (.methodLink "MoveDesk$Bundle" 37 ⟨"MoveDesk$Code", "source", "(II)I"⟩ : Cond) ∈ bw := mw 373 (by decide +kernel) rfl
theorem m_374 : (.methodLink "MoveDesk$Bundle" 43 ⟨"MoveDesk$Bundle", "takeSource", "(I)V"⟩ : Cond) ∈ bw := mw 374 (by decide +kernel) rfl
theorem m_376 : (.instanceMethod ⟨"MoveDesk$Bundle", "takeSource", "(I)V"⟩ : Cond) ∈ bw := mw 376 (by decide +kernel) rfl
theorem m_377 : (.code ⟨"MoveDesk$Bundle", "takeSource", "(I)V"⟩ prog_2_method_3_code 2 none : Cond) ∈ bw := mw 377 (by decide +kernel) rfl
theorem m_378 : (.methodLink "MoveDesk$Bundle" 47 ⟨"MoveDesk$Code", "destination", "(II)I"⟩ : Cond) ∈ bw := mw 378 (by decide +kernel) rfl
theorem m_379 : (.methodLink "MoveDesk$Bundle" 50 ⟨"MoveDesk$Bundle", "takeDestination", "(I)V"⟩ : Cond) ∈ bw := mw 379 (by decide +kernel) rfl
theorem m_381 : (.instanceMethod ⟨"MoveDesk$Bundle", "takeDestination", "(I)V"⟩ : Cond) ∈ bw := mw 381 (by decide +kernel) rfl
theorem m_382 : (.code ⟨"MoveDesk$Bundle", "takeDestination", "(I)V"⟩ prog_2_method_4_code 3 none : Cond) ∈ bw := mw 382 (by decide +kernel) rfl
theorem m_383 : (.fieldLink "MoveDesk$Bundle" 57 "MoveDesk$Bundle" "TARGETS" "[I" : Cond) ∈ bw := mw 383 (by decide +kernel) rfl
theorem m_385 : (.methodLink "MoveDesk$Bundle" 53 ⟨"MoveDesk$Bundle", "takeJump", "(III)V"⟩ : Cond) ∈ bw := mw 385 (by decide +kernel) rfl
theorem m_387 : (.instanceMethod ⟨"MoveDesk$Bundle", "takeJump", "(III)V"⟩ : Cond) ∈ bw := mw 387 (by decide +kernel) rfl
theorem m_388 : (.code ⟨"MoveDesk$Bundle", "takeJump", "(III)V"⟩ prog_2_method_5_code 4 none : Cond) ∈ bw := mw 388 (by decide +kernel) rfl
theorem m_397 : (.methodLink "MoveDesk$Bundle" 61 ⟨"java/lang/Integer", "bitCount", "(I)I"⟩ : Cond) ∈ bw := mw 397 (by decide +kernel) rfl
theorem m_398 : (.static ⟨"java/lang/Integer", "bitCount", "(I)I"⟩ : Cond) ∈ bw := mw 398 (by decide +kernel) rfl
theorem m_399 : (.code ⟨"java/lang/Integer", "bitCount", "(I)I"⟩ prog_14_method_49_code 1 (some .int) : Cond) ∈ bw := mw 399 (by decide +kernel) rfl
abbrev w_bu (g : GT) (a_bu : Nat) (r_bu : Nat → Int32) : va_W := [kO a_bu 0 [.int (r_bu 0), .int (r_bu 1), .int (r_bu 2), .int (r_bu 3), .int (r_bu 4), .int (r_bu 5), .int (r_bu 6), .int (r_bu 7)]]
abbrev b_Bu_takeSource : ByteArray := prog_2_method_3_code
abbrev y_Bu_takeSource : MethodName := ⟨"MoveDesk$Bundle", "takeSource", "(I)V"⟩
theorem hd_Bu_takeSource : y_Bu_takeSource.cls = "MoveDesk$Bundle" ∧ y_Bu_takeSource.cls ≠ "java/lang/invoke/MethodHandle" ∧ y_Bu_takeSource.cls ≠ "java/lang/invoke/VarHandle" ∧ (parseMethodDescriptor y_Bu_takeSource.desc).map (fun d => d.parameters.length) = some 1 := by decide +kernel
theorem d_Bu_takeSource_0 : decode b_Bu_takeSource 0 = .ok (.iload_n 1, 1) := by decide +kernel
theorem d_Bu_takeSource_1 : decode b_Bu_takeSource 1 = .ok (.bipush 8, 2) := by decide +kernel
theorem d_Bu_takeSource_3 : decode b_Bu_takeSource 3 = .ok (.if_icmp .ge 18, 3) := by decide +kernel
theorem d_Bu_takeSource_6 : decode b_Bu_takeSource 6 = .ok (.aload_n 0, 1) := by decide +kernel
theorem d_Bu_takeSource_7 : decode b_Bu_takeSource 7 = .ok (.dup, 1) := by decide +kernel
theorem d_Bu_takeSource_8 : decode b_Bu_takeSource 8 = .ok (.getfield 19, 3) := by decide +kernel
theorem d_Bu_takeSource_11 : decode b_Bu_takeSource 11 = .ok (.iconst 1, 1) := by decide +kernel
theorem d_Bu_takeSource_12 : decode b_Bu_takeSource 12 = .ok (.iload_n 1, 1) := by decide +kernel
theorem d_Bu_takeSource_13 : decode b_Bu_takeSource 13 = .ok (.ishl, 1) := by decide +kernel
theorem d_Bu_takeSource_14 : decode b_Bu_takeSource 14 = .ok (.ior, 1) := by decide +kernel
theorem d_Bu_takeSource_15 : decode b_Bu_takeSource 15 = .ok (.putfield 19, 3) := by decide +kernel
theorem d_Bu_takeSource_18 : decode b_Bu_takeSource 18 = .ok (.goto 24, 3) := by decide +kernel
theorem d_Bu_takeSource_21 : decode b_Bu_takeSource 21 = .ok (.iload_n 1, 1) := by decide +kernel
theorem d_Bu_takeSource_22 : decode b_Bu_takeSource 22 = .ok (.bipush 11, 2) := by decide +kernel
theorem d_Bu_takeSource_24 : decode b_Bu_takeSource 24 = .ok (.if_icmp .ge 18, 3) := by decide +kernel
theorem d_Bu_takeSource_27 : decode b_Bu_takeSource 27 = .ok (.aload_n 0, 1) := by decide +kernel
theorem d_Bu_takeSource_28 : decode b_Bu_takeSource 28 = .ok (.dup, 1) := by decide +kernel
theorem d_Bu_takeSource_29 : decode b_Bu_takeSource 29 = .ok (.getfield 22, 3) := by decide +kernel
theorem d_Bu_takeSource_32 : decode b_Bu_takeSource 32 = .ok (.iconst 1, 1) := by decide +kernel
theorem d_Bu_takeSource_33 : decode b_Bu_takeSource 33 = .ok (.iload_n 1, 1) := by decide +kernel
theorem d_Bu_takeSource_34 : decode b_Bu_takeSource 34 = .ok (.bipush 8, 2) := by decide +kernel
theorem d_Bu_takeSource_36 : decode b_Bu_takeSource 36 = .ok (.isub, 1) := by decide +kernel
theorem d_Bu_takeSource_37 : decode b_Bu_takeSource 37 = .ok (.ishl, 1) := by decide +kernel
theorem d_Bu_takeSource_38 : decode b_Bu_takeSource 38 = .ok (.ior, 1) := by decide +kernel
theorem d_Bu_takeSource_39 : decode b_Bu_takeSource 39 = .ok (.putfield 22, 3) := by decide +kernel
theorem d_Bu_takeSource_42 : decode b_Bu_takeSource 42 = .ok (.return_, 1) := by decide +kernel
abbrev b_Bu_takeDestination : ByteArray := prog_2_method_4_code
abbrev y_Bu_takeDestination : MethodName := ⟨"MoveDesk$Bundle", "takeDestination", "(I)V"⟩
theorem hd_Bu_takeDestination : y_Bu_takeDestination.cls = "MoveDesk$Bundle" ∧ y_Bu_takeDestination.cls ≠ "java/lang/invoke/MethodHandle" ∧ y_Bu_takeDestination.cls ≠ "java/lang/invoke/VarHandle" ∧ (parseMethodDescriptor y_Bu_takeDestination.desc).map (fun d => d.parameters.length) = some 1 := by decide +kernel
theorem d_Bu_takeDestination_0 : decode b_Bu_takeDestination 0 = .ok (.iconst 1, 1) := by decide +kernel
theorem d_Bu_takeDestination_1 : decode b_Bu_takeDestination 1 = .ok (.getstatic 57, 3) := by decide +kernel
theorem d_Bu_takeDestination_4 : decode b_Bu_takeDestination 4 = .ok (.iload_n 1, 1) := by decide +kernel
theorem d_Bu_takeDestination_5 : decode b_Bu_takeDestination 5 = .ok (.iaload, 1) := by decide +kernel
theorem d_Bu_takeDestination_6 : decode b_Bu_takeDestination 6 = .ok (.ishl, 1) := by decide +kernel
theorem d_Bu_takeDestination_7 : decode b_Bu_takeDestination 7 = .ok (.istore_n 2, 1) := by decide +kernel
theorem d_Bu_takeDestination_8 : decode b_Bu_takeDestination 8 = .ok (.aload_n 0, 1) := by decide +kernel
theorem d_Bu_takeDestination_9 : decode b_Bu_takeDestination 9 = .ok (.aload_n 0, 1) := by decide +kernel
theorem d_Bu_takeDestination_10 : decode b_Bu_takeDestination 10 = .ok (.getfield 15, 3) := by decide +kernel
theorem d_Bu_takeDestination_13 : decode b_Bu_takeDestination 13 = .ok (.ifCond .ne 12, 3) := by decide +kernel
theorem d_Bu_takeDestination_16 : decode b_Bu_takeDestination 16 = .ok (.aload_n 0, 1) := by decide +kernel
theorem d_Bu_takeDestination_17 : decode b_Bu_takeDestination 17 = .ok (.getfield 9, 3) := by decide +kernel
theorem d_Bu_takeDestination_20 : decode b_Bu_takeDestination 20 = .ok (.iload_n 2, 1) := by decide +kernel
theorem d_Bu_takeDestination_21 : decode b_Bu_takeDestination 21 = .ok (.iand, 1) := by decide +kernel
theorem d_Bu_takeDestination_22 : decode b_Bu_takeDestination 22 = .ok (.ifCond .eq 7, 3) := by decide +kernel
theorem d_Bu_takeDestination_25 : decode b_Bu_takeDestination 25 = .ok (.iconst 1, 1) := by decide +kernel
theorem d_Bu_takeDestination_26 : decode b_Bu_takeDestination 26 = .ok (.goto 4, 3) := by decide +kernel
theorem d_Bu_takeDestination_29 : decode b_Bu_takeDestination 29 = .ok (.iconst 0, 1) := by decide +kernel
theorem d_Bu_takeDestination_30 : decode b_Bu_takeDestination 30 = .ok (.putfield 15, 3) := by decide +kernel
theorem d_Bu_takeDestination_33 : decode b_Bu_takeDestination 33 = .ok (.aload_n 0, 1) := by decide +kernel
theorem d_Bu_takeDestination_34 : decode b_Bu_takeDestination 34 = .ok (.dup, 1) := by decide +kernel
theorem d_Bu_takeDestination_35 : decode b_Bu_takeDestination 35 = .ok (.getfield 9, 3) := by decide +kernel
theorem d_Bu_takeDestination_38 : decode b_Bu_takeDestination 38 = .ok (.iload_n 2, 1) := by decide +kernel
theorem d_Bu_takeDestination_39 : decode b_Bu_takeDestination 39 = .ok (.ior, 1) := by decide +kernel
theorem d_Bu_takeDestination_40 : decode b_Bu_takeDestination 40 = .ok (.putfield 9, 3) := by decide +kernel
theorem d_Bu_takeDestination_43 : decode b_Bu_takeDestination 43 = .ok (.aload_n 0, 1) := by decide +kernel
theorem d_Bu_takeDestination_44 : decode b_Bu_takeDestination 44 = .ok (.aload_n 0, 1) := by decide +kernel
theorem d_Bu_takeDestination_45 : decode b_Bu_takeDestination 45 = .ok (.getfield 34, 3) := by decide +kernel
theorem d_Bu_takeDestination_48 : decode b_Bu_takeDestination 48 = .ok (.ifCond .ne 9, 3) := by decide +kernel
theorem d_Bu_takeDestination_51 : decode b_Bu_takeDestination 51 = .ok (.iload_n 1, 1) := by decide +kernel
theorem d_Bu_takeDestination_52 : decode b_Bu_takeDestination 52 = .ok (.bipush 25, 2) := by decide +kernel
theorem d_Bu_takeDestination_54 : decode b_Bu_takeDestination 54 = .ok (.if_icmp .ne 7, 3) := by decide +kernel
theorem d_Bu_takeDestination_57 : decode b_Bu_takeDestination 57 = .ok (.iconst 1, 1) := by decide +kernel
theorem d_Bu_takeDestination_58 : decode b_Bu_takeDestination 58 = .ok (.goto 4, 3) := by decide +kernel
theorem d_Bu_takeDestination_61 : decode b_Bu_takeDestination 61 = .ok (.iconst 0, 1) := by decide +kernel
theorem d_Bu_takeDestination_62 : decode b_Bu_takeDestination 62 = .ok (.putfield 34, 3) := by decide +kernel
theorem d_Bu_takeDestination_65 : decode b_Bu_takeDestination 65 = .ok (.iload_n 1, 1) := by decide +kernel
theorem d_Bu_takeDestination_66 : decode b_Bu_takeDestination 66 = .ok (.bipush 11, 2) := by decide +kernel
theorem d_Bu_takeDestination_68 : decode b_Bu_takeDestination 68 = .ok (.if_icmp .eq 9, 3) := by decide +kernel
theorem d_Bu_takeDestination_71 : decode b_Bu_takeDestination 71 = .ok (.iload_n 1, 1) := by decide +kernel
theorem d_Bu_takeDestination_72 : decode b_Bu_takeDestination 72 = .ok (.bipush 12, 2) := by decide +kernel
theorem d_Bu_takeDestination_74 : decode b_Bu_takeDestination 74 = .ok (.if_icmp .ne 16, 3) := by decide +kernel
theorem d_Bu_takeDestination_77 : decode b_Bu_takeDestination 77 = .ok (.aload_n 0, 1) := by decide +kernel
theorem d_Bu_takeDestination_78 : decode b_Bu_takeDestination 78 = .ok (.dup, 1) := by decide +kernel
theorem d_Bu_takeDestination_79 : decode b_Bu_takeDestination 79 = .ok (.getfield 25, 3) := by decide +kernel
theorem d_Bu_takeDestination_82 : decode b_Bu_takeDestination 82 = .ok (.iconst 1, 1) := by decide +kernel
theorem d_Bu_takeDestination_83 : decode b_Bu_takeDestination 83 = .ok (.ior, 1) := by decide +kernel
theorem d_Bu_takeDestination_84 : decode b_Bu_takeDestination 84 = .ok (.putfield 25, 3) := by decide +kernel
theorem d_Bu_takeDestination_87 : decode b_Bu_takeDestination 87 = .ok (.goto 38, 3) := by decide +kernel
theorem d_Bu_takeDestination_90 : decode b_Bu_takeDestination 90 = .ok (.iload_n 1, 1) := by decide +kernel
theorem d_Bu_takeDestination_91 : decode b_Bu_takeDestination 91 = .ok (.bipush 13, 2) := by decide +kernel
theorem d_Bu_takeDestination_93 : decode b_Bu_takeDestination 93 = .ok (.if_icmp .ne 16, 3) := by decide +kernel
theorem d_Bu_takeDestination_96 : decode b_Bu_takeDestination 96 = .ok (.aload_n 0, 1) := by decide +kernel
theorem d_Bu_takeDestination_97 : decode b_Bu_takeDestination 97 = .ok (.dup, 1) := by decide +kernel
theorem d_Bu_takeDestination_98 : decode b_Bu_takeDestination 98 = .ok (.getfield 25, 3) := by decide +kernel
theorem d_Bu_takeDestination_101 : decode b_Bu_takeDestination 101 = .ok (.iconst 2, 1) := by decide +kernel
theorem d_Bu_takeDestination_102 : decode b_Bu_takeDestination 102 = .ok (.ior, 1) := by decide +kernel
theorem d_Bu_takeDestination_103 : decode b_Bu_takeDestination 103 = .ok (.putfield 25, 3) := by decide +kernel
theorem d_Bu_takeDestination_106 : decode b_Bu_takeDestination 106 = .ok (.goto 19, 3) := by decide +kernel
theorem d_Bu_takeDestination_109 : decode b_Bu_takeDestination 109 = .ok (.iload_n 1, 1) := by decide +kernel
theorem d_Bu_takeDestination_110 : decode b_Bu_takeDestination 110 = .ok (.bipush 14, 2) := by decide +kernel
theorem d_Bu_takeDestination_112 : decode b_Bu_takeDestination 112 = .ok (.if_icmp .ne 13, 3) := by decide +kernel
theorem d_Bu_takeDestination_115 : decode b_Bu_takeDestination 115 = .ok (.aload_n 0, 1) := by decide +kernel
theorem d_Bu_takeDestination_116 : decode b_Bu_takeDestination 116 = .ok (.dup, 1) := by decide +kernel
theorem d_Bu_takeDestination_117 : decode b_Bu_takeDestination 117 = .ok (.getfield 25, 3) := by decide +kernel
theorem d_Bu_takeDestination_120 : decode b_Bu_takeDestination 120 = .ok (.iconst 4, 1) := by decide +kernel
theorem d_Bu_takeDestination_121 : decode b_Bu_takeDestination 121 = .ok (.ior, 1) := by decide +kernel
theorem d_Bu_takeDestination_122 : decode b_Bu_takeDestination 122 = .ok (.putfield 25, 3) := by decide +kernel
theorem d_Bu_takeDestination_125 : decode b_Bu_takeDestination 125 = .ok (.return_, 1) := by decide +kernel
abbrev b_Bu_takeJump : ByteArray := prog_2_method_5_code
abbrev y_Bu_takeJump : MethodName := ⟨"MoveDesk$Bundle", "takeJump", "(III)V"⟩
theorem hd_Bu_takeJump : y_Bu_takeJump.cls = "MoveDesk$Bundle" ∧ y_Bu_takeJump.cls ≠ "java/lang/invoke/MethodHandle" ∧ y_Bu_takeJump.cls ≠ "java/lang/invoke/VarHandle" ∧ (parseMethodDescriptor y_Bu_takeJump.desc).map (fun d => d.parameters.length) = some 3 := by decide +kernel
theorem d_Bu_takeJump_0 : decode b_Bu_takeJump 0 = .ok (.iload_n 3, 1) := by decide +kernel
theorem d_Bu_takeJump_1 : decode b_Bu_takeJump 1 = .ok (.bipush 24, 2) := by decide +kernel
theorem d_Bu_takeJump_3 : decode b_Bu_takeJump 3 = .ok (.if_icmp .ne 30, 3) := by decide +kernel
theorem d_Bu_takeJump_6 : decode b_Bu_takeJump 6 = .ok (.aload_n 0, 1) := by decide +kernel
theorem d_Bu_takeJump_7 : decode b_Bu_takeJump 7 = .ok (.iload_n 1, 1) := by decide +kernel
theorem d_Bu_takeJump_8 : decode b_Bu_takeJump 8 = .ok (.putfield 28, 3) := by decide +kernel
theorem d_Bu_takeJump_11 : decode b_Bu_takeJump 11 = .ok (.aload_n 0, 1) := by decide +kernel
theorem d_Bu_takeJump_12 : decode b_Bu_takeJump 12 = .ok (.aload_n 0, 1) := by decide +kernel
theorem d_Bu_takeJump_13 : decode b_Bu_takeJump 13 = .ok (.getfield 31, 3) := by decide +kernel
theorem d_Bu_takeJump_16 : decode b_Bu_takeJump 16 = .ok (.ifCond .ne 9, 3) := by decide +kernel
theorem d_Bu_takeJump_19 : decode b_Bu_takeJump 19 = .ok (.iload_n 2, 1) := by decide +kernel
theorem d_Bu_takeJump_20 : decode b_Bu_takeJump 20 = .ok (.bipush 11, 2) := by decide +kernel
theorem d_Bu_takeJump_22 : decode b_Bu_takeJump 22 = .ok (.if_icmp .eq 7, 3) := by decide +kernel
theorem d_Bu_takeJump_25 : decode b_Bu_takeJump 25 = .ok (.iconst 1, 1) := by decide +kernel
theorem d_Bu_takeJump_26 : decode b_Bu_takeJump 26 = .ok (.goto 4, 3) := by decide +kernel
theorem d_Bu_takeJump_29 : decode b_Bu_takeJump 29 = .ok (.iconst 0, 1) := by decide +kernel
theorem d_Bu_takeJump_30 : decode b_Bu_takeJump 30 = .ok (.putfield 31, 3) := by decide +kernel
theorem d_Bu_takeJump_33 : decode b_Bu_takeJump 33 = .ok (.return_, 1) := by decide +kernel
abbrev w_co_so_de_bu (g : GT) (a_co : Nat) (a_ta : Nat) (a_gu : Nat) (a_so : Nat) (a_cn : Nat) (a_de : Nat) (a_bu : Nat) (r_co : Nat → Int32) (r_so : Nat → Int32) (r_de : Nat → Int32) (r_bu : Nat → Int32) : va_W := [kO a_co 1 [.int (r_co 0), .ref a_ta, .ref a_gu, .ref a_so, .ref a_cn, .ref a_de], kI g a_so 256 r_so, kI g a_de 256 r_de, kO a_bu 0 [.int (r_bu 0), .int (r_bu 1), .int (r_bu 2), .int (r_bu 3), .int (r_bu 4), .int (r_bu 5), .int (r_bu 6), .int (r_bu 7)]]
abbrev b_Bu_gather : ByteArray := prog_2_method_2_code
abbrev y_Bu_gather : MethodName := ⟨"MoveDesk$Bundle", "gather", "(LMoveDesk$Code;II)V"⟩
theorem hd_Bu_gather : y_Bu_gather.cls = "MoveDesk$Bundle" ∧ y_Bu_gather.cls ≠ "java/lang/invoke/MethodHandle" ∧ y_Bu_gather.cls ≠ "java/lang/invoke/VarHandle" ∧ (parseMethodDescriptor y_Bu_gather.desc).map (fun d => d.parameters.length) = some 3 := by decide +kernel
theorem d_Bu_gather_0 : decode b_Bu_gather 0 = .ok (.aload_n 0, 1) := by decide +kernel
theorem d_Bu_gather_1 : decode b_Bu_gather 1 = .ok (.iconst 0, 1) := by decide +kernel
theorem d_Bu_gather_2 : decode b_Bu_gather 2 = .ok (.putfield 9, 3) := by decide +kernel
theorem d_Bu_gather_5 : decode b_Bu_gather 5 = .ok (.aload_n 0, 1) := by decide +kernel
theorem d_Bu_gather_6 : decode b_Bu_gather 6 = .ok (.iconst 0, 1) := by decide +kernel
theorem d_Bu_gather_7 : decode b_Bu_gather 7 = .ok (.putfield 15, 3) := by decide +kernel
theorem d_Bu_gather_10 : decode b_Bu_gather 10 = .ok (.aload_n 0, 1) := by decide +kernel
theorem d_Bu_gather_11 : decode b_Bu_gather 11 = .ok (.iconst 0, 1) := by decide +kernel
theorem d_Bu_gather_12 : decode b_Bu_gather 12 = .ok (.putfield 19, 3) := by decide +kernel
theorem d_Bu_gather_15 : decode b_Bu_gather 15 = .ok (.aload_n 0, 1) := by decide +kernel
theorem d_Bu_gather_16 : decode b_Bu_gather 16 = .ok (.iconst 0, 1) := by decide +kernel
theorem d_Bu_gather_17 : decode b_Bu_gather 17 = .ok (.putfield 22, 3) := by decide +kernel
theorem d_Bu_gather_20 : decode b_Bu_gather 20 = .ok (.aload_n 0, 1) := by decide +kernel
theorem d_Bu_gather_21 : decode b_Bu_gather 21 = .ok (.iconst 0, 1) := by decide +kernel
theorem d_Bu_gather_22 : decode b_Bu_gather 22 = .ok (.putfield 25, 3) := by decide +kernel
theorem d_Bu_gather_25 : decode b_Bu_gather 25 = .ok (.aload_n 0, 1) := by decide +kernel
theorem d_Bu_gather_26 : decode b_Bu_gather 26 = .ok (.iconst (-1), 1) := by decide +kernel
theorem d_Bu_gather_27 : decode b_Bu_gather 27 = .ok (.putfield 28, 3) := by decide +kernel
theorem d_Bu_gather_30 : decode b_Bu_gather 30 = .ok (.aload_n 0, 1) := by decide +kernel
theorem d_Bu_gather_31 : decode b_Bu_gather 31 = .ok (.iconst 0, 1) := by decide +kernel
theorem d_Bu_gather_32 : decode b_Bu_gather 32 = .ok (.putfield 31, 3) := by decide +kernel
theorem d_Bu_gather_35 : decode b_Bu_gather 35 = .ok (.aload_n 0, 1) := by decide +kernel
theorem d_Bu_gather_36 : decode b_Bu_gather 36 = .ok (.iconst 0, 1) := by decide +kernel
theorem d_Bu_gather_37 : decode b_Bu_gather 37 = .ok (.putfield 34, 3) := by decide +kernel
theorem d_Bu_gather_40 : decode b_Bu_gather 40 = .ok (.iconst 0, 1) := by decide +kernel
theorem d_Bu_gather_41 : decode b_Bu_gather 41 = .ok (.istore 4, 2) := by decide +kernel
theorem d_Bu_gather_43 : decode b_Bu_gather 43 = .ok (.iload_n 3, 1) := by decide +kernel
theorem d_Bu_gather_44 : decode b_Bu_gather 44 = .ok (.iload 4, 2) := by decide +kernel
theorem d_Bu_gather_46 : decode b_Bu_gather 46 = .ok (.ishr, 1) := by decide +kernel
theorem d_Bu_gather_47 : decode b_Bu_gather 47 = .ok (.ifCond .eq 66, 3) := by decide +kernel
theorem d_Bu_gather_50 : decode b_Bu_gather 50 = .ok (.iload 4, 2) := by decide +kernel
theorem d_Bu_gather_52 : decode b_Bu_gather 52 = .ok (.iconst 4, 1) := by decide +kernel
theorem d_Bu_gather_53 : decode b_Bu_gather 53 = .ok (.if_icmp .ge 60, 3) := by decide +kernel
theorem d_Bu_gather_56 : decode b_Bu_gather 56 = .ok (.iload_n 3, 1) := by decide +kernel
theorem d_Bu_gather_57 : decode b_Bu_gather 57 = .ok (.iload 4, 2) := by decide +kernel
theorem d_Bu_gather_59 : decode b_Bu_gather 59 = .ok (.ishr, 1) := by decide +kernel
theorem d_Bu_gather_60 : decode b_Bu_gather 60 = .ok (.iconst 1, 1) := by decide +kernel
theorem d_Bu_gather_61 : decode b_Bu_gather 61 = .ok (.iand, 1) := by decide +kernel
theorem d_Bu_gather_62 : decode b_Bu_gather 62 = .ok (.ifCond .eq 45, 3) := by decide +kernel
theorem d_Bu_gather_65 : decode b_Bu_gather 65 = .ok (.aload_n 0, 1) := by decide +kernel
theorem d_Bu_gather_66 : decode b_Bu_gather 66 = .ok (.aload_n 1, 1) := by decide +kernel
theorem d_Bu_gather_67 : decode b_Bu_gather 67 = .ok (.iload_n 2, 1) := by decide +kernel
theorem d_Bu_gather_68 : decode b_Bu_gather 68 = .ok (.iload 4, 2) := by decide +kernel
theorem d_Bu_gather_70 : decode b_Bu_gather 70 = .ok (.invokevirtual 37, 3) := by decide +kernel
theorem d_Bu_gather_73 : decode b_Bu_gather 73 = .ok (.invokevirtual 43, 3) := by decide +kernel
theorem d_Bu_gather_76 : decode b_Bu_gather 76 = .ok (.aload_n 0, 1) := by decide +kernel
theorem d_Bu_gather_77 : decode b_Bu_gather 77 = .ok (.aload_n 1, 1) := by decide +kernel
theorem d_Bu_gather_78 : decode b_Bu_gather 78 = .ok (.iload_n 2, 1) := by decide +kernel
theorem d_Bu_gather_79 : decode b_Bu_gather 79 = .ok (.iload 4, 2) := by decide +kernel
theorem d_Bu_gather_81 : decode b_Bu_gather 81 = .ok (.invokevirtual 47, 3) := by decide +kernel
theorem d_Bu_gather_84 : decode b_Bu_gather 84 = .ok (.invokevirtual 50, 3) := by decide +kernel
theorem d_Bu_gather_87 : decode b_Bu_gather 87 = .ok (.aload_n 0, 1) := by decide +kernel
theorem d_Bu_gather_88 : decode b_Bu_gather 88 = .ok (.iload 4, 2) := by decide +kernel
theorem d_Bu_gather_90 : decode b_Bu_gather 90 = .ok (.aload_n 1, 1) := by decide +kernel
theorem d_Bu_gather_91 : decode b_Bu_gather 91 = .ok (.iload_n 2, 1) := by decide +kernel
theorem d_Bu_gather_92 : decode b_Bu_gather 92 = .ok (.iload 4, 2) := by decide +kernel
theorem d_Bu_gather_94 : decode b_Bu_gather 94 = .ok (.invokevirtual 37, 3) := by decide +kernel
theorem d_Bu_gather_97 : decode b_Bu_gather 97 = .ok (.aload_n 1, 1) := by decide +kernel
theorem d_Bu_gather_98 : decode b_Bu_gather 98 = .ok (.iload_n 2, 1) := by decide +kernel
theorem d_Bu_gather_99 : decode b_Bu_gather 99 = .ok (.iload 4, 2) := by decide +kernel
theorem d_Bu_gather_101 : decode b_Bu_gather 101 = .ok (.invokevirtual 47, 3) := by decide +kernel
theorem d_Bu_gather_104 : decode b_Bu_gather 104 = .ok (.invokevirtual 53, 3) := by decide +kernel
theorem d_Bu_gather_107 : decode b_Bu_gather 107 = .ok (.iinc 4 1, 3) := by decide +kernel
theorem d_Bu_gather_110 : decode b_Bu_gather 110 = .ok (.goto (-67), 3) := by decide +kernel
theorem d_Bu_gather_113 : decode b_Bu_gather 113 = .ok (.return_, 1) := by decide +kernel
abbrev b_Bu_leastFault : ByteArray := prog_2_method_6_code
abbrev y_Bu_leastFault : MethodName := ⟨"MoveDesk$Bundle", "leastFault", "(IZ)I"⟩
theorem hd_Bu_leastFault : y_Bu_leastFault.cls = "MoveDesk$Bundle" ∧ y_Bu_leastFault.cls ≠ "java/lang/invoke/MethodHandle" ∧ y_Bu_leastFault.cls ≠ "java/lang/invoke/VarHandle" ∧ (parseMethodDescriptor y_Bu_leastFault.desc).map (fun d => d.parameters.length) = some 2 := by decide +kernel
theorem d_Bu_leastFault_0 : decode b_Bu_leastFault 0 = .ok (.aload_n 0, 1) := by decide +kernel
theorem d_Bu_leastFault_1 : decode b_Bu_leastFault 1 = .ok (.getfield 15, 3) := by decide +kernel
theorem d_Bu_leastFault_4 : decode b_Bu_leastFault 4 = .ok (.ifCond .eq 5, 3) := by decide +kernel
theorem d_Bu_leastFault_7 : decode b_Bu_leastFault 7 = .ok (.iconst 1, 1) := by decide +kernel
theorem d_Bu_leastFault_8 : decode b_Bu_leastFault 8 = .ok (.ireturn, 1) := by decide +kernel
theorem d_Bu_leastFault_9 : decode b_Bu_leastFault 9 = .ok (.aload_n 0, 1) := by decide +kernel
theorem d_Bu_leastFault_10 : decode b_Bu_leastFault 10 = .ok (.getfield 22, 3) := by decide +kernel
theorem d_Bu_leastFault_13 : decode b_Bu_leastFault 13 = .ok (.iload_n 1, 1) := by decide +kernel
theorem d_Bu_leastFault_14 : decode b_Bu_leastFault 14 = .ok (.iconst (-1), 1) := by decide +kernel
theorem d_Bu_leastFault_15 : decode b_Bu_leastFault 15 = .ok (.ixor, 1) := by decide +kernel
theorem d_Bu_leastFault_16 : decode b_Bu_leastFault 16 = .ok (.iand, 1) := by decide +kernel
theorem d_Bu_leastFault_17 : decode b_Bu_leastFault 17 = .ok (.ifCond .eq 5, 3) := by decide +kernel
theorem d_Bu_leastFault_20 : decode b_Bu_leastFault 20 = .ok (.iconst 2, 1) := by decide +kernel
theorem d_Bu_leastFault_21 : decode b_Bu_leastFault 21 = .ok (.ireturn, 1) := by decide +kernel
theorem d_Bu_leastFault_22 : decode b_Bu_leastFault 22 = .ok (.iload_n 2, 1) := by decide +kernel
theorem d_Bu_leastFault_23 : decode b_Bu_leastFault 23 = .ok (.ifCond .eq 13, 3) := by decide +kernel
theorem d_Bu_leastFault_26 : decode b_Bu_leastFault 26 = .ok (.aload_n 0, 1) := by decide +kernel
theorem d_Bu_leastFault_27 : decode b_Bu_leastFault 27 = .ok (.getfield 28, 3) := by decide +kernel
theorem d_Bu_leastFault_30 : decode b_Bu_leastFault 30 = .ok (.iconst (-1), 1) := by decide +kernel
theorem d_Bu_leastFault_31 : decode b_Bu_leastFault 31 = .ok (.if_icmp .eq 5, 3) := by decide +kernel
theorem d_Bu_leastFault_34 : decode b_Bu_leastFault 34 = .ok (.iconst 3, 1) := by decide +kernel
theorem d_Bu_leastFault_35 : decode b_Bu_leastFault 35 = .ok (.ireturn, 1) := by decide +kernel
theorem d_Bu_leastFault_36 : decode b_Bu_leastFault 36 = .ok (.aload_n 0, 1) := by decide +kernel
theorem d_Bu_leastFault_37 : decode b_Bu_leastFault 37 = .ok (.getfield 9, 3) := by decide +kernel
theorem d_Bu_leastFault_40 : decode b_Bu_leastFault 40 = .ok (.sipush 255, 3) := by decide +kernel
theorem d_Bu_leastFault_43 : decode b_Bu_leastFault 43 = .ok (.iand, 1) := by decide +kernel
theorem d_Bu_leastFault_44 : decode b_Bu_leastFault 44 = .ok (.istore_n 3, 1) := by decide +kernel
theorem d_Bu_leastFault_45 : decode b_Bu_leastFault 45 = .ok (.aload_n 0, 1) := by decide +kernel
theorem d_Bu_leastFault_46 : decode b_Bu_leastFault 46 = .ok (.getfield 19, 3) := by decide +kernel
theorem d_Bu_leastFault_49 : decode b_Bu_leastFault 49 = .ok (.invokestatic 61, 3) := by decide +kernel
theorem d_Bu_leastFault_52 : decode b_Bu_leastFault 52 = .ok (.iconst 2, 1) := by decide +kernel
theorem d_Bu_leastFault_53 : decode b_Bu_leastFault 53 = .ok (.if_icmp .gt 11, 3) := by decide +kernel
theorem d_Bu_leastFault_56 : decode b_Bu_leastFault 56 = .ok (.iload_n 3, 1) := by decide +kernel
theorem d_Bu_leastFault_57 : decode b_Bu_leastFault 57 = .ok (.invokestatic 61, 3) := by decide +kernel
theorem d_Bu_leastFault_60 : decode b_Bu_leastFault 60 = .ok (.iconst 1, 1) := by decide +kernel
theorem d_Bu_leastFault_61 : decode b_Bu_leastFault 61 = .ok (.if_icmp .le 5, 3) := by decide +kernel
theorem d_Bu_leastFault_64 : decode b_Bu_leastFault 64 = .ok (.iconst 4, 1) := by decide +kernel
theorem d_Bu_leastFault_65 : decode b_Bu_leastFault 65 = .ok (.ireturn, 1) := by decide +kernel
theorem d_Bu_leastFault_66 : decode b_Bu_leastFault 66 = .ok (.iconst 0, 1) := by decide +kernel
theorem d_Bu_leastFault_67 : decode b_Bu_leastFault 67 = .ok (.ireturn, 1) := by decide +kernel
def f_Bu_takeSource (r_bu : Nat → Int32) (v1 : Int32) : Option ((Nat → Int32)) :=
  if (8 : Int32) ≤ v1 then
    if (11 : Int32) ≤ v1 then
      some (r_bu)
    else
      nm ((r_bu 3) ||| ((1 : Int32) <<< ((v1 - (8 : Int32)) &&& 31)) : Int32) fun x3 =>
      some (upd r_bu 3 x3)
  else
    nm ((r_bu 2) ||| ((1 : Int32) <<< (v1 &&& 31)) : Int32) fun x4 =>
    some (upd r_bu 2 x4)
def f_Bu_takeDestination_77 (r_bu : Nat → Int32)  : Option ((Nat → Int32)) :=
  nm ((r_bu 4) ||| (1 : Int32) : Int32) fun x1 =>
  some (upd r_bu 4 x1)
def f_Bu_takeDestination_65 (r_bu : Nat → Int32) (v1 : Int32) : Option ((Nat → Int32)) :=
  if v1 = (11 : Int32) then
    f_Bu_takeDestination_77 r_bu
  else
    if v1 = (12 : Int32) then
      f_Bu_takeDestination_77 r_bu
    else
      if v1 = (13 : Int32) then
        nm ((r_bu 4) ||| (2 : Int32) : Int32) fun x6 =>
        some (upd r_bu 4 x6)
      else
        if v1 = (14 : Int32) then
          nm ((r_bu 4) ||| (4 : Int32) : Int32) fun x5 =>
          some (upd r_bu 4 x5)
        else
          some (r_bu)
def f_Bu_takeDestination_33 (r_bu : Nat → Int32) (v1 : Int32) (v2 : Int32) : Option ((Nat → Int32)) :=
  nm ((r_bu 0) ||| v2 : Int32) fun x1 =>
  if (r_bu 7) = 0 then
    if v1 = (25 : Int32) then
      f_Bu_takeDestination_65 (upd (upd r_bu 0 x1) 7 1) v1
    else
      f_Bu_takeDestination_65 (upd (upd r_bu 0 x1) 7 0) v1
  else
    f_Bu_takeDestination_65 (upd (upd r_bu 0 x1) 7 1) v1
def f_Bu_takeDestination (r_bu : Nat → Int32) (v1 : Int32) : Option ((Nat → Int32)) :=
  ck v1 26 <|
  nm ((1 : Int32) <<< ((tgV v1.toNatClampNeg) &&& 31) : Int32) fun x2 =>
  if (r_bu 1) = 0 then
    if (r_bu 0) &&& x2 = 0 then
      f_Bu_takeDestination_33 (upd r_bu 1 0) v1 x2
    else
      f_Bu_takeDestination_33 (upd r_bu 1 1) v1 x2
  else
    f_Bu_takeDestination_33 (upd r_bu 1 1) v1 x2
def f_Bu_takeJump (r_bu : Nat → Int32) (v1 : Int32) (v2 : Int32) (v3 : Int32) : Option ((Nat → Int32)) :=
  if v3 = (24 : Int32) then
    if (r_bu 6) = 0 then
      if v2 = (11 : Int32) then
        some (upd (upd r_bu 5 v1) 6 0)
      else
        some (upd (upd r_bu 5 v1) 6 1)
    else
      some (upd (upd r_bu 5 v1) 6 1)
  else
    some (r_bu)
def f_Bu_gather_107 (rec_43 : (Nat → Int32) → (Nat → Int32) → (Nat → Int32) → (Nat → Int32) → Int32 → Int32 → Int32 → Option ((Nat → Int32))) (r_co : Nat → Int32) (r_so : Nat → Int32) (r_de : Nat → Int32) (r_bu : Nat → Int32) (v2 : Int32) (v3 : Int32) (v4 : Int32) : Option ((Nat → Int32)) :=
  nm (v4 + 1) fun x1 =>
  rec_43 r_co r_so r_de r_bu v2 v3 x1
def f_Bu_gather_43 : Nat → (Nat → Int32) → (Nat → Int32) → (Nat → Int32) → (Nat → Int32) → Int32 → Int32 → Int32 → Option ((Nat → Int32))
  | 0, _, _, _, _, _, _, _ => none
  | n + 1, r_co, r_so, r_de, r_bu, v2, v3, v4 =>
    if v3 >>> (v4 &&& 31) = 0 then
      some (r_bu)
    else
      if (4 : Int32) ≤ v4 then
        some (r_bu)
      else
        if (v3 >>> (v4 &&& 31)) &&& (1 : Int32) = 0 then
          f_Bu_gather_107 (f_Bu_gather_43 n) r_co r_so r_de r_bu v2 v3 v4
        else
          (f_Co_source r_co r_so v2 v4).bind fun y4 =>
          (f_Bu_takeSource r_bu y4).bind fun y5 =>
          (f_Co_destination r_co r_de v2 v4).bind fun y6 =>
          (f_Bu_takeDestination y5 y6).bind fun y7 =>
          (f_Co_source r_co r_so v2 v4).bind fun y8 =>
          (f_Co_destination r_co r_de v2 v4).bind fun y9 =>
          (f_Bu_takeJump y7 v4 y8 y9).bind fun y10 =>
          f_Bu_gather_107 (f_Bu_gather_43 n) r_co r_so r_de y10 v2 v3 v4
def f_Bu_gather (r_co : Nat → Int32) (r_so : Nat → Int32) (r_de : Nat → Int32) (r_bu : Nat → Int32) (v2 : Int32) (v3 : Int32) : Option ((Nat → Int32)) :=
  f_Bu_gather_43 5000 r_co r_so r_de (upd (upd (upd (upd (upd (upd (upd (upd r_bu 0 0) 1 0) 2 0) 3 0) 4 0) 5 (-1)) 6 0) 7 0) v2 v3 0
def f_Bu_leastFault_64 (r_bu : Nat → Int32)  : Option (Int32) :=
  some (4)
def f_Bu_leastFault_36 (r_bu : Nat → Int32)  : Option (Int32) :=
  nm ((r_bu 0) &&& (255 : Int32) : Int32) fun x1 =>
  (f_In_bitCount (r_bu 2)).bind fun y2 =>
  if (2 : Int32) < y2 then
    f_Bu_leastFault_64 r_bu
  else
    (f_In_bitCount x1).bind fun y4 =>
    if y4 ≤ (1 : Int32) then
      some (0)
    else
      f_Bu_leastFault_64 r_bu
def f_Bu_leastFault (r_bu : Nat → Int32) (v1 : Int32) (v2 : Int32) : Option (Int32) :=
  if (r_bu 1) = 0 then
    if (r_bu 3) &&& (v1 ^^^ (-1 : Int32)) = 0 then
      if v2 = 0 then
        f_Bu_leastFault_36 r_bu
      else
        if (r_bu 5) = (-1 : Int32) then
          f_Bu_leastFault_36 r_bu
        else
          some (3)
    else
      some (2)
  else
    some (1)
abbrev rm_Bu_takeSource : Room := { frames := 0, cells := 0, slots := 0, locals := 0 }
set_option maxHeartbeats 4000000 in
set_option maxRecDepth 100000 in
theorem c_Bu_takeSource (l : Launch) (g : GT) (a_bu : Nat) (r_bu : Nat → Int32) (v1 : Int32) (y : (Nat → Int32)) (hy : some y = f_Bu_takeSource r_bu v1) : Ct l y_Bu_takeSource (.code y_Bu_takeSource b_Bu_takeSource 2 none) rm_Bu_takeSource g [.ref a_bu, .int v1] (w_bu g a_bu r_bu) (w_bu g a_bu y) none := by
  refine ct_in (C := "MoveDesk$Bundle") rfl (by decide) (Nat.le_of_ble_eq_true rfl) (fun p e s m below meth c A ls M hP hD hS hl => ?_)
  obtain ⟨hx, hb, hr, hml, hown, hts, hlocks, hA, hK, hG⟩ := id M
  have hl : lv_has ls 2 [(0, .ref a_bu), (1, .int v1)] := hl
  have hE := hy
  rw [f_Bu_takeSource] at hE
  refine lv_iload_n hx hb d_Bu_takeSource_0 rfl (lv_at hl 1 rfl) ?_
  refine lv_bipush (v := 8) hx hb d_Bu_takeSource_1 (by decide) ?_
  refine lv_icmp_ge (tgt := 21) hx hb d_Bu_takeSource_3 (by decide) (fun c1 => ?_) (fun c1 => ?_)
  · have hE := it_t hE c1
    refine lv_iload_n hx hb d_Bu_takeSource_21 rfl (lv_at hl 1 rfl) ?_
    refine lv_bipush (v := 11) hx hb d_Bu_takeSource_22 (by decide) ?_
    refine lv_icmp_ge (tgt := 42) hx hb d_Bu_takeSource_24 (by decide) (fun c2 => ?_) (fun c2 => ?_)
    · have hE := it_t hE c2
      have hE := Option.some.inj hE
      rw [hE]
      exact W.vret hx hb hr (fun t ht hW => ⟨⟨rfl, by rw [ht]; exact hP, va_K.moved hW.alike hK, hD⟩, hS.F ht⟩) hS.2.2 d_Bu_takeSource_42 hlocks
    · have hE := it_f hE c2
      refine lv_aload_n hx hb d_Bu_takeSource_27 rfl (lv_at hl 0 rfl) ?_
      refine lv_dup hx hb d_Bu_takeSource_28 rfl ?_
      refine va_get (D := g.1) (ci := 0) (v := .int (r_bu 3)) (C := "MoveDesk$Bundle") (T := F_Bu) (N := 8) hx hb hts i_Bu hown hK hP 0 rfl rfl 3 (by decide) (hts _ m_75) (fun _ h9 => h9) rfl d_Bu_takeSource_29 ?_
      refine lv_iconst (v := 1) hx hb d_Bu_takeSource_32 (by decide) ?_
      refine lv_iload_n hx hb d_Bu_takeSource_33 rfl (lv_at hl 1 rfl) ?_
      refine lv_bipush (v := 8) hx hb d_Bu_takeSource_34 (by decide) ?_
      refine lv_isub hx hb d_Bu_takeSource_36 ?_
      refine lv_ishl hx hb d_Bu_takeSource_37 ?_
      refine lv_ior hx hb d_Bu_takeSource_38 ?_
      refine lv_topi (fun x3 ex3 => ?_)
      have hE := nm_at hE ex3
      refine va_put (D := g.1) (ci := 0) (v := .int x3) (ty := .int) (C := "MoveDesk$Bundle") (T := F_Bu) (N := 8) hx hb hts i_Bu t_Bu t_Bu_ok n_Bu hown hK hP hD hS 0 rfl rfl 3 (by decide) (hts _ m_75) (fun _ h9 => h9) rfl (by decide +kernel) rfl rfl (Nat.le_of_ble_eq_true rfl) d_Bu_takeSource_39 (fun H locs hP hD hS => ?_)
      have hP : va_P g.1 classes (w_bu g a_bu (upd r_bu 3 x3)) H := hP
      have hD : va_D A (w_bu g a_bu (upd r_bu 3 x3)) := hD
      have hE := Option.some.inj hE
      rw [hE]
      exact W.vret hx hb hr (fun t ht hW => ⟨⟨rfl, by rw [ht]; exact hP, va_K.moved hW.alike hK, hD⟩, hS.F ht⟩) hS.2.2 d_Bu_takeSource_42 hlocks
  · have hE := it_f hE c1
    refine lv_aload_n hx hb d_Bu_takeSource_6 rfl (lv_at hl 0 rfl) ?_
    refine lv_dup hx hb d_Bu_takeSource_7 rfl ?_
    refine va_get (D := g.1) (ci := 0) (v := .int (r_bu 2)) (C := "MoveDesk$Bundle") (T := F_Bu) (N := 8) hx hb hts i_Bu hown hK hP 0 rfl rfl 2 (by decide) (hts _ m_74) (fun _ h9 => h9) rfl d_Bu_takeSource_8 ?_
    refine lv_iconst (v := 1) hx hb d_Bu_takeSource_11 (by decide) ?_
    refine lv_iload_n hx hb d_Bu_takeSource_12 rfl (lv_at hl 1 rfl) ?_
    refine lv_ishl hx hb d_Bu_takeSource_13 ?_
    refine lv_ior hx hb d_Bu_takeSource_14 ?_
    refine lv_topi (fun x4 ex4 => ?_)
    have hE := nm_at hE ex4
    refine va_put (D := g.1) (ci := 0) (v := .int x4) (ty := .int) (C := "MoveDesk$Bundle") (T := F_Bu) (N := 8) hx hb hts i_Bu t_Bu t_Bu_ok n_Bu hown hK hP hD hS 0 rfl rfl 2 (by decide) (hts _ m_74) (fun _ h9 => h9) rfl (by decide +kernel) rfl rfl (Nat.le_of_ble_eq_true rfl) d_Bu_takeSource_15 (fun H locs hP hD hS => ?_)
    have hP : va_P g.1 classes (w_bu g a_bu (upd r_bu 2 x4)) H := hP
    have hD : va_D A (w_bu g a_bu (upd r_bu 2 x4)) := hD
    refine lv_goto (tgt := 42) hx hb d_Bu_takeSource_18 (by decide) ?_
    have hE := Option.some.inj hE
    rw [hE]
    exact W.vret hx hb hr (fun t ht hW => ⟨⟨rfl, by rw [ht]; exact hP, va_K.moved hW.alike hK, hD⟩, hS.F ht⟩) hS.2.2 d_Bu_takeSource_42 hlocks
abbrev rm_Bu_takeDestination : Room := { frames := 0, cells := 0, slots := 0, locals := 0 }
set_option maxHeartbeats 4000000 in
set_option maxRecDepth 100000 in
theorem wl_Bu_takeDestination_77 {p : Program} {l : Launch} {e : Env} {s : State} {m : MethodId} {args : Array Value} {below : List Frame} {meth : Method} {c : Code} {A : Nat → Prop} {g : GT} {a_bu : Nat} {y : (Nat → Int32)} (M : MX p s m args meth c b_Bu_takeDestination 3 none "MoveDesk$Bundle" g A) : ∀ (r_bu : Nat → Int32)  (H : Heap) (locs : List Loc) (ls : Array Slot), some y = f_Bu_takeDestination_77 r_bu → va_P g.1 classes (w_bu g a_bu r_bu) H → va_D A (w_bu g a_bu r_bu) → va_S A s.heap H locs → lv_has ls 3 [(0, .ref a_bu)] → W p l e rm_Bu_takeDestination s m args below meth c H locs 0 0 (MQ below (QW g none (w_bu g a_bu y) A) args s 0 0 A) (F0 m 77 ls []) := by
  obtain ⟨hx, hb, hr, hml, hown, hts, hlocks, hA, hK, hG⟩ := id M
  intro r_bu H locs ls hE hP hD hS hl
  rw [f_Bu_takeDestination_77] at hE
  refine lv_aload_n hx hb d_Bu_takeDestination_77 rfl (lv_at hl 0 rfl) ?_
  refine lv_dup hx hb d_Bu_takeDestination_78 rfl ?_
  refine va_get (D := g.1) (ci := 0) (v := .int (r_bu 4)) (C := "MoveDesk$Bundle") (T := F_Bu) (N := 8) hx hb hts i_Bu hown hK hP 0 rfl rfl 4 (by decide) (hts _ m_77) (fun _ h9 => h9) rfl d_Bu_takeDestination_79 ?_
  refine lv_iconst (v := 1) hx hb d_Bu_takeDestination_82 (by decide) ?_
  refine lv_ior hx hb d_Bu_takeDestination_83 ?_
  refine lv_topi (fun x1 ex1 => ?_)
  have hE := nm_at hE ex1
  refine va_put (D := g.1) (ci := 0) (v := .int x1) (ty := .int) (C := "MoveDesk$Bundle") (T := F_Bu) (N := 8) hx hb hts i_Bu t_Bu t_Bu_ok n_Bu hown hK hP hD hS 0 rfl rfl 4 (by decide) (hts _ m_77) (fun _ h9 => h9) rfl (by decide +kernel) rfl rfl (Nat.le_of_ble_eq_true rfl) d_Bu_takeDestination_84 (fun H locs hP hD hS => ?_)
  have hP : va_P g.1 classes (w_bu g a_bu (upd r_bu 4 x1)) H := hP
  have hD : va_D A (w_bu g a_bu (upd r_bu 4 x1)) := hD
  refine lv_goto (tgt := 125) hx hb d_Bu_takeDestination_87 (by decide) ?_
  have hE := Option.some.inj hE
  rw [hE]
  exact W.vret hx hb hr (fun t ht hW => ⟨⟨rfl, by rw [ht]; exact hP, va_K.moved hW.alike hK, hD⟩, hS.F ht⟩) hS.2.2 d_Bu_takeDestination_125 hlocks
set_option maxHeartbeats 4000000 in
set_option maxRecDepth 100000 in
theorem wl_Bu_takeDestination_65 {p : Program} {l : Launch} {e : Env} {s : State} {m : MethodId} {args : Array Value} {below : List Frame} {meth : Method} {c : Code} {A : Nat → Prop} {g : GT} {a_bu : Nat} {y : (Nat → Int32)} (M : MX p s m args meth c b_Bu_takeDestination 3 none "MoveDesk$Bundle" g A) : ∀ (r_bu : Nat → Int32) (v1 : Int32) (H : Heap) (locs : List Loc) (ls : Array Slot), some y = f_Bu_takeDestination_65 r_bu v1 → va_P g.1 classes (w_bu g a_bu r_bu) H → va_D A (w_bu g a_bu r_bu) → va_S A s.heap H locs → lv_has ls 3 [(0, .ref a_bu), (1, .int v1)] → W p l e rm_Bu_takeDestination s m args below meth c H locs 0 0 (MQ below (QW g none (w_bu g a_bu y) A) args s 0 0 A) (F0 m 65 ls []) := by
  obtain ⟨hx, hb, hr, hml, hown, hts, hlocks, hA, hK, hG⟩ := id M
  intro r_bu v1 H locs ls hE hP hD hS hl
  rw [f_Bu_takeDestination_65] at hE
  refine lv_iload_n hx hb d_Bu_takeDestination_65 rfl (lv_at hl 1 rfl) ?_
  refine lv_bipush (v := 11) hx hb d_Bu_takeDestination_66 (by decide) ?_
  refine lv_icmp_eq (tgt := 77) hx hb d_Bu_takeDestination_68 (by decide) (fun c1 => ?_) (fun c1 => ?_)
  · have hE := it_t hE c1
    exact wl_Bu_takeDestination_77 M _ _ _ _ hE hP hD hS (lv_sub hl [0] rfl)
  · have hE := it_f hE c1
    refine lv_iload_n hx hb d_Bu_takeDestination_71 rfl (lv_at hl 1 rfl) ?_
    refine lv_bipush (v := 12) hx hb d_Bu_takeDestination_72 (by decide) ?_
    refine lv_icmp_ne (tgt := 90) hx hb d_Bu_takeDestination_74 (by decide) (fun c2 => ?_) (fun c2 => ?_)
    · have hE := it_f hE c2
      refine lv_iload_n hx hb d_Bu_takeDestination_90 rfl (lv_at hl 1 rfl) ?_
      refine lv_bipush (v := 13) hx hb d_Bu_takeDestination_91 (by decide) ?_
      refine lv_icmp_ne (tgt := 109) hx hb d_Bu_takeDestination_93 (by decide) (fun c3 => ?_) (fun c3 => ?_)
      · have hE := it_f hE c3
        refine lv_iload_n hx hb d_Bu_takeDestination_109 rfl (lv_at hl 1 rfl) ?_
        refine lv_bipush (v := 14) hx hb d_Bu_takeDestination_110 (by decide) ?_
        refine lv_icmp_ne (tgt := 125) hx hb d_Bu_takeDestination_112 (by decide) (fun c4 => ?_) (fun c4 => ?_)
        · have hE := it_f hE c4
          have hE := Option.some.inj hE
          rw [hE]
          exact W.vret hx hb hr (fun t ht hW => ⟨⟨rfl, by rw [ht]; exact hP, va_K.moved hW.alike hK, hD⟩, hS.F ht⟩) hS.2.2 d_Bu_takeDestination_125 hlocks
        · have hE := it_t hE c4
          refine lv_aload_n hx hb d_Bu_takeDestination_115 rfl (lv_at hl 0 rfl) ?_
          refine lv_dup hx hb d_Bu_takeDestination_116 rfl ?_
          refine va_get (D := g.1) (ci := 0) (v := .int (r_bu 4)) (C := "MoveDesk$Bundle") (T := F_Bu) (N := 8) hx hb hts i_Bu hown hK hP 0 rfl rfl 4 (by decide) (hts _ m_77) (fun _ h9 => h9) rfl d_Bu_takeDestination_117 ?_
          refine lv_iconst (v := 4) hx hb d_Bu_takeDestination_120 (by decide) ?_
          refine lv_ior hx hb d_Bu_takeDestination_121 ?_
          refine lv_topi (fun x5 ex5 => ?_)
          have hE := nm_at hE ex5
          refine va_put (D := g.1) (ci := 0) (v := .int x5) (ty := .int) (C := "MoveDesk$Bundle") (T := F_Bu) (N := 8) hx hb hts i_Bu t_Bu t_Bu_ok n_Bu hown hK hP hD hS 0 rfl rfl 4 (by decide) (hts _ m_77) (fun _ h9 => h9) rfl (by decide +kernel) rfl rfl (Nat.le_of_ble_eq_true rfl) d_Bu_takeDestination_122 (fun H locs hP hD hS => ?_)
          have hP : va_P g.1 classes (w_bu g a_bu (upd r_bu 4 x5)) H := hP
          have hD : va_D A (w_bu g a_bu (upd r_bu 4 x5)) := hD
          have hE := Option.some.inj hE
          rw [hE]
          exact W.vret hx hb hr (fun t ht hW => ⟨⟨rfl, by rw [ht]; exact hP, va_K.moved hW.alike hK, hD⟩, hS.F ht⟩) hS.2.2 d_Bu_takeDestination_125 hlocks
      · have hE := it_t hE c3
        refine lv_aload_n hx hb d_Bu_takeDestination_96 rfl (lv_at hl 0 rfl) ?_
        refine lv_dup hx hb d_Bu_takeDestination_97 rfl ?_
        refine va_get (D := g.1) (ci := 0) (v := .int (r_bu 4)) (C := "MoveDesk$Bundle") (T := F_Bu) (N := 8) hx hb hts i_Bu hown hK hP 0 rfl rfl 4 (by decide) (hts _ m_77) (fun _ h9 => h9) rfl d_Bu_takeDestination_98 ?_
        refine lv_iconst (v := 2) hx hb d_Bu_takeDestination_101 (by decide) ?_
        refine lv_ior hx hb d_Bu_takeDestination_102 ?_
        refine lv_topi (fun x6 ex6 => ?_)
        have hE := nm_at hE ex6
        refine va_put (D := g.1) (ci := 0) (v := .int x6) (ty := .int) (C := "MoveDesk$Bundle") (T := F_Bu) (N := 8) hx hb hts i_Bu t_Bu t_Bu_ok n_Bu hown hK hP hD hS 0 rfl rfl 4 (by decide) (hts _ m_77) (fun _ h9 => h9) rfl (by decide +kernel) rfl rfl (Nat.le_of_ble_eq_true rfl) d_Bu_takeDestination_103 (fun H locs hP hD hS => ?_)
        have hP : va_P g.1 classes (w_bu g a_bu (upd r_bu 4 x6)) H := hP
        have hD : va_D A (w_bu g a_bu (upd r_bu 4 x6)) := hD
        refine lv_goto (tgt := 125) hx hb d_Bu_takeDestination_106 (by decide) ?_
        have hE := Option.some.inj hE
        rw [hE]
        exact W.vret hx hb hr (fun t ht hW => ⟨⟨rfl, by rw [ht]; exact hP, va_K.moved hW.alike hK, hD⟩, hS.F ht⟩) hS.2.2 d_Bu_takeDestination_125 hlocks
    · have hE := it_t hE c2
      exact wl_Bu_takeDestination_77 M _ _ _ _ hE hP hD hS (lv_sub hl [0] rfl)
set_option maxHeartbeats 4000000 in
set_option maxRecDepth 100000 in
theorem wl_Bu_takeDestination_33 {p : Program} {l : Launch} {e : Env} {s : State} {m : MethodId} {args : Array Value} {below : List Frame} {meth : Method} {c : Code} {A : Nat → Prop} {g : GT} {a_bu : Nat} {y : (Nat → Int32)} (M : MX p s m args meth c b_Bu_takeDestination 3 none "MoveDesk$Bundle" g A) : ∀ (r_bu : Nat → Int32) (v1 : Int32) (v2 : Int32) (H : Heap) (locs : List Loc) (ls : Array Slot), some y = f_Bu_takeDestination_33 r_bu v1 v2 → va_P g.1 classes (w_bu g a_bu r_bu) H → va_D A (w_bu g a_bu r_bu) → va_S A s.heap H locs → lv_has ls 3 [(0, .ref a_bu), (1, .int v1), (2, .int v2)] → W p l e rm_Bu_takeDestination s m args below meth c H locs 0 0 (MQ below (QW g none (w_bu g a_bu y) A) args s 0 0 A) (F0 m 33 ls []) := by
  obtain ⟨hx, hb, hr, hml, hown, hts, hlocks, hA, hK, hG⟩ := id M
  intro r_bu v1 v2 H locs ls hE hP hD hS hl
  rw [f_Bu_takeDestination_33] at hE
  refine lv_aload_n hx hb d_Bu_takeDestination_33 rfl (lv_at hl 0 rfl) ?_
  refine lv_dup hx hb d_Bu_takeDestination_34 rfl ?_
  refine va_get (D := g.1) (ci := 0) (v := .int (r_bu 0)) (C := "MoveDesk$Bundle") (T := F_Bu) (N := 8) hx hb hts i_Bu hown hK hP 0 rfl rfl 0 (by decide) (hts _ m_72) (fun _ h9 => h9) rfl d_Bu_takeDestination_35 ?_
  refine lv_iload_n hx hb d_Bu_takeDestination_38 rfl (lv_at hl 2 rfl) ?_
  refine lv_ior hx hb d_Bu_takeDestination_39 ?_
  refine lv_topi (fun x1 ex1 => ?_)
  have hE := nm_at hE ex1
  refine va_put (D := g.1) (ci := 0) (v := .int x1) (ty := .int) (C := "MoveDesk$Bundle") (T := F_Bu) (N := 8) hx hb hts i_Bu t_Bu t_Bu_ok n_Bu hown hK hP hD hS 0 rfl rfl 0 (by decide) (hts _ m_72) (fun _ h9 => h9) rfl (by decide +kernel) rfl rfl (Nat.le_of_ble_eq_true rfl) d_Bu_takeDestination_40 (fun H locs hP hD hS => ?_)
  have hP : va_P g.1 classes (w_bu g a_bu (upd r_bu 0 x1)) H := hP
  have hD : va_D A (w_bu g a_bu (upd r_bu 0 x1)) := hD
  refine lv_aload_n hx hb d_Bu_takeDestination_43 rfl (lv_at hl 0 rfl) ?_
  refine lv_aload_n hx hb d_Bu_takeDestination_44 rfl (lv_at hl 0 rfl) ?_
  refine va_get (D := g.1) (ci := 0) (v := .int (r_bu 7)) (C := "MoveDesk$Bundle") (T := F_Bu) (N := 8) hx hb hts i_Bu hown hK hP 0 rfl rfl 7 (by decide) (hts _ m_83) (fun _ h9 => h9) rfl d_Bu_takeDestination_45 ?_
  refine lv_if_ne (tgt := 57) hx hb d_Bu_takeDestination_48 (by decide) (fun c2 => ?_) (fun c2 => ?_)
  · have hE := it_f hE c2
    refine lv_iconst (v := 1) hx hb d_Bu_takeDestination_57 (by decide) ?_
    refine lv_goto (tgt := 62) hx hb d_Bu_takeDestination_58 (by decide) ?_
    refine va_put (D := g.1) (ci := 0) (v := .int 1) (ty := .boolean) (C := "MoveDesk$Bundle") (T := F_Bu) (N := 8) hx hb hts i_Bu t_Bu t_Bu_ok n_Bu hown hK hP hD hS 0 rfl rfl 7 (by decide) (hts _ m_83) (fun _ h9 => h9) rfl (by decide +kernel) rfl rfl (Nat.le_of_ble_eq_true rfl) d_Bu_takeDestination_62 (fun H locs hP hD hS => ?_)
    have hP : va_P g.1 classes (w_bu g a_bu (upd (upd r_bu 0 x1) 7 1)) H := hP
    have hD : va_D A (w_bu g a_bu (upd (upd r_bu 0 x1) 7 1)) := hD
    exact wl_Bu_takeDestination_65 M _ _ _ _ _ hE hP hD hS (lv_sub hl [0, 1] rfl)
  · have hE := it_t hE c2
    refine lv_iload_n hx hb d_Bu_takeDestination_51 rfl (lv_at hl 1 rfl) ?_
    refine lv_bipush (v := 25) hx hb d_Bu_takeDestination_52 (by decide) ?_
    refine lv_icmp_ne (tgt := 61) hx hb d_Bu_takeDestination_54 (by decide) (fun c3 => ?_) (fun c3 => ?_)
    · have hE := it_f hE c3
      refine lv_iconst (v := 0) hx hb d_Bu_takeDestination_61 (by decide) ?_
      refine va_put (D := g.1) (ci := 0) (v := .int 0) (ty := .boolean) (C := "MoveDesk$Bundle") (T := F_Bu) (N := 8) hx hb hts i_Bu t_Bu t_Bu_ok n_Bu hown hK hP hD hS 0 rfl rfl 7 (by decide) (hts _ m_83) (fun _ h9 => h9) rfl (by decide +kernel) rfl rfl (Nat.le_of_ble_eq_true rfl) d_Bu_takeDestination_62 (fun H locs hP hD hS => ?_)
      have hP : va_P g.1 classes (w_bu g a_bu (upd (upd r_bu 0 x1) 7 0)) H := hP
      have hD : va_D A (w_bu g a_bu (upd (upd r_bu 0 x1) 7 0)) := hD
      exact wl_Bu_takeDestination_65 M _ _ _ _ _ hE hP hD hS (lv_sub hl [0, 1] rfl)
    · have hE := it_t hE c3
      refine lv_iconst (v := 1) hx hb d_Bu_takeDestination_57 (by decide) ?_
      refine lv_goto (tgt := 62) hx hb d_Bu_takeDestination_58 (by decide) ?_
      refine va_put (D := g.1) (ci := 0) (v := .int 1) (ty := .boolean) (C := "MoveDesk$Bundle") (T := F_Bu) (N := 8) hx hb hts i_Bu t_Bu t_Bu_ok n_Bu hown hK hP hD hS 0 rfl rfl 7 (by decide) (hts _ m_83) (fun _ h9 => h9) rfl (by decide +kernel) rfl rfl (Nat.le_of_ble_eq_true rfl) d_Bu_takeDestination_62 (fun H locs hP hD hS => ?_)
      have hP : va_P g.1 classes (w_bu g a_bu (upd (upd r_bu 0 x1) 7 1)) H := hP
      have hD : va_D A (w_bu g a_bu (upd (upd r_bu 0 x1) 7 1)) := hD
      exact wl_Bu_takeDestination_65 M _ _ _ _ _ hE hP hD hS (lv_sub hl [0, 1] rfl)
set_option maxHeartbeats 4000000 in
set_option maxRecDepth 100000 in
theorem c_Bu_takeDestination (l : Launch) (g : GT) (a_bu : Nat) (r_bu : Nat → Int32) (v1 : Int32) (y : (Nat → Int32)) (hy : some y = f_Bu_takeDestination r_bu v1) : Ct l y_Bu_takeDestination (.code y_Bu_takeDestination b_Bu_takeDestination 3 none) rm_Bu_takeDestination g [.ref a_bu, .int v1] (w_bu g a_bu r_bu) (w_bu g a_bu y) none := by
  refine ct_in (C := "MoveDesk$Bundle") rfl (by decide) (Nat.le_of_ble_eq_true rfl) (fun p e s m below meth c A ls M hP hD hS hl => ?_)
  obtain ⟨hx, hb, hr, hml, hown, hts, hlocks, hA, hK, hG⟩ := id M
  have hl : lv_has ls 3 [(0, .ref a_bu), (1, .int v1)] := hl
  have hE := hy
  rw [f_Bu_takeDestination] at hE
  refine lv_iconst (v := 1) hx hb d_Bu_takeDestination_0 (by decide) ?_
  refine va_gets hx hb hG.2.1.1 hS hown (hts _ m_383) (fun _ h9 => h9) d_Bu_takeDestination_1 ?_
  refine lv_iload_n hx hb d_Bu_takeDestination_4 rfl (lv_at hl 1 rfl) ?_
  have ⟨h1, hE⟩ := ck_at hE
  refine va_ti hx hb hG.2.1.2 hS h1 rfl d_Bu_takeDestination_5 ?_
  refine lv_ishl hx hb d_Bu_takeDestination_6 ?_
  refine lv_topi (fun x2 ex2 => ?_)
  have hE := nm_at hE ex2
  refine lv_istore_n (lv' := [(2, .int x2), (0, .ref a_bu), (1, .int v1)]) hx hb d_Bu_takeDestination_7 rfl hl (by decide) rfl (fun ls hl => ?_)
  refine lv_aload_n hx hb d_Bu_takeDestination_8 rfl (lv_at hl 1 rfl) ?_
  refine lv_aload_n hx hb d_Bu_takeDestination_9 rfl (lv_at hl 1 rfl) ?_
  refine va_get (D := g.1) (ci := 0) (v := .int (r_bu 1)) (C := "MoveDesk$Bundle") (T := F_Bu) (N := 8) hx hb hts i_Bu hown hK hP 0 rfl rfl 1 (by decide) (hts _ m_73) (fun _ h9 => h9) rfl d_Bu_takeDestination_10 ?_
  refine lv_if_ne (tgt := 25) hx hb d_Bu_takeDestination_13 (by decide) (fun c3 => ?_) (fun c3 => ?_)
  · have hE := it_f hE c3
    refine lv_iconst (v := 1) hx hb d_Bu_takeDestination_25 (by decide) ?_
    refine lv_goto (tgt := 30) hx hb d_Bu_takeDestination_26 (by decide) ?_
    refine va_put (D := g.1) (ci := 0) (v := .int 1) (ty := .boolean) (C := "MoveDesk$Bundle") (T := F_Bu) (N := 8) hx hb hts i_Bu t_Bu t_Bu_ok n_Bu hown hK hP hD hS 0 rfl rfl 1 (by decide) (hts _ m_73) (fun _ h9 => h9) rfl (by decide +kernel) rfl rfl (Nat.le_of_ble_eq_true rfl) d_Bu_takeDestination_30 (fun H locs hP hD hS => ?_)
    have hP : va_P g.1 classes (w_bu g a_bu (upd r_bu 1 1)) H := hP
    have hD : va_D A (w_bu g a_bu (upd r_bu 1 1)) := hD
    exact wl_Bu_takeDestination_33 M _ _ _ _ _ _ hE hP hD hS (lv_sub hl [1, 2, 0] rfl)
  · have hE := it_t hE c3
    refine lv_aload_n hx hb d_Bu_takeDestination_16 rfl (lv_at hl 1 rfl) ?_
    refine va_get (D := g.1) (ci := 0) (v := .int (r_bu 0)) (C := "MoveDesk$Bundle") (T := F_Bu) (N := 8) hx hb hts i_Bu hown hK hP 0 rfl rfl 0 (by decide) (hts _ m_72) (fun _ h9 => h9) rfl d_Bu_takeDestination_17 ?_
    refine lv_iload_n hx hb d_Bu_takeDestination_20 rfl (lv_at hl 0 rfl) ?_
    refine lv_iand hx hb d_Bu_takeDestination_21 ?_
    refine lv_if_eq (tgt := 29) hx hb d_Bu_takeDestination_22 (by decide) (fun c4 => ?_) (fun c4 => ?_)
    · have hE := it_t hE c4
      refine lv_iconst (v := 0) hx hb d_Bu_takeDestination_29 (by decide) ?_
      refine va_put (D := g.1) (ci := 0) (v := .int 0) (ty := .boolean) (C := "MoveDesk$Bundle") (T := F_Bu) (N := 8) hx hb hts i_Bu t_Bu t_Bu_ok n_Bu hown hK hP hD hS 0 rfl rfl 1 (by decide) (hts _ m_73) (fun _ h9 => h9) rfl (by decide +kernel) rfl rfl (Nat.le_of_ble_eq_true rfl) d_Bu_takeDestination_30 (fun H locs hP hD hS => ?_)
      have hP : va_P g.1 classes (w_bu g a_bu (upd r_bu 1 0)) H := hP
      have hD : va_D A (w_bu g a_bu (upd r_bu 1 0)) := hD
      exact wl_Bu_takeDestination_33 M _ _ _ _ _ _ hE hP hD hS (lv_sub hl [1, 2, 0] rfl)
    · have hE := it_f hE c4
      refine lv_iconst (v := 1) hx hb d_Bu_takeDestination_25 (by decide) ?_
      refine lv_goto (tgt := 30) hx hb d_Bu_takeDestination_26 (by decide) ?_
      refine va_put (D := g.1) (ci := 0) (v := .int 1) (ty := .boolean) (C := "MoveDesk$Bundle") (T := F_Bu) (N := 8) hx hb hts i_Bu t_Bu t_Bu_ok n_Bu hown hK hP hD hS 0 rfl rfl 1 (by decide) (hts _ m_73) (fun _ h9 => h9) rfl (by decide +kernel) rfl rfl (Nat.le_of_ble_eq_true rfl) d_Bu_takeDestination_30 (fun H locs hP hD hS => ?_)
      have hP : va_P g.1 classes (w_bu g a_bu (upd r_bu 1 1)) H := hP
      have hD : va_D A (w_bu g a_bu (upd r_bu 1 1)) := hD
      exact wl_Bu_takeDestination_33 M _ _ _ _ _ _ hE hP hD hS (lv_sub hl [1, 2, 0] rfl)
abbrev rm_Bu_takeJump : Room := { frames := 0, cells := 0, slots := 0, locals := 0 }
set_option maxHeartbeats 4000000 in
set_option maxRecDepth 100000 in
theorem c_Bu_takeJump (l : Launch) (g : GT) (a_bu : Nat) (r_bu : Nat → Int32) (v1 : Int32) (v2 : Int32) (v3 : Int32) (y : (Nat → Int32)) (hy : some y = f_Bu_takeJump r_bu v1 v2 v3) : Ct l y_Bu_takeJump (.code y_Bu_takeJump b_Bu_takeJump 4 none) rm_Bu_takeJump g [.ref a_bu, .int v1, .int v2, .int v3] (w_bu g a_bu r_bu) (w_bu g a_bu y) none := by
  refine ct_in (C := "MoveDesk$Bundle") rfl (by decide) (Nat.le_of_ble_eq_true rfl) (fun p e s m below meth c A ls M hP hD hS hl => ?_)
  obtain ⟨hx, hb, hr, hml, hown, hts, hlocks, hA, hK, hG⟩ := id M
  have hl : lv_has ls 4 [(0, .ref a_bu), (1, .int v1), (2, .int v2), (3, .int v3)] := hl
  have hE := hy
  rw [f_Bu_takeJump] at hE
  refine lv_iload_n hx hb d_Bu_takeJump_0 rfl (lv_at hl 3 rfl) ?_
  refine lv_bipush (v := 24) hx hb d_Bu_takeJump_1 (by decide) ?_
  refine lv_icmp_ne (tgt := 33) hx hb d_Bu_takeJump_3 (by decide) (fun c1 => ?_) (fun c1 => ?_)
  · have hE := it_f hE c1
    have hE := Option.some.inj hE
    rw [hE]
    exact W.vret hx hb hr (fun t ht hW => ⟨⟨rfl, by rw [ht]; exact hP, va_K.moved hW.alike hK, hD⟩, hS.F ht⟩) hS.2.2 d_Bu_takeJump_33 hlocks
  · have hE := it_t hE c1
    refine lv_aload_n hx hb d_Bu_takeJump_6 rfl (lv_at hl 0 rfl) ?_
    refine lv_iload_n hx hb d_Bu_takeJump_7 rfl (lv_at hl 1 rfl) ?_
    refine va_put (D := g.1) (ci := 0) (v := .int v1) (ty := .int) (C := "MoveDesk$Bundle") (T := F_Bu) (N := 8) hx hb hts i_Bu t_Bu t_Bu_ok n_Bu hown hK hP hD hS 0 rfl rfl 5 (by decide) (hts _ m_79) (fun _ h9 => h9) rfl (by decide +kernel) rfl rfl (Nat.le_of_ble_eq_true rfl) d_Bu_takeJump_8 (fun H locs hP hD hS => ?_)
    have hP : va_P g.1 classes (w_bu g a_bu (upd r_bu 5 v1)) H := hP
    have hD : va_D A (w_bu g a_bu (upd r_bu 5 v1)) := hD
    refine lv_aload_n hx hb d_Bu_takeJump_11 rfl (lv_at hl 0 rfl) ?_
    refine lv_aload_n hx hb d_Bu_takeJump_12 rfl (lv_at hl 0 rfl) ?_
    refine va_get (D := g.1) (ci := 0) (v := .int (r_bu 6)) (C := "MoveDesk$Bundle") (T := F_Bu) (N := 8) hx hb hts i_Bu hown hK hP 0 rfl rfl 6 (by decide) (hts _ m_81) (fun _ h9 => h9) rfl d_Bu_takeJump_13 ?_
    refine lv_if_ne (tgt := 25) hx hb d_Bu_takeJump_16 (by decide) (fun c2 => ?_) (fun c2 => ?_)
    · have hE := it_f hE c2
      refine lv_iconst (v := 1) hx hb d_Bu_takeJump_25 (by decide) ?_
      refine lv_goto (tgt := 30) hx hb d_Bu_takeJump_26 (by decide) ?_
      refine va_put (D := g.1) (ci := 0) (v := .int 1) (ty := .boolean) (C := "MoveDesk$Bundle") (T := F_Bu) (N := 8) hx hb hts i_Bu t_Bu t_Bu_ok n_Bu hown hK hP hD hS 0 rfl rfl 6 (by decide) (hts _ m_81) (fun _ h9 => h9) rfl (by decide +kernel) rfl rfl (Nat.le_of_ble_eq_true rfl) d_Bu_takeJump_30 (fun H locs hP hD hS => ?_)
      have hP : va_P g.1 classes (w_bu g a_bu (upd (upd r_bu 5 v1) 6 1)) H := hP
      have hD : va_D A (w_bu g a_bu (upd (upd r_bu 5 v1) 6 1)) := hD
      have hE := Option.some.inj hE
      rw [hE]
      exact W.vret hx hb hr (fun t ht hW => ⟨⟨rfl, by rw [ht]; exact hP, va_K.moved hW.alike hK, hD⟩, hS.F ht⟩) hS.2.2 d_Bu_takeJump_33 hlocks
    · have hE := it_t hE c2
      refine lv_iload_n hx hb d_Bu_takeJump_19 rfl (lv_at hl 2 rfl) ?_
      refine lv_bipush (v := 11) hx hb d_Bu_takeJump_20 (by decide) ?_
      refine lv_icmp_eq (tgt := 29) hx hb d_Bu_takeJump_22 (by decide) (fun c3 => ?_) (fun c3 => ?_)
      · have hE := it_t hE c3
        refine lv_iconst (v := 0) hx hb d_Bu_takeJump_29 (by decide) ?_
        refine va_put (D := g.1) (ci := 0) (v := .int 0) (ty := .boolean) (C := "MoveDesk$Bundle") (T := F_Bu) (N := 8) hx hb hts i_Bu t_Bu t_Bu_ok n_Bu hown hK hP hD hS 0 rfl rfl 6 (by decide) (hts _ m_81) (fun _ h9 => h9) rfl (by decide +kernel) rfl rfl (Nat.le_of_ble_eq_true rfl) d_Bu_takeJump_30 (fun H locs hP hD hS => ?_)
        have hP : va_P g.1 classes (w_bu g a_bu (upd (upd r_bu 5 v1) 6 0)) H := hP
        have hD : va_D A (w_bu g a_bu (upd (upd r_bu 5 v1) 6 0)) := hD
        have hE := Option.some.inj hE
        rw [hE]
        exact W.vret hx hb hr (fun t ht hW => ⟨⟨rfl, by rw [ht]; exact hP, va_K.moved hW.alike hK, hD⟩, hS.F ht⟩) hS.2.2 d_Bu_takeJump_33 hlocks
      · have hE := it_f hE c3
        refine lv_iconst (v := 1) hx hb d_Bu_takeJump_25 (by decide) ?_
        refine lv_goto (tgt := 30) hx hb d_Bu_takeJump_26 (by decide) ?_
        refine va_put (D := g.1) (ci := 0) (v := .int 1) (ty := .boolean) (C := "MoveDesk$Bundle") (T := F_Bu) (N := 8) hx hb hts i_Bu t_Bu t_Bu_ok n_Bu hown hK hP hD hS 0 rfl rfl 6 (by decide) (hts _ m_81) (fun _ h9 => h9) rfl (by decide +kernel) rfl rfl (Nat.le_of_ble_eq_true rfl) d_Bu_takeJump_30 (fun H locs hP hD hS => ?_)
        have hP : va_P g.1 classes (w_bu g a_bu (upd (upd r_bu 5 v1) 6 1)) H := hP
        have hD : va_D A (w_bu g a_bu (upd (upd r_bu 5 v1) 6 1)) := hD
        have hE := Option.some.inj hE
        rw [hE]
        exact W.vret hx hb hr (fun t ht hW => ⟨⟨rfl, by rw [ht]; exact hP, va_K.moved hW.alike hK, hD⟩, hS.F ht⟩) hS.2.2 d_Bu_takeJump_33 hlocks
abbrev rm_Bu_gather : Room := { frames := 1, cells := 0, slots := 0, locals := 23 }
set_option maxHeartbeats 4000000 in
set_option maxRecDepth 100000 in
theorem wl_Bu_gather_107 {p : Program} {l : Launch} {e : Env} {s : State} {m : MethodId} {args : Array Value} {below : List Frame} {meth : Method} {c : Code} {A : Nat → Prop} {g : GT} {a_co : Nat} {a_ta : Nat} {a_gu : Nat} {a_so : Nat} {a_cn : Nat} {a_de : Nat} {a_bu : Nat} {y : (Nat → Int32)} (M : MX p s m args meth c b_Bu_gather 5 none "MoveDesk$Bundle" g A) (rec_43 : (Nat → Int32) → (Nat → Int32) → (Nat → Int32) → (Nat → Int32) → Int32 → Int32 → Int32 → Option ((Nat → Int32))) (hrec_43 : ∀ (r_co : Nat → Int32) (r_so : Nat → Int32) (r_de : Nat → Int32) (r_bu : Nat → Int32) (v2 : Int32) (v3 : Int32) (v4 : Int32) (H : Heap) (locs : List Loc) (ls : Array Slot), some y = rec_43 r_co r_so r_de r_bu v2 v3 v4 → va_P g.1 classes (w_co_so_de_bu g a_co a_ta a_gu a_so a_cn a_de a_bu r_co r_so r_de r_bu) H → va_D A (w_co_so_de_bu g a_co a_ta a_gu a_so a_cn a_de a_bu r_co r_so r_de r_bu) → va_S A s.heap H locs → lv_has ls 5 [(0, .ref a_bu), (1, .ref a_co), (2, .int v2), (3, .int v3), (4, .int v4)] → W p l e rm_Bu_gather s m args below meth c H locs 0 0 (MQ below (QW g none (w_co_so_de_bu g a_co a_ta a_gu a_so a_cn a_de a_bu r_co r_so r_de y) A) args s 0 0 A) (F0 m 43 ls [])) : ∀ (r_co : Nat → Int32) (r_so : Nat → Int32) (r_de : Nat → Int32) (r_bu : Nat → Int32) (v2 : Int32) (v3 : Int32) (v4 : Int32) (H : Heap) (locs : List Loc) (ls : Array Slot), some y = (f_Bu_gather_107 rec_43) r_co r_so r_de r_bu v2 v3 v4 → va_P g.1 classes (w_co_so_de_bu g a_co a_ta a_gu a_so a_cn a_de a_bu r_co r_so r_de r_bu) H → va_D A (w_co_so_de_bu g a_co a_ta a_gu a_so a_cn a_de a_bu r_co r_so r_de r_bu) → va_S A s.heap H locs → lv_has ls 5 [(0, .ref a_bu), (1, .ref a_co), (2, .int v2), (3, .int v3), (4, .int v4)] → W p l e rm_Bu_gather s m args below meth c H locs 0 0 (MQ below (QW g none (w_co_so_de_bu g a_co a_ta a_gu a_so a_cn a_de a_bu r_co r_so r_de y) A) args s 0 0 A) (F0 m 107 ls []) := by
  obtain ⟨hx, hb, hr, hml, hown, hts, hlocks, hA, hK, hG⟩ := id M
  intro r_co r_so r_de r_bu v2 v3 v4 H locs ls hE hP hD hS hl
  rw [f_Bu_gather_107] at hE
  obtain ⟨x1, ex1⟩ : ∃ z : Int32, z = v4 + 1 := ⟨_, rfl⟩
  have hE := nm_at hE ex1
  refine lv_iinc (v := x1) (lv' := [(4, .int x1), (0, .ref a_bu), (1, .ref a_co), (2, .int v2), (3, .int v3)]) hx hb d_Bu_gather_107 hl (k := 4) rfl (by rw [ex1]; rfl) (by decide) rfl (fun ls hl => ?_)
  refine lv_goto (tgt := 43) hx hb d_Bu_gather_110 (by decide) ?_
  exact hrec_43 _ _ _ _ _ _ _ _ _ _ hE hP hD hS (lv_sub hl [1, 2, 3, 4, 0] rfl)
set_option maxHeartbeats 4000000 in
set_option maxRecDepth 100000 in
theorem wl_Bu_gather_43 {p : Program} {l : Launch} {e : Env} {s : State} {m : MethodId} {args : Array Value} {below : List Frame} {meth : Method} {c : Code} {A : Nat → Prop} {g : GT} {a_co : Nat} {a_ta : Nat} {a_gu : Nat} {a_so : Nat} {a_cn : Nat} {a_de : Nat} {a_bu : Nat} {y : (Nat → Int32)} (M : MX p s m args meth c b_Bu_gather 5 none "MoveDesk$Bundle" g A) : ∀ n : Nat, ∀ (r_co : Nat → Int32) (r_so : Nat → Int32) (r_de : Nat → Int32) (r_bu : Nat → Int32) (v2 : Int32) (v3 : Int32) (v4 : Int32) (H : Heap) (locs : List Loc) (ls : Array Slot), some y = (f_Bu_gather_43 n) r_co r_so r_de r_bu v2 v3 v4 → va_P g.1 classes (w_co_so_de_bu g a_co a_ta a_gu a_so a_cn a_de a_bu r_co r_so r_de r_bu) H → va_D A (w_co_so_de_bu g a_co a_ta a_gu a_so a_cn a_de a_bu r_co r_so r_de r_bu) → va_S A s.heap H locs → lv_has ls 5 [(0, .ref a_bu), (1, .ref a_co), (2, .int v2), (3, .int v3), (4, .int v4)] → W p l e rm_Bu_gather s m args below meth c H locs 0 0 (MQ below (QW g none (w_co_so_de_bu g a_co a_ta a_gu a_so a_cn a_de a_bu r_co r_so r_de y) A) args s 0 0 A) (F0 m 43 ls []) := by
  obtain ⟨hx, hb, hr, hml, hown, hts, hlocks, hA, hK, hG⟩ := id M
  intro n
  induction n with
  | zero =>
    intro r_co r_so r_de r_bu v2 v3 v4 H locs ls hE hP hD hS hl
    rw [f_Bu_gather_43] at hE
    cases hE
  | succ n ih =>
    intro r_co r_so r_de r_bu v2 v3 v4 H locs ls hE hP hD hS hl
    rw [f_Bu_gather_43] at hE
    refine lv_iload_n hx hb d_Bu_gather_43 rfl (lv_at hl 3 rfl) ?_
    refine lv_iload hx hb d_Bu_gather_44 (lv_at hl 4 rfl) ?_
    refine lv_ishr hx hb d_Bu_gather_46 ?_
    refine lv_if_eq (tgt := 113) hx hb d_Bu_gather_47 (by decide) (fun c1 => ?_) (fun c1 => ?_)
    · have hE := it_t hE c1
      have hE := Option.some.inj hE
      rw [hE]
      exact W.vret hx hb hr (fun t ht hW => ⟨⟨rfl, by rw [ht]; exact hP, va_K.moved hW.alike hK, hD⟩, hS.F ht⟩) hS.2.2 d_Bu_gather_113 hlocks
    · have hE := it_f hE c1
      refine lv_iload hx hb d_Bu_gather_50 (lv_at hl 4 rfl) ?_
      refine lv_iconst (v := 4) hx hb d_Bu_gather_52 (by decide) ?_
      refine lv_icmp_ge (tgt := 113) hx hb d_Bu_gather_53 (by decide) (fun c2 => ?_) (fun c2 => ?_)
      · have hE := it_t hE c2
        have hE := Option.some.inj hE
        rw [hE]
        exact W.vret hx hb hr (fun t ht hW => ⟨⟨rfl, by rw [ht]; exact hP, va_K.moved hW.alike hK, hD⟩, hS.F ht⟩) hS.2.2 d_Bu_gather_113 hlocks
      · have hE := it_f hE c2
        refine lv_iload_n hx hb d_Bu_gather_56 rfl (lv_at hl 3 rfl) ?_
        refine lv_iload hx hb d_Bu_gather_57 (lv_at hl 4 rfl) ?_
        refine lv_ishr hx hb d_Bu_gather_59 ?_
        refine lv_iconst (v := 1) hx hb d_Bu_gather_60 (by decide) ?_
        refine lv_iand hx hb d_Bu_gather_61 ?_
        refine lv_if_eq (tgt := 107) hx hb d_Bu_gather_62 (by decide) (fun c3 => ?_) (fun c3 => ?_)
        · have hE := it_t hE c3
          exact wl_Bu_gather_107 M (f_Bu_gather_43 n) ih _ _ _ _ _ _ _ _ _ _ hE hP hD hS (lv_sub hl [0, 1, 2, 3, 4] rfl)
        · have hE := it_f hE c3
          refine lv_aload_n hx hb d_Bu_gather_65 rfl (lv_at hl 0 rfl) ?_
          refine lv_aload_n hx hb d_Bu_gather_66 rfl (lv_at hl 1 rfl) ?_
          refine lv_iload_n hx hb d_Bu_gather_67 rfl (lv_at hl 2 rfl) ?_
          refine lv_iload hx hb d_Bu_gather_68 (lv_at hl 4 rfl) ?_
          obtain ⟨y4, hy4, hE⟩ := bd_at hE
          refine kV (C := "MoveDesk$Code") (index := 37) (As := [.int v2, .int v4]) (rest := [.ref a_bu]) (ws2 := (w_co_so_de_bu g a_co a_ta a_gu a_so a_cn a_de a_bu r_co r_so r_de r_bu)) M hP hD hS hl.1 (c_Co_source l g a_co a_ta a_gu a_so a_cn a_de r_co r_so v2 v4 y4 hy4) m_373 m_310 m_311 m_3 m_312 hd_Co_source rfl rfl rfl ⟨by decide, by decide⟩ ⟨by decide, by decide⟩ 1 0 rfl rfl rfl [0, 1] [2, 3] [2, 3, 0, 1] rfl rfl rfl rfl (by decide) rfl rfl rfl (Nat.le_of_ble_eq_true rfl) d_Bu_gather_70 (fun H locs hP hD hS => ?_)
          refine W.eq (g2 := F0 m 73 ls [.int y4, .ref a_bu]) rfl ?_
          obtain ⟨y5, hy5, hE⟩ := bd_at hE
          refine kV (C := "MoveDesk$Bundle") (index := 43) (As := [.int y4]) (rest := []) (ws2 := (w_co_so_de_bu g a_co a_ta a_gu a_so a_cn a_de a_bu r_co r_so r_de y5)) M hP hD hS hl.1 (c_Bu_takeSource l g a_bu r_bu y4 y5 hy5) m_374 m_376 s_4 m_5 m_377 hd_Bu_takeSource rfl rfl rfl ⟨by decide, by decide⟩ ⟨by decide, by decide⟩ 0 0 rfl rfl rfl [3] [0, 1, 2] [0, 1, 2, 3] rfl rfl rfl rfl (by decide) rfl rfl rfl (Nat.le_of_ble_eq_true rfl) d_Bu_gather_73 (fun H locs hP hD hS => ?_)
          refine W.eq (g2 := F0 m 76 ls []) rfl ?_
          refine lv_aload_n hx hb d_Bu_gather_76 rfl (lv_at hl 0 rfl) ?_
          refine lv_aload_n hx hb d_Bu_gather_77 rfl (lv_at hl 1 rfl) ?_
          refine lv_iload_n hx hb d_Bu_gather_78 rfl (lv_at hl 2 rfl) ?_
          refine lv_iload hx hb d_Bu_gather_79 (lv_at hl 4 rfl) ?_
          obtain ⟨y6, hy6, hE⟩ := bd_at hE
          refine kV (C := "MoveDesk$Code") (index := 47) (As := [.int v2, .int v4]) (rest := [.ref a_bu]) (ws2 := (w_co_so_de_bu g a_co a_ta a_gu a_so a_cn a_de a_bu r_co r_so r_de y5)) M hP hD hS hl.1 (c_Co_destination l g a_co a_ta a_gu a_so a_cn a_de r_co r_de v2 v4 y6 hy6) m_378 m_318 m_319 m_3 m_320 hd_Co_destination rfl rfl rfl ⟨by decide, by decide⟩ ⟨by decide, by decide⟩ 1 0 rfl rfl rfl [0, 2] [1, 3] [2, 0, 3, 1] rfl rfl rfl rfl (by decide) rfl rfl rfl (Nat.le_of_ble_eq_true rfl) d_Bu_gather_81 (fun H locs hP hD hS => ?_)
          refine W.eq (g2 := F0 m 84 ls [.int y6, .ref a_bu]) rfl ?_
          obtain ⟨y7, hy7, hE⟩ := bd_at hE
          refine kV (C := "MoveDesk$Bundle") (index := 50) (As := [.int y6]) (rest := []) (ws2 := (w_co_so_de_bu g a_co a_ta a_gu a_so a_cn a_de a_bu r_co r_so r_de y7)) M hP hD hS hl.1 (c_Bu_takeDestination l g a_bu y5 y6 y7 hy7) m_379 m_381 s_5 m_5 m_382 hd_Bu_takeDestination rfl rfl rfl ⟨by decide, by decide⟩ ⟨by decide, by decide⟩ 0 0 rfl rfl rfl [3] [0, 1, 2] [0, 1, 2, 3] rfl rfl rfl rfl (by decide) rfl rfl rfl (Nat.le_of_ble_eq_true rfl) d_Bu_gather_84 (fun H locs hP hD hS => ?_)
          refine W.eq (g2 := F0 m 87 ls []) rfl ?_
          refine lv_aload_n hx hb d_Bu_gather_87 rfl (lv_at hl 0 rfl) ?_
          refine lv_iload hx hb d_Bu_gather_88 (lv_at hl 4 rfl) ?_
          refine lv_aload_n hx hb d_Bu_gather_90 rfl (lv_at hl 1 rfl) ?_
          refine lv_iload_n hx hb d_Bu_gather_91 rfl (lv_at hl 2 rfl) ?_
          refine lv_iload hx hb d_Bu_gather_92 (lv_at hl 4 rfl) ?_
          obtain ⟨y8, hy8, hE⟩ := bd_at hE
          refine kV (C := "MoveDesk$Code") (index := 37) (As := [.int v2, .int v4]) (rest := [.int v4, .ref a_bu]) (ws2 := (w_co_so_de_bu g a_co a_ta a_gu a_so a_cn a_de a_bu r_co r_so r_de y7)) M hP hD hS hl.1 (c_Co_source l g a_co a_ta a_gu a_so a_cn a_de r_co r_so v2 v4 y8 hy8) m_373 m_310 m_311 m_3 m_312 hd_Co_source rfl rfl rfl ⟨by decide, by decide⟩ ⟨by decide, by decide⟩ 1 0 rfl rfl rfl [0, 1] [2, 3] [2, 3, 0, 1] rfl rfl rfl rfl (by decide) rfl rfl rfl (Nat.le_of_ble_eq_true rfl) d_Bu_gather_94 (fun H locs hP hD hS => ?_)
          refine W.eq (g2 := F0 m 97 ls [.int y8, .int v4, .ref a_bu]) rfl ?_
          refine lv_aload_n hx hb d_Bu_gather_97 rfl (lv_at hl 1 rfl) ?_
          refine lv_iload_n hx hb d_Bu_gather_98 rfl (lv_at hl 2 rfl) ?_
          refine lv_iload hx hb d_Bu_gather_99 (lv_at hl 4 rfl) ?_
          obtain ⟨y9, hy9, hE⟩ := bd_at hE
          refine kV (C := "MoveDesk$Code") (index := 47) (As := [.int v2, .int v4]) (rest := [.int y8, .int v4, .ref a_bu]) (ws2 := (w_co_so_de_bu g a_co a_ta a_gu a_so a_cn a_de a_bu r_co r_so r_de y7)) M hP hD hS hl.1 (c_Co_destination l g a_co a_ta a_gu a_so a_cn a_de r_co r_de v2 v4 y9 hy9) m_378 m_318 m_319 m_3 m_320 hd_Co_destination rfl rfl rfl ⟨by decide, by decide⟩ ⟨by decide, by decide⟩ 1 0 rfl rfl rfl [0, 2] [1, 3] [2, 0, 3, 1] rfl rfl rfl rfl (by decide) rfl rfl rfl (Nat.le_of_ble_eq_true rfl) d_Bu_gather_101 (fun H locs hP hD hS => ?_)
          refine W.eq (g2 := F0 m 104 ls [.int y9, .int y8, .int v4, .ref a_bu]) rfl ?_
          obtain ⟨y10, hy10, hE⟩ := bd_at hE
          refine kV (C := "MoveDesk$Bundle") (index := 53) (As := [.int v4, .int y8, .int y9]) (rest := []) (ws2 := (w_co_so_de_bu g a_co a_ta a_gu a_so a_cn a_de a_bu r_co r_so r_de y10)) M hP hD hS hl.1 (c_Bu_takeJump l g a_bu y7 v4 y8 y9 y10 hy10) m_385 m_387 s_6 m_5 m_388 hd_Bu_takeJump rfl rfl rfl ⟨by decide, by decide⟩ ⟨by decide, by decide⟩ 0 0 rfl rfl rfl [3] [0, 1, 2] [0, 1, 2, 3] rfl rfl rfl rfl (by decide) rfl rfl rfl (Nat.le_of_ble_eq_true rfl) d_Bu_gather_104 (fun H locs hP hD hS => ?_)
          refine W.eq (g2 := F0 m 107 ls []) rfl ?_
          exact wl_Bu_gather_107 M (f_Bu_gather_43 n) ih _ _ _ _ _ _ _ _ _ _ hE hP hD hS (lv_sub hl [0, 1, 2, 3, 4] rfl)
set_option maxHeartbeats 4000000 in
set_option maxRecDepth 100000 in
theorem c_Bu_gather (l : Launch) (g : GT) (a_co : Nat) (a_ta : Nat) (a_gu : Nat) (a_so : Nat) (a_cn : Nat) (a_de : Nat) (a_bu : Nat) (r_co : Nat → Int32) (r_so : Nat → Int32) (r_de : Nat → Int32) (r_bu : Nat → Int32) (v2 : Int32) (v3 : Int32) (y : (Nat → Int32)) (hy : some y = f_Bu_gather r_co r_so r_de r_bu v2 v3) : Ct l y_Bu_gather (.code y_Bu_gather b_Bu_gather 5 none) rm_Bu_gather g [.ref a_bu, .ref a_co, .int v2, .int v3] (w_co_so_de_bu g a_co a_ta a_gu a_so a_cn a_de a_bu r_co r_so r_de r_bu) (w_co_so_de_bu g a_co a_ta a_gu a_so a_cn a_de a_bu r_co r_so r_de y) none := by
  refine ct_in (C := "MoveDesk$Bundle") rfl (by decide) (Nat.le_of_ble_eq_true rfl) (fun p e s m below meth c A ls M hP hD hS hl => ?_)
  obtain ⟨hx, hb, hr, hml, hown, hts, hlocks, hA, hK, hG⟩ := id M
  have hl : lv_has ls 5 [(0, .ref a_bu), (1, .ref a_co), (2, .int v2), (3, .int v3)] := hl
  have hE := hy
  rw [f_Bu_gather] at hE
  refine lv_aload_n hx hb d_Bu_gather_0 rfl (lv_at hl 0 rfl) ?_
  refine lv_iconst (v := 0) hx hb d_Bu_gather_1 (by decide) ?_
  refine va_put (D := g.1) (ci := 0) (v := .int 0) (ty := .int) (C := "MoveDesk$Bundle") (T := F_Bu) (N := 8) hx hb hts i_Bu t_Bu t_Bu_ok n_Bu hown hK hP hD hS 3 rfl rfl 0 (by decide) (hts _ m_72) (fun _ h9 => h9) rfl (by decide +kernel) rfl rfl (Nat.le_of_ble_eq_true rfl) d_Bu_gather_2 (fun H locs hP hD hS => ?_)
  have hP : va_P g.1 classes (w_co_so_de_bu g a_co a_ta a_gu a_so a_cn a_de a_bu r_co r_so r_de (upd r_bu 0 0)) H := hP
  have hD : va_D A (w_co_so_de_bu g a_co a_ta a_gu a_so a_cn a_de a_bu r_co r_so r_de (upd r_bu 0 0)) := hD
  refine lv_aload_n hx hb d_Bu_gather_5 rfl (lv_at hl 0 rfl) ?_
  refine lv_iconst (v := 0) hx hb d_Bu_gather_6 (by decide) ?_
  refine va_put (D := g.1) (ci := 0) (v := .int 0) (ty := .boolean) (C := "MoveDesk$Bundle") (T := F_Bu) (N := 8) hx hb hts i_Bu t_Bu t_Bu_ok n_Bu hown hK hP hD hS 3 rfl rfl 1 (by decide) (hts _ m_73) (fun _ h9 => h9) rfl (by decide +kernel) rfl rfl (Nat.le_of_ble_eq_true rfl) d_Bu_gather_7 (fun H locs hP hD hS => ?_)
  have hP : va_P g.1 classes (w_co_so_de_bu g a_co a_ta a_gu a_so a_cn a_de a_bu r_co r_so r_de (upd (upd r_bu 0 0) 1 0)) H := hP
  have hD : va_D A (w_co_so_de_bu g a_co a_ta a_gu a_so a_cn a_de a_bu r_co r_so r_de (upd (upd r_bu 0 0) 1 0)) := hD
  refine lv_aload_n hx hb d_Bu_gather_10 rfl (lv_at hl 0 rfl) ?_
  refine lv_iconst (v := 0) hx hb d_Bu_gather_11 (by decide) ?_
  refine va_put (D := g.1) (ci := 0) (v := .int 0) (ty := .int) (C := "MoveDesk$Bundle") (T := F_Bu) (N := 8) hx hb hts i_Bu t_Bu t_Bu_ok n_Bu hown hK hP hD hS 3 rfl rfl 2 (by decide) (hts _ m_74) (fun _ h9 => h9) rfl (by decide +kernel) rfl rfl (Nat.le_of_ble_eq_true rfl) d_Bu_gather_12 (fun H locs hP hD hS => ?_)
  have hP : va_P g.1 classes (w_co_so_de_bu g a_co a_ta a_gu a_so a_cn a_de a_bu r_co r_so r_de (upd (upd (upd r_bu 0 0) 1 0) 2 0)) H := hP
  have hD : va_D A (w_co_so_de_bu g a_co a_ta a_gu a_so a_cn a_de a_bu r_co r_so r_de (upd (upd (upd r_bu 0 0) 1 0) 2 0)) := hD
  refine lv_aload_n hx hb d_Bu_gather_15 rfl (lv_at hl 0 rfl) ?_
  refine lv_iconst (v := 0) hx hb d_Bu_gather_16 (by decide) ?_
  refine va_put (D := g.1) (ci := 0) (v := .int 0) (ty := .int) (C := "MoveDesk$Bundle") (T := F_Bu) (N := 8) hx hb hts i_Bu t_Bu t_Bu_ok n_Bu hown hK hP hD hS 3 rfl rfl 3 (by decide) (hts _ m_75) (fun _ h9 => h9) rfl (by decide +kernel) rfl rfl (Nat.le_of_ble_eq_true rfl) d_Bu_gather_17 (fun H locs hP hD hS => ?_)
  have hP : va_P g.1 classes (w_co_so_de_bu g a_co a_ta a_gu a_so a_cn a_de a_bu r_co r_so r_de (upd (upd (upd (upd r_bu 0 0) 1 0) 2 0) 3 0)) H := hP
  have hD : va_D A (w_co_so_de_bu g a_co a_ta a_gu a_so a_cn a_de a_bu r_co r_so r_de (upd (upd (upd (upd r_bu 0 0) 1 0) 2 0) 3 0)) := hD
  refine lv_aload_n hx hb d_Bu_gather_20 rfl (lv_at hl 0 rfl) ?_
  refine lv_iconst (v := 0) hx hb d_Bu_gather_21 (by decide) ?_
  refine va_put (D := g.1) (ci := 0) (v := .int 0) (ty := .int) (C := "MoveDesk$Bundle") (T := F_Bu) (N := 8) hx hb hts i_Bu t_Bu t_Bu_ok n_Bu hown hK hP hD hS 3 rfl rfl 4 (by decide) (hts _ m_77) (fun _ h9 => h9) rfl (by decide +kernel) rfl rfl (Nat.le_of_ble_eq_true rfl) d_Bu_gather_22 (fun H locs hP hD hS => ?_)
  have hP : va_P g.1 classes (w_co_so_de_bu g a_co a_ta a_gu a_so a_cn a_de a_bu r_co r_so r_de (upd (upd (upd (upd (upd r_bu 0 0) 1 0) 2 0) 3 0) 4 0)) H := hP
  have hD : va_D A (w_co_so_de_bu g a_co a_ta a_gu a_so a_cn a_de a_bu r_co r_so r_de (upd (upd (upd (upd (upd r_bu 0 0) 1 0) 2 0) 3 0) 4 0)) := hD
  refine lv_aload_n hx hb d_Bu_gather_25 rfl (lv_at hl 0 rfl) ?_
  refine lv_iconst (v := (-1)) hx hb d_Bu_gather_26 (by decide) ?_
  refine va_put (D := g.1) (ci := 0) (v := .int (-1)) (ty := .int) (C := "MoveDesk$Bundle") (T := F_Bu) (N := 8) hx hb hts i_Bu t_Bu t_Bu_ok n_Bu hown hK hP hD hS 3 rfl rfl 5 (by decide) (hts _ m_79) (fun _ h9 => h9) rfl (by decide +kernel) rfl rfl (Nat.le_of_ble_eq_true rfl) d_Bu_gather_27 (fun H locs hP hD hS => ?_)
  have hP : va_P g.1 classes (w_co_so_de_bu g a_co a_ta a_gu a_so a_cn a_de a_bu r_co r_so r_de (upd (upd (upd (upd (upd (upd r_bu 0 0) 1 0) 2 0) 3 0) 4 0) 5 (-1))) H := hP
  have hD : va_D A (w_co_so_de_bu g a_co a_ta a_gu a_so a_cn a_de a_bu r_co r_so r_de (upd (upd (upd (upd (upd (upd r_bu 0 0) 1 0) 2 0) 3 0) 4 0) 5 (-1))) := hD
  refine lv_aload_n hx hb d_Bu_gather_30 rfl (lv_at hl 0 rfl) ?_
  refine lv_iconst (v := 0) hx hb d_Bu_gather_31 (by decide) ?_
  refine va_put (D := g.1) (ci := 0) (v := .int 0) (ty := .boolean) (C := "MoveDesk$Bundle") (T := F_Bu) (N := 8) hx hb hts i_Bu t_Bu t_Bu_ok n_Bu hown hK hP hD hS 3 rfl rfl 6 (by decide) (hts _ m_81) (fun _ h9 => h9) rfl (by decide +kernel) rfl rfl (Nat.le_of_ble_eq_true rfl) d_Bu_gather_32 (fun H locs hP hD hS => ?_)
  have hP : va_P g.1 classes (w_co_so_de_bu g a_co a_ta a_gu a_so a_cn a_de a_bu r_co r_so r_de (upd (upd (upd (upd (upd (upd (upd r_bu 0 0) 1 0) 2 0) 3 0) 4 0) 5 (-1)) 6 0)) H := hP
  have hD : va_D A (w_co_so_de_bu g a_co a_ta a_gu a_so a_cn a_de a_bu r_co r_so r_de (upd (upd (upd (upd (upd (upd (upd r_bu 0 0) 1 0) 2 0) 3 0) 4 0) 5 (-1)) 6 0)) := hD
  refine lv_aload_n hx hb d_Bu_gather_35 rfl (lv_at hl 0 rfl) ?_
  refine lv_iconst (v := 0) hx hb d_Bu_gather_36 (by decide) ?_
  refine va_put (D := g.1) (ci := 0) (v := .int 0) (ty := .boolean) (C := "MoveDesk$Bundle") (T := F_Bu) (N := 8) hx hb hts i_Bu t_Bu t_Bu_ok n_Bu hown hK hP hD hS 3 rfl rfl 7 (by decide) (hts _ m_83) (fun _ h9 => h9) rfl (by decide +kernel) rfl rfl (Nat.le_of_ble_eq_true rfl) d_Bu_gather_37 (fun H locs hP hD hS => ?_)
  have hP : va_P g.1 classes (w_co_so_de_bu g a_co a_ta a_gu a_so a_cn a_de a_bu r_co r_so r_de (upd (upd (upd (upd (upd (upd (upd (upd r_bu 0 0) 1 0) 2 0) 3 0) 4 0) 5 (-1)) 6 0) 7 0)) H := hP
  have hD : va_D A (w_co_so_de_bu g a_co a_ta a_gu a_so a_cn a_de a_bu r_co r_so r_de (upd (upd (upd (upd (upd (upd (upd (upd r_bu 0 0) 1 0) 2 0) 3 0) 4 0) 5 (-1)) 6 0) 7 0)) := hD
  refine lv_iconst (v := 0) hx hb d_Bu_gather_40 (by decide) ?_
  refine lv_istore (lv' := [(4, .int 0), (0, .ref a_bu), (1, .ref a_co), (2, .int v2), (3, .int v3)]) hx hb d_Bu_gather_41 hl (by decide) rfl (fun ls hl => ?_)
  exact wl_Bu_gather_43 M 5000 _ _ _ _ _ _ _ _ _ _ hE hP hD hS (lv_sub hl [1, 2, 3, 4, 0] rfl)
abbrev rm_Bu_leastFault : Room := { frames := 1, cells := 0, slots := 0, locals := 20 }
set_option maxHeartbeats 4000000 in
set_option maxRecDepth 100000 in
theorem wl_Bu_leastFault_64 {p : Program} {l : Launch} {e : Env} {s : State} {m : MethodId} {args : Array Value} {below : List Frame} {meth : Method} {c : Code} {A : Nat → Prop} {g : GT} {a_bu : Nat} {y : Int32} (M : MX p s m args meth c b_Bu_leastFault 4 (some .int) "MoveDesk$Bundle" g A) : ∀ (r_bu : Nat → Int32)  (H : Heap) (locs : List Loc) (ls : Array Slot), some y = f_Bu_leastFault_64 r_bu → va_P g.1 classes (w_bu g a_bu r_bu) H → va_D A (w_bu g a_bu r_bu) → va_S A s.heap H locs → lv_has ls 4 [] → W p l e rm_Bu_leastFault s m args below meth c H locs 0 0 (MQ below (QW g (some (.int y)) (w_bu g a_bu r_bu) A) args s 0 0 A) (F0 m 64 ls []) := by
  obtain ⟨hx, hb, hr, hml, hown, hts, hlocks, hA, hK, hG⟩ := id M
  intro r_bu H locs ls hE hP hD hS hl
  rw [f_Bu_leastFault_64] at hE
  refine lv_iconst (v := 4) hx hb d_Bu_leastFault_64 (by decide) ?_
  have hE := Option.some.inj hE
  rw [hE]
  exact W.iret (v := 4) hx hb hr (fun t ht hW => ⟨⟨rfl, by rw [ht]; exact hP, va_K.moved hW.alike hK, hD⟩, hS.F ht⟩) hS.2.2 d_Bu_leastFault_65 hlocks
set_option maxHeartbeats 4000000 in
set_option maxRecDepth 100000 in
theorem wl_Bu_leastFault_36 {p : Program} {l : Launch} {e : Env} {s : State} {m : MethodId} {args : Array Value} {below : List Frame} {meth : Method} {c : Code} {A : Nat → Prop} {g : GT} {a_bu : Nat} {y : Int32} (M : MX p s m args meth c b_Bu_leastFault 4 (some .int) "MoveDesk$Bundle" g A) : ∀ (r_bu : Nat → Int32)  (H : Heap) (locs : List Loc) (ls : Array Slot), some y = f_Bu_leastFault_36 r_bu → va_P g.1 classes (w_bu g a_bu r_bu) H → va_D A (w_bu g a_bu r_bu) → va_S A s.heap H locs → lv_has ls 4 [(0, .ref a_bu)] → W p l e rm_Bu_leastFault s m args below meth c H locs 0 0 (MQ below (QW g (some (.int y)) (w_bu g a_bu r_bu) A) args s 0 0 A) (F0 m 36 ls []) := by
  obtain ⟨hx, hb, hr, hml, hown, hts, hlocks, hA, hK, hG⟩ := id M
  intro r_bu H locs ls hE hP hD hS hl
  rw [f_Bu_leastFault_36] at hE
  refine lv_aload_n hx hb d_Bu_leastFault_36 rfl (lv_at hl 0 rfl) ?_
  refine va_get (D := g.1) (ci := 0) (v := .int (r_bu 0)) (C := "MoveDesk$Bundle") (T := F_Bu) (N := 8) hx hb hts i_Bu hown hK hP 0 rfl rfl 0 (by decide) (hts _ m_72) (fun _ h9 => h9) rfl d_Bu_leastFault_37 ?_
  refine lv_sipush (v := 255) hx hb d_Bu_leastFault_40 (by decide) ?_
  refine lv_iand hx hb d_Bu_leastFault_43 ?_
  refine lv_topi (fun x1 ex1 => ?_)
  have hE := nm_at hE ex1
  refine lv_istore_n (lv' := [(3, .int x1), (0, .ref a_bu)]) hx hb d_Bu_leastFault_44 rfl hl (by decide) rfl (fun ls hl => ?_)
  refine lv_aload_n hx hb d_Bu_leastFault_45 rfl (lv_at hl 1 rfl) ?_
  refine va_get (D := g.1) (ci := 0) (v := .int (r_bu 2)) (C := "MoveDesk$Bundle") (T := F_Bu) (N := 8) hx hb hts i_Bu hown hK hP 0 rfl rfl 2 (by decide) (hts _ m_74) (fun _ h9 => h9) rfl d_Bu_leastFault_46 ?_
  obtain ⟨y2, hy2, hE⟩ := bd_at hE
  refine kS (index := 61) (As := [.int (r_bu 2)]) (rest := []) (ws2 := (w_bu g a_bu r_bu)) M hP hD hS hl.1 (c_In_bitCount l g   (r_bu 2) y2 hy2) m_397 m_398 m_16 m_399 hs_In_bitCount rfl rfl rfl ⟨by decide, by decide⟩ ⟨by decide, by decide⟩ [] [0] [0] rfl rfl rfl rfl (by decide) rfl rfl rfl (Nat.le_of_ble_eq_true rfl) d_Bu_leastFault_49 (fun H locs hP hD hS => ?_)
  refine W.eq (g2 := F0 m 52 ls [.int y2]) rfl ?_
  refine lv_iconst (v := 2) hx hb d_Bu_leastFault_52 (by decide) ?_
  refine lv_icmp_gt (tgt := 64) hx hb d_Bu_leastFault_53 (by decide) (fun c3 => ?_) (fun c3 => ?_)
  · have hE := it_t hE c3
    exact wl_Bu_leastFault_64 M _ _ _ _ hE hP hD hS (lv_sub hl [] rfl)
  · have hE := it_f hE c3
    refine lv_iload_n hx hb d_Bu_leastFault_56 rfl (lv_at hl 0 rfl) ?_
    obtain ⟨y4, hy4, hE⟩ := bd_at hE
    refine kS (index := 61) (As := [.int x1]) (rest := []) (ws2 := (w_bu g a_bu r_bu)) M hP hD hS hl.1 (c_In_bitCount l g   x1 y4 hy4) m_397 m_398 m_16 m_399 hs_In_bitCount rfl rfl rfl ⟨by decide, by decide⟩ ⟨by decide, by decide⟩ [] [0] [0] rfl rfl rfl rfl (by decide) rfl rfl rfl (Nat.le_of_ble_eq_true rfl) d_Bu_leastFault_57 (fun H locs hP hD hS => ?_)
    refine W.eq (g2 := F0 m 60 ls [.int y4]) rfl ?_
    refine lv_iconst (v := 1) hx hb d_Bu_leastFault_60 (by decide) ?_
    refine lv_icmp_le (tgt := 66) hx hb d_Bu_leastFault_61 (by decide) (fun c5 => ?_) (fun c5 => ?_)
    · have hE := it_t hE c5
      refine lv_iconst (v := 0) hx hb d_Bu_leastFault_66 (by decide) ?_
      have hE := Option.some.inj hE
      rw [hE]
      exact W.iret (v := 0) hx hb hr (fun t ht hW => ⟨⟨rfl, by rw [ht]; exact hP, va_K.moved hW.alike hK, hD⟩, hS.F ht⟩) hS.2.2 d_Bu_leastFault_67 hlocks
    · have hE := it_f hE c5
      exact wl_Bu_leastFault_64 M _ _ _ _ hE hP hD hS (lv_sub hl [] rfl)
set_option maxHeartbeats 4000000 in
set_option maxRecDepth 100000 in
theorem c_Bu_leastFault (l : Launch) (g : GT) (a_bu : Nat) (r_bu : Nat → Int32) (v1 : Int32) (v2 : Int32) (y : Int32) (hy : some y = f_Bu_leastFault r_bu v1 v2) : Ct l y_Bu_leastFault (.code y_Bu_leastFault b_Bu_leastFault 4 (some .int)) rm_Bu_leastFault g [.ref a_bu, .int v1, .int v2] (w_bu g a_bu r_bu) (w_bu g a_bu r_bu) (some (.int y)) := by
  refine ct_in (C := "MoveDesk$Bundle") rfl (by decide) (Nat.le_of_ble_eq_true rfl) (fun p e s m below meth c A ls M hP hD hS hl => ?_)
  obtain ⟨hx, hb, hr, hml, hown, hts, hlocks, hA, hK, hG⟩ := id M
  have hl : lv_has ls 4 [(0, .ref a_bu), (1, .int v1), (2, .int v2)] := hl
  have hE := hy
  rw [f_Bu_leastFault] at hE
  refine lv_aload_n hx hb d_Bu_leastFault_0 rfl (lv_at hl 0 rfl) ?_
  refine va_get (D := g.1) (ci := 0) (v := .int (r_bu 1)) (C := "MoveDesk$Bundle") (T := F_Bu) (N := 8) hx hb hts i_Bu hown hK hP 0 rfl rfl 1 (by decide) (hts _ m_73) (fun _ h9 => h9) rfl d_Bu_leastFault_1 ?_
  refine lv_if_eq (tgt := 9) hx hb d_Bu_leastFault_4 (by decide) (fun c1 => ?_) (fun c1 => ?_)
  · have hE := it_t hE c1
    refine lv_aload_n hx hb d_Bu_leastFault_9 rfl (lv_at hl 0 rfl) ?_
    refine va_get (D := g.1) (ci := 0) (v := .int (r_bu 3)) (C := "MoveDesk$Bundle") (T := F_Bu) (N := 8) hx hb hts i_Bu hown hK hP 0 rfl rfl 3 (by decide) (hts _ m_75) (fun _ h9 => h9) rfl d_Bu_leastFault_10 ?_
    refine lv_iload_n hx hb d_Bu_leastFault_13 rfl (lv_at hl 1 rfl) ?_
    refine lv_iconst (v := (-1)) hx hb d_Bu_leastFault_14 (by decide) ?_
    refine lv_ixor hx hb d_Bu_leastFault_15 ?_
    refine lv_iand hx hb d_Bu_leastFault_16 ?_
    refine lv_if_eq (tgt := 22) hx hb d_Bu_leastFault_17 (by decide) (fun c2 => ?_) (fun c2 => ?_)
    · have hE := it_t hE c2
      refine lv_iload_n hx hb d_Bu_leastFault_22 rfl (lv_at hl 2 rfl) ?_
      refine lv_if_eq (tgt := 36) hx hb d_Bu_leastFault_23 (by decide) (fun c3 => ?_) (fun c3 => ?_)
      · have hE := it_t hE c3
        exact wl_Bu_leastFault_36 M _ _ _ _ hE hP hD hS (lv_sub hl [0] rfl)
      · have hE := it_f hE c3
        refine lv_aload_n hx hb d_Bu_leastFault_26 rfl (lv_at hl 0 rfl) ?_
        refine va_get (D := g.1) (ci := 0) (v := .int (r_bu 5)) (C := "MoveDesk$Bundle") (T := F_Bu) (N := 8) hx hb hts i_Bu hown hK hP 0 rfl rfl 5 (by decide) (hts _ m_79) (fun _ h9 => h9) rfl d_Bu_leastFault_27 ?_
        refine lv_iconst (v := (-1)) hx hb d_Bu_leastFault_30 (by decide) ?_
        refine lv_icmp_eq (tgt := 36) hx hb d_Bu_leastFault_31 (by decide) (fun c4 => ?_) (fun c4 => ?_)
        · have hE := it_t hE c4
          exact wl_Bu_leastFault_36 M _ _ _ _ hE hP hD hS (lv_sub hl [0] rfl)
        · have hE := it_f hE c4
          refine lv_iconst (v := 3) hx hb d_Bu_leastFault_34 (by decide) ?_
          have hE := Option.some.inj hE
          rw [hE]
          exact W.iret (v := 3) hx hb hr (fun t ht hW => ⟨⟨rfl, by rw [ht]; exact hP, va_K.moved hW.alike hK, hD⟩, hS.F ht⟩) hS.2.2 d_Bu_leastFault_35 hlocks
    · have hE := it_f hE c2
      refine lv_iconst (v := 2) hx hb d_Bu_leastFault_20 (by decide) ?_
      have hE := Option.some.inj hE
      rw [hE]
      exact W.iret (v := 2) hx hb hr (fun t ht hW => ⟨⟨rfl, by rw [ht]; exact hP, va_K.moved hW.alike hK, hD⟩, hS.F ht⟩) hS.2.2 d_Bu_leastFault_21 hlocks
  · have hE := it_f hE c1
    refine lv_iconst (v := 1) hx hb d_Bu_leastFault_7 (by decide) ?_
    have hE := Option.some.inj hE
    rw [hE]
    exact W.iret (v := 1) hx hb hr (fun t ht hW => ⟨⟨rfl, by rw [ht]; exact hP, va_K.moved hW.alike hK, hD⟩, hS.F ht⟩) hS.2.2 d_Bu_leastFault_8 hlocks
