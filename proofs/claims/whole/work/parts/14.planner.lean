theorem s_12 : (.selects "MoveDesk$Planner" ⟨"MoveDesk$Planner", "start", "()V"⟩ ⟨"MoveDesk$Planner", "start", "()V"⟩ : Cond) ∈ bw := ms 12 (by decide +kernel) rfl
theorem s_13 : (.selects "MoveDesk$Planner" ⟨"MoveDesk$Planner", "planOne", "(I)I"⟩ ⟨"MoveDesk$Planner", "planOne", "(I)I"⟩ : Cond) ∈ bw := ms 13 (by decide +kernel) rfl
theorem s_14 : (.selects "MoveDesk$Planner" ⟨"MoveDesk$Planner", "triggerCycle", "(I)I"⟩ ⟨"MoveDesk$Planner", "triggerCycle", "(I)I"⟩ : Cond) ∈ bw := ms 14 (by decide +kernel) rfl
theorem s_15 : (.selects "MoveDesk$Planner" ⟨"MoveDesk$Planner", "earliestTrigger", "(II)I"⟩ ⟨"MoveDesk$Planner", "earliestTrigger", "(II)I"⟩ : Cond) ∈ bw := ms 15 (by decide +kernel) rfl
theorem s_16 : (.selects "MoveDesk$Planner" ⟨"MoveDesk$Planner", "noteTrigger", "(II)V"⟩ ⟨"MoveDesk$Planner", "noteTrigger", "(II)V"⟩ : Cond) ∈ bw := ms 16 (by decide +kernel) rfl
theorem s_17 : (.selects "MoveDesk$Planner" ⟨"MoveDesk$Planner", "resultCycle", "(II)I"⟩ ⟨"MoveDesk$Planner", "resultCycle", "(II)I"⟩ : Cond) ∈ bw := ms 17 (by decide +kernel) rfl
theorem s_18 : (.selects "MoveDesk$Planner" ⟨"MoveDesk$Planner", "noteResult", "(II)V"⟩ ⟨"MoveDesk$Planner", "noteResult", "(II)V"⟩ : Cond) ∈ bw := ms 18 (by decide +kernel) rfl
theorem s_19 : (.selects "MoveDesk$Planner" ⟨"MoveDesk$Planner", "writeOne", "(I)V"⟩ ⟨"MoveDesk$Planner", "writeOne", "(I)V"⟩ : Cond) ∈ bw := ms 19 (by decide +kernel) rfl
theorem m_2 : (.initialized "java/lang/Math" : Cond) ∈ bw := mw 2 (by decide +kernel) rfl
theorem m_7 : (.initialized "MoveDesk$Planner" : Cond) ∈ bw := mw 7 (by decide +kernel) rfl
theorem m_31 : (.static ⟨"java/lang/Math", "max", "(II)I"⟩ : Cond) ∈ bw := mw 31 (by decide +kernel) rfl
theorem m_32 : (.code ⟨"java/lang/Math", "max", "(II)I"⟩ prog_15_method_65_code 2 (some .int) : Cond) ∈ bw := mw 32 (by decide +kernel) rfl
theorem m_186 : (.fieldLink "MoveDesk$Planner" 40 "MoveDesk$Planner" "code" "LMoveDesk$Code;" : Cond) ∈ bw := mw 186 (by decide +kernel) rfl
theorem m_187 : (.fieldLink "MoveDesk$Planner" 44 "MoveDesk$Planner" "operations" "LMoveDesk$Operations;" : Cond) ∈ bw := mw 187 (by decide +kernel) rfl
theorem m_188 : (.fieldLink "MoveDesk$Planner" 48 "MoveDesk$Planner" "latency" "[I" : Cond) ∈ bw := mw 188 (by decide +kernel) rfl
theorem m_189 : (.fieldLink "MoveDesk$Planner" 9 "MoveDesk$Planner" "busesUsed" "[I" : Cond) ∈ bw := mw 189 (by decide +kernel) rfl
theorem m_190 : (.fieldLink "MoveDesk$Planner" 15 "MoveDesk$Planner" "registersRead" "[I" : Cond) ∈ bw := mw 190 (by decide +kernel) rfl
theorem m_191 : (.fieldLink "MoveDesk$Planner" 18 "MoveDesk$Planner" "hasResultMove" "[Z" : Cond) ∈ bw := mw 191 (by decide +kernel) rfl
theorem m_192 : (.fieldLink "MoveDesk$Planner" 22 "MoveDesk$Planner" "latestWrite" "[I" : Cond) ∈ bw := mw 192 (by decide +kernel) rfl
theorem m_193 : (.fieldLink "MoveDesk$Planner" 25 "MoveDesk$Planner" "latestRead" "[I" : Cond) ∈ bw := mw 193 (by decide +kernel) rfl
theorem m_194 : (.fieldLink "MoveDesk$Planner" 28 "MoveDesk$Planner" "latestTrigger" "[I" : Cond) ∈ bw := mw 194 (by decide +kernel) rfl
theorem m_195 : (.fieldLink "MoveDesk$Planner" 31 "MoveDesk$Planner" "latestResultMove" "[I" : Cond) ∈ bw := mw 195 (by decide +kernel) rfl
theorem m_196 : (.fieldLink "MoveDesk$Planner" 34 "MoveDesk$Planner" "triggerCycles" "[I" : Cond) ∈ bw := mw 196 (by decide +kernel) rfl
theorem m_197 : (.fieldLink "MoveDesk$Planner" 37 "MoveDesk$Planner" "resultCycles" "[I" : Cond) ∈ bw := mw 197 (by decide +kernel) rfl
theorem m_326 : (.instanceMethod ⟨"MoveDesk$Code", "erase", "()V"⟩ : Cond) ∈ bw := mw 326 (by decide +kernel) rfl
theorem m_327 : (.selects "MoveDesk$Code" ⟨"MoveDesk$Code", "erase", "()V"⟩ ⟨"MoveDesk$Code", "erase", "()V"⟩ : Cond) ∈ bw := mw 327 (by decide +kernel) rfl
theorem m_328 : (.code ⟨"MoveDesk$Code", "erase", "()V"⟩ prog_3_method_7_code 2 none : Cond) ∈ bw := mw 328 (by decide +kernel) rfl
theorem m_568 : (.instanceMethod ⟨"MoveDesk$Operations", "count", "()I"⟩ : Cond) ∈ bw := mw 568 (by decide +kernel) rfl
theorem m_569 : (.selects "MoveDesk$Operations" ⟨"MoveDesk$Operations", "count", "()I"⟩ ⟨"MoveDesk$Operations", "count", "()I"⟩ : Cond) ∈ bw := mw 569 (by decide +kernel) rfl
theorem m_570 : (.code ⟨"MoveDesk$Operations", "count", "()I"⟩ prog_6_method_3_code 1 (some .int) : Cond) ∈ bw := mw 570 (by decide +kernel) rfl
theorem m_602 : (.methodLink "MoveDesk$Planner" 51 ⟨"MoveDesk$Planner", "start", "()V"⟩ : Cond) ∈ bw := mw 602 (by decide +kernel) rfl
theorem m_604 : (.instanceMethod ⟨"MoveDesk$Planner", "start", "()V"⟩ : Cond) ∈ bw := mw 604 (by decide +kernel) rfl
theorem m_605 : (.code ⟨"MoveDesk$Planner", "start", "()V"⟩ prog_7_method_3_code 2 none : Cond) ∈ bw := mw 605 (by decide +kernel) rfl
theorem m_606 : (.methodLink "MoveDesk$Planner" 54 ⟨"MoveDesk$Operations", "count", "()I"⟩ : Cond) ∈ bw := mw 606 (by decide +kernel) rfl
theorem m_607 : (.methodLink "MoveDesk$Planner" 60 ⟨"MoveDesk$Planner", "planOne", "(I)I"⟩ : Cond) ∈ bw := mw 607 (by decide +kernel) rfl
theorem m_609 : (.instanceMethod ⟨"MoveDesk$Planner", "planOne", "(I)I"⟩ : Cond) ∈ bw := mw 609 (by decide +kernel) rfl
theorem m_610 : (.code ⟨"MoveDesk$Planner", "planOne", "(I)I"⟩ prog_7_method_4_code 4 (some .int) : Cond) ∈ bw := mw 610 (by decide +kernel) rfl
theorem m_611 : (.methodLink "MoveDesk$Planner" 70 ⟨"MoveDesk$Planner", "triggerCycle", "(I)I"⟩ : Cond) ∈ bw := mw 611 (by decide +kernel) rfl
theorem m_613 : (.instanceMethod ⟨"MoveDesk$Planner", "triggerCycle", "(I)I"⟩ : Cond) ∈ bw := mw 613 (by decide +kernel) rfl
theorem m_614 : (.code ⟨"MoveDesk$Planner", "triggerCycle", "(I)I"⟩ prog_7_method_5_code 5 (some .int) : Cond) ∈ bw := mw 614 (by decide +kernel) rfl
theorem m_615 : (.methodLink "MoveDesk$Planner" 87 ⟨"MoveDesk$Operations", "registersRead", "(I)I"⟩ : Cond) ∈ bw := mw 615 (by decide +kernel) rfl
theorem m_616 : (.instanceMethod ⟨"MoveDesk$Operations", "registersRead", "(I)I"⟩ : Cond) ∈ bw := mw 616 (by decide +kernel) rfl
theorem m_617 : (.selects "MoveDesk$Operations" ⟨"MoveDesk$Operations", "registersRead", "(I)I"⟩ ⟨"MoveDesk$Operations", "registersRead", "(I)I"⟩ : Cond) ∈ bw := mw 617 (by decide +kernel) rfl
theorem m_618 : (.code ⟨"MoveDesk$Operations", "registersRead", "(I)I"⟩ prog_6_method_14_code 2 (some .int) : Cond) ∈ bw := mw 618 (by decide +kernel) rfl
theorem m_637 : (.methodLink "MoveDesk$Planner" 95 ⟨"MoveDesk$Operations", "isLoad", "(I)Z"⟩ : Cond) ∈ bw := mw 637 (by decide +kernel) rfl
theorem m_638 : (.methodLink "MoveDesk$Planner" 98 ⟨"MoveDesk$Planner", "earliestTrigger", "(II)I"⟩ : Cond) ∈ bw := mw 638 (by decide +kernel) rfl
theorem m_640 : (.instanceMethod ⟨"MoveDesk$Planner", "earliestTrigger", "(II)I"⟩ : Cond) ∈ bw := mw 640 (by decide +kernel) rfl
theorem m_641 : (.code ⟨"MoveDesk$Planner", "earliestTrigger", "(II)I"⟩ prog_7_method_6_code 6 (some .int) : Cond) ∈ bw := mw 641 (by decide +kernel) rfl
theorem m_642 : (.methodLink "MoveDesk$Planner" 106 ⟨"MoveDesk$Operations", "unit", "(I)I"⟩ : Cond) ∈ bw := mw 642 (by decide +kernel) rfl
theorem m_643 : (.instanceMethod ⟨"MoveDesk$Operations", "unit", "(I)I"⟩ : Cond) ∈ bw := mw 643 (by decide +kernel) rfl
theorem m_644 : (.selects "MoveDesk$Operations" ⟨"MoveDesk$Operations", "unit", "(I)I"⟩ ⟨"MoveDesk$Operations", "unit", "(I)I"⟩ : Cond) ∈ bw := mw 644 (by decide +kernel) rfl
theorem m_645 : (.code ⟨"MoveDesk$Operations", "unit", "(I)I"⟩ prog_6_method_6_code 2 (some .int) : Cond) ∈ bw := mw 645 (by decide +kernel) rfl
theorem m_646 : (.methodLink "MoveDesk$Planner" 64 ⟨"java/lang/Math", "max", "(II)I"⟩ : Cond) ∈ bw := mw 646 (by decide +kernel) rfl
theorem m_647 : (.methodLink "MoveDesk$Planner" 77 ⟨"MoveDesk$Operations", "isStore", "(I)Z"⟩ : Cond) ∈ bw := mw 647 (by decide +kernel) rfl
theorem m_648 : (.instanceMethod ⟨"MoveDesk$Operations", "isStore", "(I)Z"⟩ : Cond) ∈ bw := mw 648 (by decide +kernel) rfl
theorem m_649 : (.selects "MoveDesk$Operations" ⟨"MoveDesk$Operations", "isStore", "(I)Z"⟩ ⟨"MoveDesk$Operations", "isStore", "(I)Z"⟩ : Cond) ∈ bw := mw 649 (by decide +kernel) rfl
theorem m_650 : (.code ⟨"MoveDesk$Operations", "isStore", "(I)Z"⟩ prog_6_method_9_code 2 (some .boolean) : Cond) ∈ bw := mw 650 (by decide +kernel) rfl
theorem m_651 : (.methodLink "MoveDesk$Planner" 101 ⟨"java/lang/Integer", "bitCount", "(I)I"⟩ : Cond) ∈ bw := mw 651 (by decide +kernel) rfl
theorem m_652 : (.methodLink "MoveDesk$Planner" 73 ⟨"MoveDesk$Planner", "noteTrigger", "(II)V"⟩ : Cond) ∈ bw := mw 652 (by decide +kernel) rfl
theorem m_654 : (.instanceMethod ⟨"MoveDesk$Planner", "noteTrigger", "(II)V"⟩ : Cond) ∈ bw := mw 654 (by decide +kernel) rfl
theorem m_655 : (.code ⟨"MoveDesk$Planner", "noteTrigger", "(II)V"⟩ prog_7_method_8_code 5 none : Cond) ∈ bw := mw 655 (by decide +kernel) rfl
theorem m_656 : (.methodLink "MoveDesk$Planner" 81 ⟨"MoveDesk$Planner", "resultCycle", "(II)I"⟩ : Cond) ∈ bw := mw 656 (by decide +kernel) rfl
theorem m_658 : (.instanceMethod ⟨"MoveDesk$Planner", "resultCycle", "(II)I"⟩ : Cond) ∈ bw := mw 658 (by decide +kernel) rfl
theorem m_659 : (.code ⟨"MoveDesk$Planner", "resultCycle", "(II)I"⟩ prog_7_method_7_code 6 (some .int) : Cond) ∈ bw := mw 659 (by decide +kernel) rfl
theorem m_660 : (.methodLink "MoveDesk$Planner" 109 ⟨"MoveDesk$Operations", "target", "(I)I"⟩ : Cond) ∈ bw := mw 660 (by decide +kernel) rfl
theorem m_661 : (.instanceMethod ⟨"MoveDesk$Operations", "target", "(I)I"⟩ : Cond) ∈ bw := mw 661 (by decide +kernel) rfl
theorem m_662 : (.selects "MoveDesk$Operations" ⟨"MoveDesk$Operations", "target", "(I)I"⟩ ⟨"MoveDesk$Operations", "target", "(I)I"⟩ : Cond) ∈ bw := mw 662 (by decide +kernel) rfl
theorem m_663 : (.code ⟨"MoveDesk$Operations", "target", "(I)I"⟩ prog_6_method_10_code 2 (some .int) : Cond) ∈ bw := mw 663 (by decide +kernel) rfl
theorem m_664 : (.methodLink "MoveDesk$Planner" 84 ⟨"MoveDesk$Planner", "noteResult", "(II)V"⟩ : Cond) ∈ bw := mw 664 (by decide +kernel) rfl
theorem m_666 : (.instanceMethod ⟨"MoveDesk$Planner", "noteResult", "(II)V"⟩ : Cond) ∈ bw := mw 666 (by decide +kernel) rfl
theorem m_667 : (.code ⟨"MoveDesk$Planner", "noteResult", "(II)V"⟩ prog_7_method_9_code 3 none : Cond) ∈ bw := mw 667 (by decide +kernel) rfl
theorem m_687 : (.methodLink "MoveDesk$Planner" 112 ⟨"MoveDesk$Code", "erase", "()V"⟩ : Cond) ∈ bw := mw 687 (by decide +kernel) rfl
theorem m_688 : (.methodLink "MoveDesk$Planner" 115 ⟨"MoveDesk$Planner", "writeOne", "(I)V"⟩ : Cond) ∈ bw := mw 688 (by decide +kernel) rfl
theorem m_690 : (.instanceMethod ⟨"MoveDesk$Planner", "writeOne", "(I)V"⟩ : Cond) ∈ bw := mw 690 (by decide +kernel) rfl
theorem m_691 : (.code ⟨"MoveDesk$Planner", "writeOne", "(I)V"⟩ prog_7_method_11_code 6 none : Cond) ∈ bw := mw 691 (by decide +kernel) rfl
theorem m_692 : (.methodLink "MoveDesk$Planner" 123 ⟨"MoveDesk$Operations", "firstSource", "(I)I"⟩ : Cond) ∈ bw := mw 692 (by decide +kernel) rfl
theorem m_693 : (.methodLink "MoveDesk$Planner" 126 ⟨"MoveDesk$Operations", "triggerSource", "(I)I"⟩ : Cond) ∈ bw := mw 693 (by decide +kernel) rfl
theorem m_694 : (.methodLink "MoveDesk$Planner" 129 ⟨"MoveDesk$Operations", "constantFor", "(II)I"⟩ : Cond) ∈ bw := mw 694 (by decide +kernel) rfl
theorem m_695 : (.instanceMethod ⟨"MoveDesk$Operations", "constantFor", "(II)I"⟩ : Cond) ∈ bw := mw 695 (by decide +kernel) rfl
theorem m_696 : (.selects "MoveDesk$Operations" ⟨"MoveDesk$Operations", "constantFor", "(II)I"⟩ ⟨"MoveDesk$Operations", "constantFor", "(II)I"⟩ : Cond) ∈ bw := mw 696 (by decide +kernel) rfl
theorem m_697 : (.code ⟨"MoveDesk$Operations", "constantFor", "(II)I"⟩ prog_6_method_13_code 3 (some .int) : Cond) ∈ bw := mw 697 (by decide +kernel) rfl
theorem m_698 : (.methodLink "MoveDesk$Planner" 119 ⟨"MoveDesk$Code", "putOnLowestBus", "(IIII)V"⟩ : Cond) ∈ bw := mw 698 (by decide +kernel) rfl
theorem m_699 : (.instanceMethod ⟨"MoveDesk$Code", "putOnLowestBus", "(IIII)V"⟩ : Cond) ∈ bw := mw 699 (by decide +kernel) rfl
theorem m_700 : (.selects "MoveDesk$Code" ⟨"MoveDesk$Code", "putOnLowestBus", "(IIII)V"⟩ ⟨"MoveDesk$Code", "putOnLowestBus", "(IIII)V"⟩ : Cond) ∈ bw := mw 700 (by decide +kernel) rfl
theorem m_701 : (.code ⟨"MoveDesk$Code", "putOnLowestBus", "(IIII)V"⟩ prog_3_method_5_code 6 none : Cond) ∈ bw := mw 701 (by decide +kernel) rfl
theorem m_703 : (.methodLink "MoveDesk$Planner" 132 ⟨"MoveDesk$Operations", "trigger", "(I)I"⟩ : Cond) ∈ bw := mw 703 (by decide +kernel) rfl
theorem m_704 : (.instanceMethod ⟨"MoveDesk$Operations", "trigger", "(I)I"⟩ : Cond) ∈ bw := mw 704 (by decide +kernel) rfl
theorem m_705 : (.selects "MoveDesk$Operations" ⟨"MoveDesk$Operations", "trigger", "(I)I"⟩ ⟨"MoveDesk$Operations", "trigger", "(I)I"⟩ : Cond) ∈ bw := mw 705 (by decide +kernel) rfl
theorem m_706 : (.code ⟨"MoveDesk$Operations", "trigger", "(I)I"⟩ prog_6_method_7_code 2 (some .int) : Cond) ∈ bw := mw 706 (by decide +kernel) rfl
abbrev w_pl_8_5e8 (g : GT) (a_lat : Nat) (a_co : Nat) (a_op : Nat) (a_pl : Nat) (a_bs : Nat) (a_rr : Nat) (a_hr : Nat) (a_lw : Nat) (a_lr : Nat) (a_lt : Nat) (a_lm : Nat) (a_tc : Nat) (a_rc : Nat) (r_bs : Nat → Int32) (r_rr : Nat → Int32) (r_hr : Nat → Int32) (r_lw : Nat → Int32) (r_lr : Nat → Int32) (r_lt : Nat → Int32) (r_lm : Nat → Int32) : va_W := [kO a_pl 5 [.ref a_co, .ref a_op, .ref a_lat, .ref a_bs, .ref a_rr, .ref a_hr, .ref a_lw, .ref a_lr, .ref a_lt, .ref a_lm, .ref a_tc, .ref a_rc], kI g a_bs 64 r_bs, kI g a_rr 64 r_rr, kZ g a_hr 64 r_hr, kI g a_lw 8 r_lw, kI g a_lr 8 r_lr, kI g a_lt 3 r_lt, kI g a_lm 3 r_lm]
abbrev b_Pl_start : ByteArray := prog_7_method_3_code
abbrev y_Pl_start : MethodName := ⟨"MoveDesk$Planner", "start", "()V"⟩
theorem hd_Pl_start : y_Pl_start.cls = "MoveDesk$Planner" ∧ y_Pl_start.cls ≠ "java/lang/invoke/MethodHandle" ∧ y_Pl_start.cls ≠ "java/lang/invoke/VarHandle" ∧ (parseMethodDescriptor y_Pl_start.desc).map (fun d => d.parameters.length) = some 0 := by decide +kernel
theorem d_Pl_start_0 : decode b_Pl_start 0 = .ok (.iconst 0, 1) := by decide +kernel
theorem d_Pl_start_1 : decode b_Pl_start 1 = .ok (.istore_n 1, 1) := by decide +kernel
theorem d_Pl_start_2 : decode b_Pl_start 2 = .ok (.iload_n 1, 1) := by decide +kernel
theorem d_Pl_start_3 : decode b_Pl_start 3 = .ok (.bipush 64, 2) := by decide +kernel
theorem d_Pl_start_5 : decode b_Pl_start 5 = .ok (.if_icmp .ge 30, 3) := by decide +kernel
theorem d_Pl_start_8 : decode b_Pl_start 8 = .ok (.aload_n 0, 1) := by decide +kernel
theorem d_Pl_start_9 : decode b_Pl_start 9 = .ok (.getfield 9, 3) := by decide +kernel
theorem d_Pl_start_12 : decode b_Pl_start 12 = .ok (.iload_n 1, 1) := by decide +kernel
theorem d_Pl_start_13 : decode b_Pl_start 13 = .ok (.iconst 0, 1) := by decide +kernel
theorem d_Pl_start_14 : decode b_Pl_start 14 = .ok (.iastore, 1) := by decide +kernel
theorem d_Pl_start_15 : decode b_Pl_start 15 = .ok (.aload_n 0, 1) := by decide +kernel
theorem d_Pl_start_16 : decode b_Pl_start 16 = .ok (.getfield 15, 3) := by decide +kernel
theorem d_Pl_start_19 : decode b_Pl_start 19 = .ok (.iload_n 1, 1) := by decide +kernel
theorem d_Pl_start_20 : decode b_Pl_start 20 = .ok (.iconst 0, 1) := by decide +kernel
theorem d_Pl_start_21 : decode b_Pl_start 21 = .ok (.iastore, 1) := by decide +kernel
theorem d_Pl_start_22 : decode b_Pl_start 22 = .ok (.aload_n 0, 1) := by decide +kernel
theorem d_Pl_start_23 : decode b_Pl_start 23 = .ok (.getfield 18, 3) := by decide +kernel
theorem d_Pl_start_26 : decode b_Pl_start 26 = .ok (.iload_n 1, 1) := by decide +kernel
theorem d_Pl_start_27 : decode b_Pl_start 27 = .ok (.iconst 0, 1) := by decide +kernel
theorem d_Pl_start_28 : decode b_Pl_start 28 = .ok (.bastore, 1) := by decide +kernel
theorem d_Pl_start_29 : decode b_Pl_start 29 = .ok (.iinc 1 1, 3) := by decide +kernel
theorem d_Pl_start_32 : decode b_Pl_start 32 = .ok (.goto (-30), 3) := by decide +kernel
theorem d_Pl_start_35 : decode b_Pl_start 35 = .ok (.iconst 0, 1) := by decide +kernel
theorem d_Pl_start_36 : decode b_Pl_start 36 = .ok (.istore_n 1, 1) := by decide +kernel
theorem d_Pl_start_37 : decode b_Pl_start 37 = .ok (.iload_n 1, 1) := by decide +kernel
theorem d_Pl_start_38 : decode b_Pl_start 38 = .ok (.bipush 8, 2) := by decide +kernel
theorem d_Pl_start_40 : decode b_Pl_start 40 = .ok (.if_icmp .ge 23, 3) := by decide +kernel
theorem d_Pl_start_43 : decode b_Pl_start 43 = .ok (.aload_n 0, 1) := by decide +kernel
theorem d_Pl_start_44 : decode b_Pl_start 44 = .ok (.getfield 22, 3) := by decide +kernel
theorem d_Pl_start_47 : decode b_Pl_start 47 = .ok (.iload_n 1, 1) := by decide +kernel
theorem d_Pl_start_48 : decode b_Pl_start 48 = .ok (.iconst (-1), 1) := by decide +kernel
theorem d_Pl_start_49 : decode b_Pl_start 49 = .ok (.iastore, 1) := by decide +kernel
theorem d_Pl_start_50 : decode b_Pl_start 50 = .ok (.aload_n 0, 1) := by decide +kernel
theorem d_Pl_start_51 : decode b_Pl_start 51 = .ok (.getfield 25, 3) := by decide +kernel
theorem d_Pl_start_54 : decode b_Pl_start 54 = .ok (.iload_n 1, 1) := by decide +kernel
theorem d_Pl_start_55 : decode b_Pl_start 55 = .ok (.iconst (-1), 1) := by decide +kernel
theorem d_Pl_start_56 : decode b_Pl_start 56 = .ok (.iastore, 1) := by decide +kernel
theorem d_Pl_start_57 : decode b_Pl_start 57 = .ok (.iinc 1 1, 3) := by decide +kernel
theorem d_Pl_start_60 : decode b_Pl_start 60 = .ok (.goto (-23), 3) := by decide +kernel
theorem d_Pl_start_63 : decode b_Pl_start 63 = .ok (.iconst 0, 1) := by decide +kernel
theorem d_Pl_start_64 : decode b_Pl_start 64 = .ok (.istore_n 1, 1) := by decide +kernel
theorem d_Pl_start_65 : decode b_Pl_start 65 = .ok (.iload_n 1, 1) := by decide +kernel
theorem d_Pl_start_66 : decode b_Pl_start 66 = .ok (.iconst 3, 1) := by decide +kernel
theorem d_Pl_start_67 : decode b_Pl_start 67 = .ok (.if_icmp .ge 23, 3) := by decide +kernel
theorem d_Pl_start_70 : decode b_Pl_start 70 = .ok (.aload_n 0, 1) := by decide +kernel
theorem d_Pl_start_71 : decode b_Pl_start 71 = .ok (.getfield 28, 3) := by decide +kernel
theorem d_Pl_start_74 : decode b_Pl_start 74 = .ok (.iload_n 1, 1) := by decide +kernel
theorem d_Pl_start_75 : decode b_Pl_start 75 = .ok (.iconst (-1), 1) := by decide +kernel
theorem d_Pl_start_76 : decode b_Pl_start 76 = .ok (.iastore, 1) := by decide +kernel
theorem d_Pl_start_77 : decode b_Pl_start 77 = .ok (.aload_n 0, 1) := by decide +kernel
theorem d_Pl_start_78 : decode b_Pl_start 78 = .ok (.getfield 31, 3) := by decide +kernel
theorem d_Pl_start_81 : decode b_Pl_start 81 = .ok (.iload_n 1, 1) := by decide +kernel
theorem d_Pl_start_82 : decode b_Pl_start 82 = .ok (.iconst (-1), 1) := by decide +kernel
theorem d_Pl_start_83 : decode b_Pl_start 83 = .ok (.iastore, 1) := by decide +kernel
theorem d_Pl_start_84 : decode b_Pl_start 84 = .ok (.iinc 1 1, 3) := by decide +kernel
theorem d_Pl_start_87 : decode b_Pl_start 87 = .ok (.goto (-22), 3) := by decide +kernel
theorem d_Pl_start_90 : decode b_Pl_start 90 = .ok (.return_, 1) := by decide +kernel
abbrev w_lat_7_2bed (g : GT) (a_lat : Nat) (a_co : Nat) (a_op : Nat) (a_ki : Nat) (a_tg : Nat) (a_fi : Nat) (a_se : Nat) (a_oc : Nat) (a_cp : Nat) (a_pl : Nat) (a_bs : Nat) (a_rr : Nat) (a_hr : Nat) (a_lw : Nat) (a_lr : Nat) (a_lt : Nat) (a_lm : Nat) (a_tc : Nat) (a_rc : Nat) (r_lat : Nat → Int32) (r_op : Nat → Int32) (r_ki : Nat → Int32) (r_lw : Nat → Int32) (r_lt : Nat → Int32) (r_lm : Nat → Int32) : va_W := [kI g a_lat 3 r_lat, kO a_op 4 [.ref a_ki, .ref a_tg, .ref a_fi, .ref a_se, .ref a_oc, .ref a_cp, .int (r_op 6)], kI g a_ki 20 r_ki, kO a_pl 5 [.ref a_co, .ref a_op, .ref a_lat, .ref a_bs, .ref a_rr, .ref a_hr, .ref a_lw, .ref a_lr, .ref a_lt, .ref a_lm, .ref a_tc, .ref a_rc], kI g a_lw 8 r_lw, kI g a_lt 3 r_lt, kI g a_lm 3 r_lm]
abbrev b_Pl_earliestTrigger : ByteArray := prog_7_method_6_code
abbrev y_Pl_earliestTrigger : MethodName := ⟨"MoveDesk$Planner", "earliestTrigger", "(II)I"⟩
theorem hd_Pl_earliestTrigger : y_Pl_earliestTrigger.cls = "MoveDesk$Planner" ∧ y_Pl_earliestTrigger.cls ≠ "java/lang/invoke/MethodHandle" ∧ y_Pl_earliestTrigger.cls ≠ "java/lang/invoke/VarHandle" ∧ (parseMethodDescriptor y_Pl_earliestTrigger.desc).map (fun d => d.parameters.length) = some 2 := by decide +kernel
theorem d_Pl_earliestTrigger_0 : decode b_Pl_earliestTrigger 0 = .ok (.aload_n 0, 1) := by decide +kernel
theorem d_Pl_earliestTrigger_1 : decode b_Pl_earliestTrigger 1 = .ok (.getfield 44, 3) := by decide +kernel
theorem d_Pl_earliestTrigger_4 : decode b_Pl_earliestTrigger 4 = .ok (.iload_n 1, 1) := by decide +kernel
theorem d_Pl_earliestTrigger_5 : decode b_Pl_earliestTrigger 5 = .ok (.invokevirtual 106, 3) := by decide +kernel
theorem d_Pl_earliestTrigger_8 : decode b_Pl_earliestTrigger 8 = .ok (.istore_n 3, 1) := by decide +kernel
theorem d_Pl_earliestTrigger_9 : decode b_Pl_earliestTrigger 9 = .ok (.aload_n 0, 1) := by decide +kernel
theorem d_Pl_earliestTrigger_10 : decode b_Pl_earliestTrigger 10 = .ok (.getfield 28, 3) := by decide +kernel
theorem d_Pl_earliestTrigger_13 : decode b_Pl_earliestTrigger 13 = .ok (.iload_n 3, 1) := by decide +kernel
theorem d_Pl_earliestTrigger_14 : decode b_Pl_earliestTrigger 14 = .ok (.iaload, 1) := by decide +kernel
theorem d_Pl_earliestTrigger_15 : decode b_Pl_earliestTrigger 15 = .ok (.iconst 1, 1) := by decide +kernel
theorem d_Pl_earliestTrigger_16 : decode b_Pl_earliestTrigger 16 = .ok (.iadd, 1) := by decide +kernel
theorem d_Pl_earliestTrigger_17 : decode b_Pl_earliestTrigger 17 = .ok (.istore 4, 2) := by decide +kernel
theorem d_Pl_earliestTrigger_19 : decode b_Pl_earliestTrigger 19 = .ok (.iconst 0, 1) := by decide +kernel
theorem d_Pl_earliestTrigger_20 : decode b_Pl_earliestTrigger 20 = .ok (.istore 5, 2) := by decide +kernel
theorem d_Pl_earliestTrigger_22 : decode b_Pl_earliestTrigger 22 = .ok (.iload 5, 2) := by decide +kernel
theorem d_Pl_earliestTrigger_24 : decode b_Pl_earliestTrigger 24 = .ok (.bipush 8, 2) := by decide +kernel
theorem d_Pl_earliestTrigger_26 : decode b_Pl_earliestTrigger 26 = .ok (.if_icmp .ge 34, 3) := by decide +kernel
theorem d_Pl_earliestTrigger_29 : decode b_Pl_earliestTrigger 29 = .ok (.iload_n 2, 1) := by decide +kernel
theorem d_Pl_earliestTrigger_30 : decode b_Pl_earliestTrigger 30 = .ok (.iload 5, 2) := by decide +kernel
theorem d_Pl_earliestTrigger_32 : decode b_Pl_earliestTrigger 32 = .ok (.ishr, 1) := by decide +kernel
theorem d_Pl_earliestTrigger_33 : decode b_Pl_earliestTrigger 33 = .ok (.iconst 1, 1) := by decide +kernel
theorem d_Pl_earliestTrigger_34 : decode b_Pl_earliestTrigger 34 = .ok (.iand, 1) := by decide +kernel
theorem d_Pl_earliestTrigger_35 : decode b_Pl_earliestTrigger 35 = .ok (.ifCond .eq 19, 3) := by decide +kernel
theorem d_Pl_earliestTrigger_38 : decode b_Pl_earliestTrigger 38 = .ok (.iload 4, 2) := by decide +kernel
theorem d_Pl_earliestTrigger_40 : decode b_Pl_earliestTrigger 40 = .ok (.aload_n 0, 1) := by decide +kernel
theorem d_Pl_earliestTrigger_41 : decode b_Pl_earliestTrigger 41 = .ok (.getfield 22, 3) := by decide +kernel
theorem d_Pl_earliestTrigger_44 : decode b_Pl_earliestTrigger 44 = .ok (.iload 5, 2) := by decide +kernel
theorem d_Pl_earliestTrigger_46 : decode b_Pl_earliestTrigger 46 = .ok (.iaload, 1) := by decide +kernel
theorem d_Pl_earliestTrigger_47 : decode b_Pl_earliestTrigger 47 = .ok (.iconst 1, 1) := by decide +kernel
theorem d_Pl_earliestTrigger_48 : decode b_Pl_earliestTrigger 48 = .ok (.iadd, 1) := by decide +kernel
theorem d_Pl_earliestTrigger_49 : decode b_Pl_earliestTrigger 49 = .ok (.invokestatic 64, 3) := by decide +kernel
theorem d_Pl_earliestTrigger_52 : decode b_Pl_earliestTrigger 52 = .ok (.istore 4, 2) := by decide +kernel
theorem d_Pl_earliestTrigger_54 : decode b_Pl_earliestTrigger 54 = .ok (.iinc 5 1, 3) := by decide +kernel
theorem d_Pl_earliestTrigger_57 : decode b_Pl_earliestTrigger 57 = .ok (.goto (-35), 3) := by decide +kernel
theorem d_Pl_earliestTrigger_60 : decode b_Pl_earliestTrigger 60 = .ok (.aload_n 0, 1) := by decide +kernel
theorem d_Pl_earliestTrigger_61 : decode b_Pl_earliestTrigger 61 = .ok (.getfield 44, 3) := by decide +kernel
theorem d_Pl_earliestTrigger_64 : decode b_Pl_earliestTrigger 64 = .ok (.iload_n 1, 1) := by decide +kernel
theorem d_Pl_earliestTrigger_65 : decode b_Pl_earliestTrigger 65 = .ok (.invokevirtual 77, 3) := by decide +kernel
theorem d_Pl_earliestTrigger_68 : decode b_Pl_earliestTrigger 68 = .ok (.ifCond .ne 25, 3) := by decide +kernel
theorem d_Pl_earliestTrigger_71 : decode b_Pl_earliestTrigger 71 = .ok (.iload 4, 2) := by decide +kernel
theorem d_Pl_earliestTrigger_73 : decode b_Pl_earliestTrigger 73 = .ok (.aload_n 0, 1) := by decide +kernel
theorem d_Pl_earliestTrigger_74 : decode b_Pl_earliestTrigger 74 = .ok (.getfield 31, 3) := by decide +kernel
theorem d_Pl_earliestTrigger_77 : decode b_Pl_earliestTrigger 77 = .ok (.iload_n 3, 1) := by decide +kernel
theorem d_Pl_earliestTrigger_78 : decode b_Pl_earliestTrigger 78 = .ok (.iaload, 1) := by decide +kernel
theorem d_Pl_earliestTrigger_79 : decode b_Pl_earliestTrigger 79 = .ok (.iconst 1, 1) := by decide +kernel
theorem d_Pl_earliestTrigger_80 : decode b_Pl_earliestTrigger 80 = .ok (.iadd, 1) := by decide +kernel
theorem d_Pl_earliestTrigger_81 : decode b_Pl_earliestTrigger 81 = .ok (.aload_n 0, 1) := by decide +kernel
theorem d_Pl_earliestTrigger_82 : decode b_Pl_earliestTrigger 82 = .ok (.getfield 48, 3) := by decide +kernel
theorem d_Pl_earliestTrigger_85 : decode b_Pl_earliestTrigger 85 = .ok (.iload_n 3, 1) := by decide +kernel
theorem d_Pl_earliestTrigger_86 : decode b_Pl_earliestTrigger 86 = .ok (.iaload, 1) := by decide +kernel
theorem d_Pl_earliestTrigger_87 : decode b_Pl_earliestTrigger 87 = .ok (.isub, 1) := by decide +kernel
theorem d_Pl_earliestTrigger_88 : decode b_Pl_earliestTrigger 88 = .ok (.invokestatic 64, 3) := by decide +kernel
theorem d_Pl_earliestTrigger_91 : decode b_Pl_earliestTrigger 91 = .ok (.istore 4, 2) := by decide +kernel
theorem d_Pl_earliestTrigger_93 : decode b_Pl_earliestTrigger 93 = .ok (.iload 4, 2) := by decide +kernel
theorem d_Pl_earliestTrigger_95 : decode b_Pl_earliestTrigger 95 = .ok (.ireturn, 1) := by decide +kernel
abbrev w_lat_12_a1ec (g : GT) (a_lat : Nat) (a_co : Nat) (a_ta : Nat) (a_gu : Nat) (a_so : Nat) (a_cn : Nat) (a_de : Nat) (a_op : Nat) (a_ki : Nat) (a_tg : Nat) (a_fi : Nat) (a_se : Nat) (a_oc : Nat) (a_cp : Nat) (a_pl : Nat) (a_bs : Nat) (a_rr : Nat) (a_hr : Nat) (a_lw : Nat) (a_lr : Nat) (a_lt : Nat) (a_lm : Nat) (a_tc : Nat) (a_rc : Nat) (r_lat : Nat → Int32) (r_co : Nat → Int32) (r_op : Nat → Int32) (r_ki : Nat → Int32) (r_fi : Nat → Int32) (r_se : Nat → Int32) (r_bs : Nat → Int32) (r_rr : Nat → Int32) (r_lw : Nat → Int32) (r_lt : Nat → Int32) (r_lm : Nat → Int32) : va_W := [kI g a_lat 3 r_lat, kO a_co 1 [.int (r_co 0), .ref a_ta, .ref a_gu, .ref a_so, .ref a_cn, .ref a_de], kO a_op 4 [.ref a_ki, .ref a_tg, .ref a_fi, .ref a_se, .ref a_oc, .ref a_cp, .int (r_op 6)], kI g a_ki 20 r_ki, kI g a_fi 20 r_fi, kI g a_se 20 r_se, kO a_pl 5 [.ref a_co, .ref a_op, .ref a_lat, .ref a_bs, .ref a_rr, .ref a_hr, .ref a_lw, .ref a_lr, .ref a_lt, .ref a_lm, .ref a_tc, .ref a_rc], kI g a_bs 64 r_bs, kI g a_rr 64 r_rr, kI g a_lw 8 r_lw, kI g a_lt 3 r_lt, kI g a_lm 3 r_lm]
abbrev b_Pl_triggerCycle : ByteArray := prog_7_method_5_code
abbrev y_Pl_triggerCycle : MethodName := ⟨"MoveDesk$Planner", "triggerCycle", "(I)I"⟩
theorem hd_Pl_triggerCycle : y_Pl_triggerCycle.cls = "MoveDesk$Planner" ∧ y_Pl_triggerCycle.cls ≠ "java/lang/invoke/MethodHandle" ∧ y_Pl_triggerCycle.cls ≠ "java/lang/invoke/VarHandle" ∧ (parseMethodDescriptor y_Pl_triggerCycle.desc).map (fun d => d.parameters.length) = some 1 := by decide +kernel
theorem d_Pl_triggerCycle_0 : decode b_Pl_triggerCycle 0 = .ok (.aload_n 0, 1) := by decide +kernel
theorem d_Pl_triggerCycle_1 : decode b_Pl_triggerCycle 1 = .ok (.getfield 44, 3) := by decide +kernel
theorem d_Pl_triggerCycle_4 : decode b_Pl_triggerCycle 4 = .ok (.iload_n 1, 1) := by decide +kernel
theorem d_Pl_triggerCycle_5 : decode b_Pl_triggerCycle 5 = .ok (.invokevirtual 87, 3) := by decide +kernel
theorem d_Pl_triggerCycle_8 : decode b_Pl_triggerCycle 8 = .ok (.istore_n 2, 1) := by decide +kernel
theorem d_Pl_triggerCycle_9 : decode b_Pl_triggerCycle 9 = .ok (.aload_n 0, 1) := by decide +kernel
theorem d_Pl_triggerCycle_10 : decode b_Pl_triggerCycle 10 = .ok (.getfield 40, 3) := by decide +kernel
theorem d_Pl_triggerCycle_13 : decode b_Pl_triggerCycle 13 = .ok (.getfield 89, 3) := by decide +kernel
theorem d_Pl_triggerCycle_16 : decode b_Pl_triggerCycle 16 = .ok (.aload_n 0, 1) := by decide +kernel
theorem d_Pl_triggerCycle_17 : decode b_Pl_triggerCycle 17 = .ok (.getfield 44, 3) := by decide +kernel
theorem d_Pl_triggerCycle_20 : decode b_Pl_triggerCycle 20 = .ok (.iload_n 1, 1) := by decide +kernel
theorem d_Pl_triggerCycle_21 : decode b_Pl_triggerCycle 21 = .ok (.invokevirtual 95, 3) := by decide +kernel
theorem d_Pl_triggerCycle_24 : decode b_Pl_triggerCycle 24 = .ok (.ifCond .eq 7, 3) := by decide +kernel
theorem d_Pl_triggerCycle_27 : decode b_Pl_triggerCycle 27 = .ok (.iconst 1, 1) := by decide +kernel
theorem d_Pl_triggerCycle_28 : decode b_Pl_triggerCycle 28 = .ok (.goto 4, 3) := by decide +kernel
theorem d_Pl_triggerCycle_31 : decode b_Pl_triggerCycle 31 = .ok (.iconst 2, 1) := by decide +kernel
theorem d_Pl_triggerCycle_32 : decode b_Pl_triggerCycle 32 = .ok (.isub, 1) := by decide +kernel
theorem d_Pl_triggerCycle_33 : decode b_Pl_triggerCycle 33 = .ok (.istore_n 3, 1) := by decide +kernel
theorem d_Pl_triggerCycle_34 : decode b_Pl_triggerCycle 34 = .ok (.aload_n 0, 1) := by decide +kernel
theorem d_Pl_triggerCycle_35 : decode b_Pl_triggerCycle 35 = .ok (.iload_n 1, 1) := by decide +kernel
theorem d_Pl_triggerCycle_36 : decode b_Pl_triggerCycle 36 = .ok (.iload_n 2, 1) := by decide +kernel
theorem d_Pl_triggerCycle_37 : decode b_Pl_triggerCycle 37 = .ok (.invokevirtual 98, 3) := by decide +kernel
theorem d_Pl_triggerCycle_40 : decode b_Pl_triggerCycle 40 = .ok (.istore 4, 2) := by decide +kernel
theorem d_Pl_triggerCycle_42 : decode b_Pl_triggerCycle 42 = .ok (.iload 4, 2) := by decide +kernel
theorem d_Pl_triggerCycle_44 : decode b_Pl_triggerCycle 44 = .ok (.bipush 63, 2) := by decide +kernel
theorem d_Pl_triggerCycle_46 : decode b_Pl_triggerCycle 46 = .ok (.if_icmp .gt 39, 3) := by decide +kernel
theorem d_Pl_triggerCycle_49 : decode b_Pl_triggerCycle 49 = .ok (.aload_n 0, 1) := by decide +kernel
theorem d_Pl_triggerCycle_50 : decode b_Pl_triggerCycle 50 = .ok (.getfield 9, 3) := by decide +kernel
theorem d_Pl_triggerCycle_53 : decode b_Pl_triggerCycle 53 = .ok (.iload 4, 2) := by decide +kernel
theorem d_Pl_triggerCycle_55 : decode b_Pl_triggerCycle 55 = .ok (.iaload, 1) := by decide +kernel
theorem d_Pl_triggerCycle_56 : decode b_Pl_triggerCycle 56 = .ok (.iload_n 3, 1) := by decide +kernel
theorem d_Pl_triggerCycle_57 : decode b_Pl_triggerCycle 57 = .ok (.if_icmp .gt 22, 3) := by decide +kernel
theorem d_Pl_triggerCycle_60 : decode b_Pl_triggerCycle 60 = .ok (.aload_n 0, 1) := by decide +kernel
theorem d_Pl_triggerCycle_61 : decode b_Pl_triggerCycle 61 = .ok (.getfield 15, 3) := by decide +kernel
theorem d_Pl_triggerCycle_64 : decode b_Pl_triggerCycle 64 = .ok (.iload 4, 2) := by decide +kernel
theorem d_Pl_triggerCycle_66 : decode b_Pl_triggerCycle 66 = .ok (.iaload, 1) := by decide +kernel
theorem d_Pl_triggerCycle_67 : decode b_Pl_triggerCycle 67 = .ok (.iload_n 2, 1) := by decide +kernel
theorem d_Pl_triggerCycle_68 : decode b_Pl_triggerCycle 68 = .ok (.ior, 1) := by decide +kernel
theorem d_Pl_triggerCycle_69 : decode b_Pl_triggerCycle 69 = .ok (.invokestatic 101, 3) := by decide +kernel
theorem d_Pl_triggerCycle_72 : decode b_Pl_triggerCycle 72 = .ok (.iconst 2, 1) := by decide +kernel
theorem d_Pl_triggerCycle_73 : decode b_Pl_triggerCycle 73 = .ok (.if_icmp .gt 6, 3) := by decide +kernel
theorem d_Pl_triggerCycle_76 : decode b_Pl_triggerCycle 76 = .ok (.iload 4, 2) := by decide +kernel
theorem d_Pl_triggerCycle_78 : decode b_Pl_triggerCycle 78 = .ok (.ireturn, 1) := by decide +kernel
theorem d_Pl_triggerCycle_79 : decode b_Pl_triggerCycle 79 = .ok (.iinc 4 1, 3) := by decide +kernel
theorem d_Pl_triggerCycle_82 : decode b_Pl_triggerCycle 82 = .ok (.goto (-40), 3) := by decide +kernel
theorem d_Pl_triggerCycle_85 : decode b_Pl_triggerCycle 85 = .ok (.iconst (-1), 1) := by decide +kernel
theorem d_Pl_triggerCycle_86 : decode b_Pl_triggerCycle 86 = .ok (.ireturn, 1) := by decide +kernel
abbrev w_op_10_671a (g : GT) (a_lat : Nat) (a_co : Nat) (a_op : Nat) (a_ki : Nat) (a_tg : Nat) (a_fi : Nat) (a_se : Nat) (a_oc : Nat) (a_cp : Nat) (a_pl : Nat) (a_bs : Nat) (a_rr : Nat) (a_hr : Nat) (a_lw : Nat) (a_lr : Nat) (a_lt : Nat) (a_lm : Nat) (a_tc : Nat) (a_rc : Nat) (r_op : Nat → Int32) (r_ki : Nat → Int32) (r_fi : Nat → Int32) (r_se : Nat → Int32) (r_bs : Nat → Int32) (r_rr : Nat → Int32) (r_lr : Nat → Int32) (r_lt : Nat → Int32) (r_tc : Nat → Int32) : va_W := [kO a_op 4 [.ref a_ki, .ref a_tg, .ref a_fi, .ref a_se, .ref a_oc, .ref a_cp, .int (r_op 6)], kI g a_ki 20 r_ki, kI g a_fi 20 r_fi, kI g a_se 20 r_se, kO a_pl 5 [.ref a_co, .ref a_op, .ref a_lat, .ref a_bs, .ref a_rr, .ref a_hr, .ref a_lw, .ref a_lr, .ref a_lt, .ref a_lm, .ref a_tc, .ref a_rc], kI g a_bs 64 r_bs, kI g a_rr 64 r_rr, kI g a_lr 8 r_lr, kI g a_lt 3 r_lt, kI g a_tc 20 r_tc]
abbrev b_Pl_noteTrigger : ByteArray := prog_7_method_8_code
abbrev y_Pl_noteTrigger : MethodName := ⟨"MoveDesk$Planner", "noteTrigger", "(II)V"⟩
theorem hd_Pl_noteTrigger : y_Pl_noteTrigger.cls = "MoveDesk$Planner" ∧ y_Pl_noteTrigger.cls ≠ "java/lang/invoke/MethodHandle" ∧ y_Pl_noteTrigger.cls ≠ "java/lang/invoke/VarHandle" ∧ (parseMethodDescriptor y_Pl_noteTrigger.desc).map (fun d => d.parameters.length) = some 2 := by decide +kernel
theorem d_Pl_noteTrigger_0 : decode b_Pl_noteTrigger 0 = .ok (.aload_n 0, 1) := by decide +kernel
theorem d_Pl_noteTrigger_1 : decode b_Pl_noteTrigger 1 = .ok (.getfield 44, 3) := by decide +kernel
theorem d_Pl_noteTrigger_4 : decode b_Pl_noteTrigger 4 = .ok (.iload_n 1, 1) := by decide +kernel
theorem d_Pl_noteTrigger_5 : decode b_Pl_noteTrigger 5 = .ok (.invokevirtual 87, 3) := by decide +kernel
theorem d_Pl_noteTrigger_8 : decode b_Pl_noteTrigger 8 = .ok (.istore_n 3, 1) := by decide +kernel
theorem d_Pl_noteTrigger_9 : decode b_Pl_noteTrigger 9 = .ok (.aload_n 0, 1) := by decide +kernel
theorem d_Pl_noteTrigger_10 : decode b_Pl_noteTrigger 10 = .ok (.getfield 34, 3) := by decide +kernel
theorem d_Pl_noteTrigger_13 : decode b_Pl_noteTrigger 13 = .ok (.iload_n 1, 1) := by decide +kernel
theorem d_Pl_noteTrigger_14 : decode b_Pl_noteTrigger 14 = .ok (.iload_n 2, 1) := by decide +kernel
theorem d_Pl_noteTrigger_15 : decode b_Pl_noteTrigger 15 = .ok (.iastore, 1) := by decide +kernel
theorem d_Pl_noteTrigger_16 : decode b_Pl_noteTrigger 16 = .ok (.aload_n 0, 1) := by decide +kernel
theorem d_Pl_noteTrigger_17 : decode b_Pl_noteTrigger 17 = .ok (.getfield 9, 3) := by decide +kernel
theorem d_Pl_noteTrigger_20 : decode b_Pl_noteTrigger 20 = .ok (.iload_n 2, 1) := by decide +kernel
theorem d_Pl_noteTrigger_21 : decode b_Pl_noteTrigger 21 = .ok (.dup2, 1) := by decide +kernel
theorem d_Pl_noteTrigger_22 : decode b_Pl_noteTrigger 22 = .ok (.iaload, 1) := by decide +kernel
theorem d_Pl_noteTrigger_23 : decode b_Pl_noteTrigger 23 = .ok (.aload_n 0, 1) := by decide +kernel
theorem d_Pl_noteTrigger_24 : decode b_Pl_noteTrigger 24 = .ok (.getfield 44, 3) := by decide +kernel
theorem d_Pl_noteTrigger_27 : decode b_Pl_noteTrigger 27 = .ok (.iload_n 1, 1) := by decide +kernel
theorem d_Pl_noteTrigger_28 : decode b_Pl_noteTrigger 28 = .ok (.invokevirtual 95, 3) := by decide +kernel
theorem d_Pl_noteTrigger_31 : decode b_Pl_noteTrigger 31 = .ok (.ifCond .eq 7, 3) := by decide +kernel
theorem d_Pl_noteTrigger_34 : decode b_Pl_noteTrigger 34 = .ok (.iconst 1, 1) := by decide +kernel
theorem d_Pl_noteTrigger_35 : decode b_Pl_noteTrigger 35 = .ok (.goto 4, 3) := by decide +kernel
theorem d_Pl_noteTrigger_38 : decode b_Pl_noteTrigger 38 = .ok (.iconst 2, 1) := by decide +kernel
theorem d_Pl_noteTrigger_39 : decode b_Pl_noteTrigger 39 = .ok (.iadd, 1) := by decide +kernel
theorem d_Pl_noteTrigger_40 : decode b_Pl_noteTrigger 40 = .ok (.iastore, 1) := by decide +kernel
theorem d_Pl_noteTrigger_41 : decode b_Pl_noteTrigger 41 = .ok (.aload_n 0, 1) := by decide +kernel
theorem d_Pl_noteTrigger_42 : decode b_Pl_noteTrigger 42 = .ok (.getfield 15, 3) := by decide +kernel
theorem d_Pl_noteTrigger_45 : decode b_Pl_noteTrigger 45 = .ok (.iload_n 2, 1) := by decide +kernel
theorem d_Pl_noteTrigger_46 : decode b_Pl_noteTrigger 46 = .ok (.dup2, 1) := by decide +kernel
theorem d_Pl_noteTrigger_47 : decode b_Pl_noteTrigger 47 = .ok (.iaload, 1) := by decide +kernel
theorem d_Pl_noteTrigger_48 : decode b_Pl_noteTrigger 48 = .ok (.iload_n 3, 1) := by decide +kernel
theorem d_Pl_noteTrigger_49 : decode b_Pl_noteTrigger 49 = .ok (.ior, 1) := by decide +kernel
theorem d_Pl_noteTrigger_50 : decode b_Pl_noteTrigger 50 = .ok (.iastore, 1) := by decide +kernel
theorem d_Pl_noteTrigger_51 : decode b_Pl_noteTrigger 51 = .ok (.aload_n 0, 1) := by decide +kernel
theorem d_Pl_noteTrigger_52 : decode b_Pl_noteTrigger 52 = .ok (.getfield 28, 3) := by decide +kernel
theorem d_Pl_noteTrigger_55 : decode b_Pl_noteTrigger 55 = .ok (.aload_n 0, 1) := by decide +kernel
theorem d_Pl_noteTrigger_56 : decode b_Pl_noteTrigger 56 = .ok (.getfield 44, 3) := by decide +kernel
theorem d_Pl_noteTrigger_59 : decode b_Pl_noteTrigger 59 = .ok (.iload_n 1, 1) := by decide +kernel
theorem d_Pl_noteTrigger_60 : decode b_Pl_noteTrigger 60 = .ok (.invokevirtual 106, 3) := by decide +kernel
theorem d_Pl_noteTrigger_63 : decode b_Pl_noteTrigger 63 = .ok (.iload_n 2, 1) := by decide +kernel
theorem d_Pl_noteTrigger_64 : decode b_Pl_noteTrigger 64 = .ok (.iastore, 1) := by decide +kernel
theorem d_Pl_noteTrigger_65 : decode b_Pl_noteTrigger 65 = .ok (.iconst 0, 1) := by decide +kernel
theorem d_Pl_noteTrigger_66 : decode b_Pl_noteTrigger 66 = .ok (.istore 4, 2) := by decide +kernel
theorem d_Pl_noteTrigger_68 : decode b_Pl_noteTrigger 68 = .ok (.iload 4, 2) := by decide +kernel
theorem d_Pl_noteTrigger_70 : decode b_Pl_noteTrigger 70 = .ok (.bipush 8, 2) := by decide +kernel
theorem d_Pl_noteTrigger_72 : decode b_Pl_noteTrigger 72 = .ok (.if_icmp .ge 36, 3) := by decide +kernel
theorem d_Pl_noteTrigger_75 : decode b_Pl_noteTrigger 75 = .ok (.iload_n 3, 1) := by decide +kernel
theorem d_Pl_noteTrigger_76 : decode b_Pl_noteTrigger 76 = .ok (.iload 4, 2) := by decide +kernel
theorem d_Pl_noteTrigger_78 : decode b_Pl_noteTrigger 78 = .ok (.ishr, 1) := by decide +kernel
theorem d_Pl_noteTrigger_79 : decode b_Pl_noteTrigger 79 = .ok (.iconst 1, 1) := by decide +kernel
theorem d_Pl_noteTrigger_80 : decode b_Pl_noteTrigger 80 = .ok (.iand, 1) := by decide +kernel
theorem d_Pl_noteTrigger_81 : decode b_Pl_noteTrigger 81 = .ok (.ifCond .eq 21, 3) := by decide +kernel
theorem d_Pl_noteTrigger_84 : decode b_Pl_noteTrigger 84 = .ok (.aload_n 0, 1) := by decide +kernel
theorem d_Pl_noteTrigger_85 : decode b_Pl_noteTrigger 85 = .ok (.getfield 25, 3) := by decide +kernel
theorem d_Pl_noteTrigger_88 : decode b_Pl_noteTrigger 88 = .ok (.iload 4, 2) := by decide +kernel
theorem d_Pl_noteTrigger_90 : decode b_Pl_noteTrigger 90 = .ok (.aload_n 0, 1) := by decide +kernel
theorem d_Pl_noteTrigger_91 : decode b_Pl_noteTrigger 91 = .ok (.getfield 25, 3) := by decide +kernel
theorem d_Pl_noteTrigger_94 : decode b_Pl_noteTrigger 94 = .ok (.iload 4, 2) := by decide +kernel
theorem d_Pl_noteTrigger_96 : decode b_Pl_noteTrigger 96 = .ok (.iaload, 1) := by decide +kernel
theorem d_Pl_noteTrigger_97 : decode b_Pl_noteTrigger 97 = .ok (.iload_n 2, 1) := by decide +kernel
theorem d_Pl_noteTrigger_98 : decode b_Pl_noteTrigger 98 = .ok (.invokestatic 64, 3) := by decide +kernel
theorem d_Pl_noteTrigger_101 : decode b_Pl_noteTrigger 101 = .ok (.iastore, 1) := by decide +kernel
theorem d_Pl_noteTrigger_102 : decode b_Pl_noteTrigger 102 = .ok (.iinc 4 1, 3) := by decide +kernel
theorem d_Pl_noteTrigger_105 : decode b_Pl_noteTrigger 105 = .ok (.goto (-37), 3) := by decide +kernel
theorem d_Pl_noteTrigger_108 : decode b_Pl_noteTrigger 108 = .ok (.return_, 1) := by decide +kernel
abbrev w_lat_10_318e (g : GT) (a_lat : Nat) (a_co : Nat) (a_ta : Nat) (a_gu : Nat) (a_so : Nat) (a_cn : Nat) (a_de : Nat) (a_op : Nat) (a_ki : Nat) (a_tg : Nat) (a_fi : Nat) (a_se : Nat) (a_oc : Nat) (a_cp : Nat) (a_pl : Nat) (a_bs : Nat) (a_rr : Nat) (a_hr : Nat) (a_lw : Nat) (a_lr : Nat) (a_lt : Nat) (a_lm : Nat) (a_tc : Nat) (a_rc : Nat) (r_lat : Nat → Int32) (r_co : Nat → Int32) (r_op : Nat → Int32) (r_ki : Nat → Int32) (r_tg : Nat → Int32) (r_bs : Nat → Int32) (r_hr : Nat → Int32) (r_lw : Nat → Int32) (r_lr : Nat → Int32) : va_W := [kI g a_lat 3 r_lat, kO a_co 1 [.int (r_co 0), .ref a_ta, .ref a_gu, .ref a_so, .ref a_cn, .ref a_de], kO a_op 4 [.ref a_ki, .ref a_tg, .ref a_fi, .ref a_se, .ref a_oc, .ref a_cp, .int (r_op 6)], kI g a_ki 20 r_ki, kI g a_tg 20 r_tg, kO a_pl 5 [.ref a_co, .ref a_op, .ref a_lat, .ref a_bs, .ref a_rr, .ref a_hr, .ref a_lw, .ref a_lr, .ref a_lt, .ref a_lm, .ref a_tc, .ref a_rc], kI g a_bs 64 r_bs, kZ g a_hr 64 r_hr, kI g a_lw 8 r_lw, kI g a_lr 8 r_lr]
abbrev b_Pl_resultCycle : ByteArray := prog_7_method_7_code
abbrev y_Pl_resultCycle : MethodName := ⟨"MoveDesk$Planner", "resultCycle", "(II)I"⟩
theorem hd_Pl_resultCycle : y_Pl_resultCycle.cls = "MoveDesk$Planner" ∧ y_Pl_resultCycle.cls ≠ "java/lang/invoke/MethodHandle" ∧ y_Pl_resultCycle.cls ≠ "java/lang/invoke/VarHandle" ∧ (parseMethodDescriptor y_Pl_resultCycle.desc).map (fun d => d.parameters.length) = some 2 := by decide +kernel
theorem d_Pl_resultCycle_0 : decode b_Pl_resultCycle 0 = .ok (.aload_n 0, 1) := by decide +kernel
theorem d_Pl_resultCycle_1 : decode b_Pl_resultCycle 1 = .ok (.getfield 44, 3) := by decide +kernel
theorem d_Pl_resultCycle_4 : decode b_Pl_resultCycle 4 = .ok (.iload_n 1, 1) := by decide +kernel
theorem d_Pl_resultCycle_5 : decode b_Pl_resultCycle 5 = .ok (.invokevirtual 109, 3) := by decide +kernel
theorem d_Pl_resultCycle_8 : decode b_Pl_resultCycle 8 = .ok (.istore_n 3, 1) := by decide +kernel
theorem d_Pl_resultCycle_9 : decode b_Pl_resultCycle 9 = .ok (.iload_n 2, 1) := by decide +kernel
theorem d_Pl_resultCycle_10 : decode b_Pl_resultCycle 10 = .ok (.aload_n 0, 1) := by decide +kernel
theorem d_Pl_resultCycle_11 : decode b_Pl_resultCycle 11 = .ok (.getfield 48, 3) := by decide +kernel
theorem d_Pl_resultCycle_14 : decode b_Pl_resultCycle 14 = .ok (.aload_n 0, 1) := by decide +kernel
theorem d_Pl_resultCycle_15 : decode b_Pl_resultCycle 15 = .ok (.getfield 44, 3) := by decide +kernel
theorem d_Pl_resultCycle_18 : decode b_Pl_resultCycle 18 = .ok (.iload_n 1, 1) := by decide +kernel
theorem d_Pl_resultCycle_19 : decode b_Pl_resultCycle 19 = .ok (.invokevirtual 106, 3) := by decide +kernel
theorem d_Pl_resultCycle_22 : decode b_Pl_resultCycle 22 = .ok (.iaload, 1) := by decide +kernel
theorem d_Pl_resultCycle_23 : decode b_Pl_resultCycle 23 = .ok (.iadd, 1) := by decide +kernel
theorem d_Pl_resultCycle_24 : decode b_Pl_resultCycle 24 = .ok (.aload_n 0, 1) := by decide +kernel
theorem d_Pl_resultCycle_25 : decode b_Pl_resultCycle 25 = .ok (.getfield 22, 3) := by decide +kernel
theorem d_Pl_resultCycle_28 : decode b_Pl_resultCycle 28 = .ok (.iload_n 3, 1) := by decide +kernel
theorem d_Pl_resultCycle_29 : decode b_Pl_resultCycle 29 = .ok (.iaload, 1) := by decide +kernel
theorem d_Pl_resultCycle_30 : decode b_Pl_resultCycle 30 = .ok (.iconst 1, 1) := by decide +kernel
theorem d_Pl_resultCycle_31 : decode b_Pl_resultCycle 31 = .ok (.iadd, 1) := by decide +kernel
theorem d_Pl_resultCycle_32 : decode b_Pl_resultCycle 32 = .ok (.aload_n 0, 1) := by decide +kernel
theorem d_Pl_resultCycle_33 : decode b_Pl_resultCycle 33 = .ok (.getfield 25, 3) := by decide +kernel
theorem d_Pl_resultCycle_36 : decode b_Pl_resultCycle 36 = .ok (.iload_n 3, 1) := by decide +kernel
theorem d_Pl_resultCycle_37 : decode b_Pl_resultCycle 37 = .ok (.iaload, 1) := by decide +kernel
theorem d_Pl_resultCycle_38 : decode b_Pl_resultCycle 38 = .ok (.invokestatic 64, 3) := by decide +kernel
theorem d_Pl_resultCycle_41 : decode b_Pl_resultCycle 41 = .ok (.invokestatic 64, 3) := by decide +kernel
theorem d_Pl_resultCycle_44 : decode b_Pl_resultCycle 44 = .ok (.istore 4, 2) := by decide +kernel
theorem d_Pl_resultCycle_46 : decode b_Pl_resultCycle 46 = .ok (.iload 4, 2) := by decide +kernel
theorem d_Pl_resultCycle_48 : decode b_Pl_resultCycle 48 = .ok (.istore 5, 2) := by decide +kernel
theorem d_Pl_resultCycle_50 : decode b_Pl_resultCycle 50 = .ok (.iload 5, 2) := by decide +kernel
theorem d_Pl_resultCycle_52 : decode b_Pl_resultCycle 52 = .ok (.bipush 63, 2) := by decide +kernel
theorem d_Pl_resultCycle_54 : decode b_Pl_resultCycle 54 = .ok (.if_icmp .gt 39, 3) := by decide +kernel
theorem d_Pl_resultCycle_57 : decode b_Pl_resultCycle 57 = .ok (.aload_n 0, 1) := by decide +kernel
theorem d_Pl_resultCycle_58 : decode b_Pl_resultCycle 58 = .ok (.getfield 9, 3) := by decide +kernel
theorem d_Pl_resultCycle_61 : decode b_Pl_resultCycle 61 = .ok (.iload 5, 2) := by decide +kernel
theorem d_Pl_resultCycle_63 : decode b_Pl_resultCycle 63 = .ok (.iaload, 1) := by decide +kernel
theorem d_Pl_resultCycle_64 : decode b_Pl_resultCycle 64 = .ok (.aload_n 0, 1) := by decide +kernel
theorem d_Pl_resultCycle_65 : decode b_Pl_resultCycle 65 = .ok (.getfield 40, 3) := by decide +kernel
theorem d_Pl_resultCycle_68 : decode b_Pl_resultCycle 68 = .ok (.getfield 89, 3) := by decide +kernel
theorem d_Pl_resultCycle_71 : decode b_Pl_resultCycle 71 = .ok (.if_icmp .ge 16, 3) := by decide +kernel
theorem d_Pl_resultCycle_74 : decode b_Pl_resultCycle 74 = .ok (.aload_n 0, 1) := by decide +kernel
theorem d_Pl_resultCycle_75 : decode b_Pl_resultCycle 75 = .ok (.getfield 18, 3) := by decide +kernel
theorem d_Pl_resultCycle_78 : decode b_Pl_resultCycle 78 = .ok (.iload 5, 2) := by decide +kernel
theorem d_Pl_resultCycle_80 : decode b_Pl_resultCycle 80 = .ok (.baload, 1) := by decide +kernel
theorem d_Pl_resultCycle_81 : decode b_Pl_resultCycle 81 = .ok (.ifCond .ne 6, 3) := by decide +kernel
theorem d_Pl_resultCycle_84 : decode b_Pl_resultCycle 84 = .ok (.iload 5, 2) := by decide +kernel
theorem d_Pl_resultCycle_86 : decode b_Pl_resultCycle 86 = .ok (.ireturn, 1) := by decide +kernel
theorem d_Pl_resultCycle_87 : decode b_Pl_resultCycle 87 = .ok (.iinc 5 1, 3) := by decide +kernel
theorem d_Pl_resultCycle_90 : decode b_Pl_resultCycle 90 = .ok (.goto (-40), 3) := by decide +kernel
theorem d_Pl_resultCycle_93 : decode b_Pl_resultCycle 93 = .ok (.iconst (-1), 1) := by decide +kernel
theorem d_Pl_resultCycle_94 : decode b_Pl_resultCycle 94 = .ok (.ireturn, 1) := by decide +kernel
abbrev w_op_9_6316 (g : GT) (a_lat : Nat) (a_co : Nat) (a_op : Nat) (a_ki : Nat) (a_tg : Nat) (a_fi : Nat) (a_se : Nat) (a_oc : Nat) (a_cp : Nat) (a_pl : Nat) (a_bs : Nat) (a_rr : Nat) (a_hr : Nat) (a_lw : Nat) (a_lr : Nat) (a_lt : Nat) (a_lm : Nat) (a_tc : Nat) (a_rc : Nat) (r_op : Nat → Int32) (r_ki : Nat → Int32) (r_tg : Nat → Int32) (r_bs : Nat → Int32) (r_hr : Nat → Int32) (r_lw : Nat → Int32) (r_lm : Nat → Int32) (r_rc : Nat → Int32) : va_W := [kO a_op 4 [.ref a_ki, .ref a_tg, .ref a_fi, .ref a_se, .ref a_oc, .ref a_cp, .int (r_op 6)], kI g a_ki 20 r_ki, kI g a_tg 20 r_tg, kO a_pl 5 [.ref a_co, .ref a_op, .ref a_lat, .ref a_bs, .ref a_rr, .ref a_hr, .ref a_lw, .ref a_lr, .ref a_lt, .ref a_lm, .ref a_tc, .ref a_rc], kI g a_bs 64 r_bs, kZ g a_hr 64 r_hr, kI g a_lw 8 r_lw, kI g a_lm 3 r_lm, kI g a_rc 20 r_rc]
abbrev b_Pl_noteResult : ByteArray := prog_7_method_9_code
abbrev y_Pl_noteResult : MethodName := ⟨"MoveDesk$Planner", "noteResult", "(II)V"⟩
theorem hd_Pl_noteResult : y_Pl_noteResult.cls = "MoveDesk$Planner" ∧ y_Pl_noteResult.cls ≠ "java/lang/invoke/MethodHandle" ∧ y_Pl_noteResult.cls ≠ "java/lang/invoke/VarHandle" ∧ (parseMethodDescriptor y_Pl_noteResult.desc).map (fun d => d.parameters.length) = some 2 := by decide +kernel
theorem d_Pl_noteResult_0 : decode b_Pl_noteResult 0 = .ok (.aload_n 0, 1) := by decide +kernel
theorem d_Pl_noteResult_1 : decode b_Pl_noteResult 1 = .ok (.getfield 37, 3) := by decide +kernel
theorem d_Pl_noteResult_4 : decode b_Pl_noteResult 4 = .ok (.iload_n 1, 1) := by decide +kernel
theorem d_Pl_noteResult_5 : decode b_Pl_noteResult 5 = .ok (.iload_n 2, 1) := by decide +kernel
theorem d_Pl_noteResult_6 : decode b_Pl_noteResult 6 = .ok (.iastore, 1) := by decide +kernel
theorem d_Pl_noteResult_7 : decode b_Pl_noteResult 7 = .ok (.aload_n 0, 1) := by decide +kernel
theorem d_Pl_noteResult_8 : decode b_Pl_noteResult 8 = .ok (.getfield 9, 3) := by decide +kernel
theorem d_Pl_noteResult_11 : decode b_Pl_noteResult 11 = .ok (.iload_n 2, 1) := by decide +kernel
theorem d_Pl_noteResult_12 : decode b_Pl_noteResult 12 = .ok (.dup2, 1) := by decide +kernel
theorem d_Pl_noteResult_13 : decode b_Pl_noteResult 13 = .ok (.iaload, 1) := by decide +kernel
theorem d_Pl_noteResult_14 : decode b_Pl_noteResult 14 = .ok (.iconst 1, 1) := by decide +kernel
theorem d_Pl_noteResult_15 : decode b_Pl_noteResult 15 = .ok (.iadd, 1) := by decide +kernel
theorem d_Pl_noteResult_16 : decode b_Pl_noteResult 16 = .ok (.iastore, 1) := by decide +kernel
theorem d_Pl_noteResult_17 : decode b_Pl_noteResult 17 = .ok (.aload_n 0, 1) := by decide +kernel
theorem d_Pl_noteResult_18 : decode b_Pl_noteResult 18 = .ok (.getfield 18, 3) := by decide +kernel
theorem d_Pl_noteResult_21 : decode b_Pl_noteResult 21 = .ok (.iload_n 2, 1) := by decide +kernel
theorem d_Pl_noteResult_22 : decode b_Pl_noteResult 22 = .ok (.iconst 1, 1) := by decide +kernel
theorem d_Pl_noteResult_23 : decode b_Pl_noteResult 23 = .ok (.bastore, 1) := by decide +kernel
theorem d_Pl_noteResult_24 : decode b_Pl_noteResult 24 = .ok (.aload_n 0, 1) := by decide +kernel
theorem d_Pl_noteResult_25 : decode b_Pl_noteResult 25 = .ok (.getfield 22, 3) := by decide +kernel
theorem d_Pl_noteResult_28 : decode b_Pl_noteResult 28 = .ok (.aload_n 0, 1) := by decide +kernel
theorem d_Pl_noteResult_29 : decode b_Pl_noteResult 29 = .ok (.getfield 44, 3) := by decide +kernel
theorem d_Pl_noteResult_32 : decode b_Pl_noteResult 32 = .ok (.iload_n 1, 1) := by decide +kernel
theorem d_Pl_noteResult_33 : decode b_Pl_noteResult 33 = .ok (.invokevirtual 109, 3) := by decide +kernel
theorem d_Pl_noteResult_36 : decode b_Pl_noteResult 36 = .ok (.iload_n 2, 1) := by decide +kernel
theorem d_Pl_noteResult_37 : decode b_Pl_noteResult 37 = .ok (.iastore, 1) := by decide +kernel
theorem d_Pl_noteResult_38 : decode b_Pl_noteResult 38 = .ok (.aload_n 0, 1) := by decide +kernel
theorem d_Pl_noteResult_39 : decode b_Pl_noteResult 39 = .ok (.getfield 31, 3) := by decide +kernel
theorem d_Pl_noteResult_42 : decode b_Pl_noteResult 42 = .ok (.aload_n 0, 1) := by decide +kernel
theorem d_Pl_noteResult_43 : decode b_Pl_noteResult 43 = .ok (.getfield 44, 3) := by decide +kernel
theorem d_Pl_noteResult_46 : decode b_Pl_noteResult 46 = .ok (.iload_n 1, 1) := by decide +kernel
theorem d_Pl_noteResult_47 : decode b_Pl_noteResult 47 = .ok (.invokevirtual 106, 3) := by decide +kernel
theorem d_Pl_noteResult_50 : decode b_Pl_noteResult 50 = .ok (.iload_n 2, 1) := by decide +kernel
theorem d_Pl_noteResult_51 : decode b_Pl_noteResult 51 = .ok (.iastore, 1) := by decide +kernel
theorem d_Pl_noteResult_52 : decode b_Pl_noteResult 52 = .ok (.return_, 1) := by decide +kernel
abbrev w_lat_17_6570 (g : GT) (a_lat : Nat) (a_co : Nat) (a_ta : Nat) (a_gu : Nat) (a_so : Nat) (a_cn : Nat) (a_de : Nat) (a_op : Nat) (a_ki : Nat) (a_tg : Nat) (a_fi : Nat) (a_se : Nat) (a_oc : Nat) (a_cp : Nat) (a_pl : Nat) (a_bs : Nat) (a_rr : Nat) (a_hr : Nat) (a_lw : Nat) (a_lr : Nat) (a_lt : Nat) (a_lm : Nat) (a_tc : Nat) (a_rc : Nat) (r_lat : Nat → Int32) (r_co : Nat → Int32) (r_op : Nat → Int32) (r_ki : Nat → Int32) (r_tg : Nat → Int32) (r_fi : Nat → Int32) (r_se : Nat → Int32) (r_bs : Nat → Int32) (r_rr : Nat → Int32) (r_hr : Nat → Int32) (r_lw : Nat → Int32) (r_lr : Nat → Int32) (r_lt : Nat → Int32) (r_lm : Nat → Int32) (r_tc : Nat → Int32) (r_rc : Nat → Int32) : va_W := [kI g a_lat 3 r_lat, kO a_co 1 [.int (r_co 0), .ref a_ta, .ref a_gu, .ref a_so, .ref a_cn, .ref a_de], kO a_op 4 [.ref a_ki, .ref a_tg, .ref a_fi, .ref a_se, .ref a_oc, .ref a_cp, .int (r_op 6)], kI g a_ki 20 r_ki, kI g a_tg 20 r_tg, kI g a_fi 20 r_fi, kI g a_se 20 r_se, kO a_pl 5 [.ref a_co, .ref a_op, .ref a_lat, .ref a_bs, .ref a_rr, .ref a_hr, .ref a_lw, .ref a_lr, .ref a_lt, .ref a_lm, .ref a_tc, .ref a_rc], kI g a_bs 64 r_bs, kI g a_rr 64 r_rr, kZ g a_hr 64 r_hr, kI g a_lw 8 r_lw, kI g a_lr 8 r_lr, kI g a_lt 3 r_lt, kI g a_lm 3 r_lm, kI g a_tc 20 r_tc, kI g a_rc 20 r_rc]
abbrev b_Pl_planOne : ByteArray := prog_7_method_4_code
abbrev y_Pl_planOne : MethodName := ⟨"MoveDesk$Planner", "planOne", "(I)I"⟩
theorem hd_Pl_planOne : y_Pl_planOne.cls = "MoveDesk$Planner" ∧ y_Pl_planOne.cls ≠ "java/lang/invoke/MethodHandle" ∧ y_Pl_planOne.cls ≠ "java/lang/invoke/VarHandle" ∧ (parseMethodDescriptor y_Pl_planOne.desc).map (fun d => d.parameters.length) = some 1 := by decide +kernel
theorem d_Pl_planOne_0 : decode b_Pl_planOne 0 = .ok (.aload_n 0, 1) := by decide +kernel
theorem d_Pl_planOne_1 : decode b_Pl_planOne 1 = .ok (.iload_n 1, 1) := by decide +kernel
theorem d_Pl_planOne_2 : decode b_Pl_planOne 2 = .ok (.invokevirtual 70, 3) := by decide +kernel
theorem d_Pl_planOne_5 : decode b_Pl_planOne 5 = .ok (.istore_n 2, 1) := by decide +kernel
theorem d_Pl_planOne_6 : decode b_Pl_planOne 6 = .ok (.iload_n 2, 1) := by decide +kernel
theorem d_Pl_planOne_7 : decode b_Pl_planOne 7 = .ok (.iconst (-1), 1) := by decide +kernel
theorem d_Pl_planOne_8 : decode b_Pl_planOne 8 = .ok (.if_icmp .ne 5, 3) := by decide +kernel
theorem d_Pl_planOne_11 : decode b_Pl_planOne 11 = .ok (.iconst (-1), 1) := by decide +kernel
theorem d_Pl_planOne_12 : decode b_Pl_planOne 12 = .ok (.ireturn, 1) := by decide +kernel
theorem d_Pl_planOne_13 : decode b_Pl_planOne 13 = .ok (.aload_n 0, 1) := by decide +kernel
theorem d_Pl_planOne_14 : decode b_Pl_planOne 14 = .ok (.iload_n 1, 1) := by decide +kernel
theorem d_Pl_planOne_15 : decode b_Pl_planOne 15 = .ok (.iload_n 2, 1) := by decide +kernel
theorem d_Pl_planOne_16 : decode b_Pl_planOne 16 = .ok (.invokevirtual 73, 3) := by decide +kernel
theorem d_Pl_planOne_19 : decode b_Pl_planOne 19 = .ok (.aload_n 0, 1) := by decide +kernel
theorem d_Pl_planOne_20 : decode b_Pl_planOne 20 = .ok (.getfield 44, 3) := by decide +kernel
theorem d_Pl_planOne_23 : decode b_Pl_planOne 23 = .ok (.iload_n 1, 1) := by decide +kernel
theorem d_Pl_planOne_24 : decode b_Pl_planOne 24 = .ok (.invokevirtual 77, 3) := by decide +kernel
theorem d_Pl_planOne_27 : decode b_Pl_planOne 27 = .ok (.ifCond .eq 5, 3) := by decide +kernel
theorem d_Pl_planOne_30 : decode b_Pl_planOne 30 = .ok (.iload_n 2, 1) := by decide +kernel
theorem d_Pl_planOne_31 : decode b_Pl_planOne 31 = .ok (.ireturn, 1) := by decide +kernel
theorem d_Pl_planOne_32 : decode b_Pl_planOne 32 = .ok (.aload_n 0, 1) := by decide +kernel
theorem d_Pl_planOne_33 : decode b_Pl_planOne 33 = .ok (.iload_n 1, 1) := by decide +kernel
theorem d_Pl_planOne_34 : decode b_Pl_planOne 34 = .ok (.iload_n 2, 1) := by decide +kernel
theorem d_Pl_planOne_35 : decode b_Pl_planOne 35 = .ok (.invokevirtual 81, 3) := by decide +kernel
theorem d_Pl_planOne_38 : decode b_Pl_planOne 38 = .ok (.istore_n 3, 1) := by decide +kernel
theorem d_Pl_planOne_39 : decode b_Pl_planOne 39 = .ok (.iload_n 3, 1) := by decide +kernel
theorem d_Pl_planOne_40 : decode b_Pl_planOne 40 = .ok (.iconst (-1), 1) := by decide +kernel
theorem d_Pl_planOne_41 : decode b_Pl_planOne 41 = .ok (.if_icmp .eq 9, 3) := by decide +kernel
theorem d_Pl_planOne_44 : decode b_Pl_planOne 44 = .ok (.aload_n 0, 1) := by decide +kernel
theorem d_Pl_planOne_45 : decode b_Pl_planOne 45 = .ok (.iload_n 1, 1) := by decide +kernel
theorem d_Pl_planOne_46 : decode b_Pl_planOne 46 = .ok (.iload_n 3, 1) := by decide +kernel
theorem d_Pl_planOne_47 : decode b_Pl_planOne 47 = .ok (.invokevirtual 84, 3) := by decide +kernel
theorem d_Pl_planOne_50 : decode b_Pl_planOne 50 = .ok (.iload_n 3, 1) := by decide +kernel
theorem d_Pl_planOne_51 : decode b_Pl_planOne 51 = .ok (.ireturn, 1) := by decide +kernel
abbrev b_Pl_plan : ByteArray := prog_7_method_2_code
abbrev y_Pl_plan : MethodName := ⟨"MoveDesk$Planner", "plan", "()I"⟩
theorem hd_Pl_plan : y_Pl_plan.cls = "MoveDesk$Planner" ∧ y_Pl_plan.cls ≠ "java/lang/invoke/MethodHandle" ∧ y_Pl_plan.cls ≠ "java/lang/invoke/VarHandle" ∧ (parseMethodDescriptor y_Pl_plan.desc).map (fun d => d.parameters.length) = some 0 := by decide +kernel
theorem d_Pl_plan_0 : decode b_Pl_plan 0 = .ok (.aload_n 0, 1) := by decide +kernel
theorem d_Pl_plan_1 : decode b_Pl_plan 1 = .ok (.invokevirtual 51, 3) := by decide +kernel
theorem d_Pl_plan_4 : decode b_Pl_plan 4 = .ok (.iconst 0, 1) := by decide +kernel
theorem d_Pl_plan_5 : decode b_Pl_plan 5 = .ok (.istore_n 1, 1) := by decide +kernel
theorem d_Pl_plan_6 : decode b_Pl_plan 6 = .ok (.iconst 0, 1) := by decide +kernel
theorem d_Pl_plan_7 : decode b_Pl_plan 7 = .ok (.istore_n 2, 1) := by decide +kernel
theorem d_Pl_plan_8 : decode b_Pl_plan 8 = .ok (.iload_n 2, 1) := by decide +kernel
theorem d_Pl_plan_9 : decode b_Pl_plan 9 = .ok (.aload_n 0, 1) := by decide +kernel
theorem d_Pl_plan_10 : decode b_Pl_plan 10 = .ok (.getfield 44, 3) := by decide +kernel
theorem d_Pl_plan_13 : decode b_Pl_plan 13 = .ok (.invokevirtual 54, 3) := by decide +kernel
theorem d_Pl_plan_16 : decode b_Pl_plan 16 = .ok (.if_icmp .ge 30, 3) := by decide +kernel
theorem d_Pl_plan_19 : decode b_Pl_plan 19 = .ok (.aload_n 0, 1) := by decide +kernel
theorem d_Pl_plan_20 : decode b_Pl_plan 20 = .ok (.iload_n 2, 1) := by decide +kernel
theorem d_Pl_plan_21 : decode b_Pl_plan 21 = .ok (.invokevirtual 60, 3) := by decide +kernel
theorem d_Pl_plan_24 : decode b_Pl_plan 24 = .ok (.istore_n 3, 1) := by decide +kernel
theorem d_Pl_plan_25 : decode b_Pl_plan 25 = .ok (.iload_n 3, 1) := by decide +kernel
theorem d_Pl_plan_26 : decode b_Pl_plan 26 = .ok (.iconst (-1), 1) := by decide +kernel
theorem d_Pl_plan_27 : decode b_Pl_plan 27 = .ok (.if_icmp .ne 5, 3) := by decide +kernel
theorem d_Pl_plan_30 : decode b_Pl_plan 30 = .ok (.iconst (-1), 1) := by decide +kernel
theorem d_Pl_plan_31 : decode b_Pl_plan 31 = .ok (.ireturn, 1) := by decide +kernel
theorem d_Pl_plan_32 : decode b_Pl_plan 32 = .ok (.iload_n 1, 1) := by decide +kernel
theorem d_Pl_plan_33 : decode b_Pl_plan 33 = .ok (.iload_n 3, 1) := by decide +kernel
theorem d_Pl_plan_34 : decode b_Pl_plan 34 = .ok (.iconst 1, 1) := by decide +kernel
theorem d_Pl_plan_35 : decode b_Pl_plan 35 = .ok (.iadd, 1) := by decide +kernel
theorem d_Pl_plan_36 : decode b_Pl_plan 36 = .ok (.invokestatic 64, 3) := by decide +kernel
theorem d_Pl_plan_39 : decode b_Pl_plan 39 = .ok (.istore_n 1, 1) := by decide +kernel
theorem d_Pl_plan_40 : decode b_Pl_plan 40 = .ok (.iinc 2 1, 3) := by decide +kernel
theorem d_Pl_plan_43 : decode b_Pl_plan 43 = .ok (.goto (-35), 3) := by decide +kernel
theorem d_Pl_plan_46 : decode b_Pl_plan 46 = .ok (.iload_n 1, 1) := by decide +kernel
theorem d_Pl_plan_47 : decode b_Pl_plan 47 = .ok (.bipush 63, 2) := by decide +kernel
theorem d_Pl_plan_49 : decode b_Pl_plan 49 = .ok (.if_icmp .gt 7, 3) := by decide +kernel
theorem d_Pl_plan_52 : decode b_Pl_plan 52 = .ok (.iload_n 1, 1) := by decide +kernel
theorem d_Pl_plan_53 : decode b_Pl_plan 53 = .ok (.goto 4, 3) := by decide +kernel
theorem d_Pl_plan_56 : decode b_Pl_plan 56 = .ok (.iconst (-1), 1) := by decide +kernel
theorem d_Pl_plan_57 : decode b_Pl_plan 57 = .ok (.ireturn, 1) := by decide +kernel
abbrev w_co_15_87f5 (g : GT) (a_lat : Nat) (a_co : Nat) (a_ta : Nat) (a_gu : Nat) (a_so : Nat) (a_cn : Nat) (a_de : Nat) (a_op : Nat) (a_ki : Nat) (a_tg : Nat) (a_fi : Nat) (a_se : Nat) (a_oc : Nat) (a_cp : Nat) (a_pl : Nat) (a_bs : Nat) (a_rr : Nat) (a_hr : Nat) (a_lw : Nat) (a_lr : Nat) (a_lt : Nat) (a_lm : Nat) (a_tc : Nat) (a_rc : Nat) (r_co : Nat → Int32) (r_ta : Nat → Int32) (r_gu : Nat → Int32) (r_so : Nat → Int32) (r_cn : Nat → Int32) (r_de : Nat → Int32) (r_op : Nat → Int32) (r_ki : Nat → Int32) (r_tg : Nat → Int32) (r_fi : Nat → Int32) (r_se : Nat → Int32) (r_oc : Nat → Int32) (r_tc : Nat → Int32) (r_rc : Nat → Int32) : va_W := [kO a_co 1 [.int (r_co 0), .ref a_ta, .ref a_gu, .ref a_so, .ref a_cn, .ref a_de], kI g a_ta 64 r_ta, kI g a_gu 256 r_gu, kI g a_so 256 r_so, kI g a_cn 256 r_cn, kI g a_de 256 r_de, kO a_op 4 [.ref a_ki, .ref a_tg, .ref a_fi, .ref a_se, .ref a_oc, .ref a_cp, .int (r_op 6)], kI g a_ki 20 r_ki, kI g a_tg 20 r_tg, kI g a_fi 20 r_fi, kI g a_se 20 r_se, kI g a_oc 20 r_oc, kO a_pl 5 [.ref a_co, .ref a_op, .ref a_lat, .ref a_bs, .ref a_rr, .ref a_hr, .ref a_lw, .ref a_lr, .ref a_lt, .ref a_lm, .ref a_tc, .ref a_rc], kI g a_tc 20 r_tc, kI g a_rc 20 r_rc]
abbrev b_Pl_writeOne : ByteArray := prog_7_method_11_code
abbrev y_Pl_writeOne : MethodName := ⟨"MoveDesk$Planner", "writeOne", "(I)V"⟩
theorem hd_Pl_writeOne : y_Pl_writeOne.cls = "MoveDesk$Planner" ∧ y_Pl_writeOne.cls ≠ "java/lang/invoke/MethodHandle" ∧ y_Pl_writeOne.cls ≠ "java/lang/invoke/VarHandle" ∧ (parseMethodDescriptor y_Pl_writeOne.desc).map (fun d => d.parameters.length) = some 1 := by decide +kernel
theorem d_Pl_writeOne_0 : decode b_Pl_writeOne 0 = .ok (.aload_n 0, 1) := by decide +kernel
theorem d_Pl_writeOne_1 : decode b_Pl_writeOne 1 = .ok (.getfield 44, 3) := by decide +kernel
theorem d_Pl_writeOne_4 : decode b_Pl_writeOne 4 = .ok (.iload_n 1, 1) := by decide +kernel
theorem d_Pl_writeOne_5 : decode b_Pl_writeOne 5 = .ok (.invokevirtual 106, 3) := by decide +kernel
theorem d_Pl_writeOne_8 : decode b_Pl_writeOne 8 = .ok (.istore_n 2, 1) := by decide +kernel
theorem d_Pl_writeOne_9 : decode b_Pl_writeOne 9 = .ok (.aload_n 0, 1) := by decide +kernel
theorem d_Pl_writeOne_10 : decode b_Pl_writeOne 10 = .ok (.getfield 44, 3) := by decide +kernel
theorem d_Pl_writeOne_13 : decode b_Pl_writeOne 13 = .ok (.iload_n 1, 1) := by decide +kernel
theorem d_Pl_writeOne_14 : decode b_Pl_writeOne 14 = .ok (.invokevirtual 123, 3) := by decide +kernel
theorem d_Pl_writeOne_17 : decode b_Pl_writeOne 17 = .ok (.istore_n 3, 1) := by decide +kernel
theorem d_Pl_writeOne_18 : decode b_Pl_writeOne 18 = .ok (.aload_n 0, 1) := by decide +kernel
theorem d_Pl_writeOne_19 : decode b_Pl_writeOne 19 = .ok (.getfield 44, 3) := by decide +kernel
theorem d_Pl_writeOne_22 : decode b_Pl_writeOne 22 = .ok (.iload_n 1, 1) := by decide +kernel
theorem d_Pl_writeOne_23 : decode b_Pl_writeOne 23 = .ok (.invokevirtual 126, 3) := by decide +kernel
theorem d_Pl_writeOne_26 : decode b_Pl_writeOne 26 = .ok (.istore 4, 2) := by decide +kernel
theorem d_Pl_writeOne_28 : decode b_Pl_writeOne 28 = .ok (.aload_n 0, 1) := by decide +kernel
theorem d_Pl_writeOne_29 : decode b_Pl_writeOne 29 = .ok (.getfield 34, 3) := by decide +kernel
theorem d_Pl_writeOne_32 : decode b_Pl_writeOne 32 = .ok (.iload_n 1, 1) := by decide +kernel
theorem d_Pl_writeOne_33 : decode b_Pl_writeOne 33 = .ok (.iaload, 1) := by decide +kernel
theorem d_Pl_writeOne_34 : decode b_Pl_writeOne 34 = .ok (.istore 5, 2) := by decide +kernel
theorem d_Pl_writeOne_36 : decode b_Pl_writeOne 36 = .ok (.aload_n 0, 1) := by decide +kernel
theorem d_Pl_writeOne_37 : decode b_Pl_writeOne 37 = .ok (.getfield 44, 3) := by decide +kernel
theorem d_Pl_writeOne_40 : decode b_Pl_writeOne 40 = .ok (.iload_n 1, 1) := by decide +kernel
theorem d_Pl_writeOne_41 : decode b_Pl_writeOne 41 = .ok (.invokevirtual 95, 3) := by decide +kernel
theorem d_Pl_writeOne_44 : decode b_Pl_writeOne 44 = .ok (.ifCond .ne 26, 3) := by decide +kernel
theorem d_Pl_writeOne_47 : decode b_Pl_writeOne 47 = .ok (.aload_n 0, 1) := by decide +kernel
theorem d_Pl_writeOne_48 : decode b_Pl_writeOne 48 = .ok (.getfield 40, 3) := by decide +kernel
theorem d_Pl_writeOne_51 : decode b_Pl_writeOne 51 = .ok (.iload 5, 2) := by decide +kernel
theorem d_Pl_writeOne_53 : decode b_Pl_writeOne 53 = .ok (.iload_n 3, 1) := by decide +kernel
theorem d_Pl_writeOne_54 : decode b_Pl_writeOne 54 = .ok (.aload_n 0, 1) := by decide +kernel
theorem d_Pl_writeOne_55 : decode b_Pl_writeOne 55 = .ok (.getfield 44, 3) := by decide +kernel
theorem d_Pl_writeOne_58 : decode b_Pl_writeOne 58 = .ok (.iload_n 1, 1) := by decide +kernel
theorem d_Pl_writeOne_59 : decode b_Pl_writeOne 59 = .ok (.iload_n 3, 1) := by decide +kernel
theorem d_Pl_writeOne_60 : decode b_Pl_writeOne 60 = .ok (.invokevirtual 129, 3) := by decide +kernel
theorem d_Pl_writeOne_63 : decode b_Pl_writeOne 63 = .ok (.bipush 8, 2) := by decide +kernel
theorem d_Pl_writeOne_65 : decode b_Pl_writeOne 65 = .ok (.iload_n 2, 1) := by decide +kernel
theorem d_Pl_writeOne_66 : decode b_Pl_writeOne 66 = .ok (.iadd, 1) := by decide +kernel
theorem d_Pl_writeOne_67 : decode b_Pl_writeOne 67 = .ok (.invokevirtual 119, 3) := by decide +kernel
theorem d_Pl_writeOne_70 : decode b_Pl_writeOne 70 = .ok (.aload_n 0, 1) := by decide +kernel
theorem d_Pl_writeOne_71 : decode b_Pl_writeOne 71 = .ok (.getfield 40, 3) := by decide +kernel
theorem d_Pl_writeOne_74 : decode b_Pl_writeOne 74 = .ok (.iload 5, 2) := by decide +kernel
theorem d_Pl_writeOne_76 : decode b_Pl_writeOne 76 = .ok (.iload 4, 2) := by decide +kernel
theorem d_Pl_writeOne_78 : decode b_Pl_writeOne 78 = .ok (.aload_n 0, 1) := by decide +kernel
theorem d_Pl_writeOne_79 : decode b_Pl_writeOne 79 = .ok (.getfield 44, 3) := by decide +kernel
theorem d_Pl_writeOne_82 : decode b_Pl_writeOne 82 = .ok (.iload_n 1, 1) := by decide +kernel
theorem d_Pl_writeOne_83 : decode b_Pl_writeOne 83 = .ok (.iload 4, 2) := by decide +kernel
theorem d_Pl_writeOne_85 : decode b_Pl_writeOne 85 = .ok (.invokevirtual 129, 3) := by decide +kernel
theorem d_Pl_writeOne_88 : decode b_Pl_writeOne 88 = .ok (.aload_n 0, 1) := by decide +kernel
theorem d_Pl_writeOne_89 : decode b_Pl_writeOne 89 = .ok (.getfield 44, 3) := by decide +kernel
theorem d_Pl_writeOne_92 : decode b_Pl_writeOne 92 = .ok (.iload_n 1, 1) := by decide +kernel
theorem d_Pl_writeOne_93 : decode b_Pl_writeOne 93 = .ok (.invokevirtual 132, 3) := by decide +kernel
theorem d_Pl_writeOne_96 : decode b_Pl_writeOne 96 = .ok (.invokevirtual 119, 3) := by decide +kernel
theorem d_Pl_writeOne_99 : decode b_Pl_writeOne 99 = .ok (.aload_n 0, 1) := by decide +kernel
theorem d_Pl_writeOne_100 : decode b_Pl_writeOne 100 = .ok (.getfield 44, 3) := by decide +kernel
theorem d_Pl_writeOne_103 : decode b_Pl_writeOne 103 = .ok (.iload_n 1, 1) := by decide +kernel
theorem d_Pl_writeOne_104 : decode b_Pl_writeOne 104 = .ok (.invokevirtual 77, 3) := by decide +kernel
theorem d_Pl_writeOne_107 : decode b_Pl_writeOne 107 = .ok (.ifCond .ne 29, 3) := by decide +kernel
theorem d_Pl_writeOne_110 : decode b_Pl_writeOne 110 = .ok (.aload_n 0, 1) := by decide +kernel
theorem d_Pl_writeOne_111 : decode b_Pl_writeOne 111 = .ok (.getfield 40, 3) := by decide +kernel
theorem d_Pl_writeOne_114 : decode b_Pl_writeOne 114 = .ok (.aload_n 0, 1) := by decide +kernel
theorem d_Pl_writeOne_115 : decode b_Pl_writeOne 115 = .ok (.getfield 37, 3) := by decide +kernel
theorem d_Pl_writeOne_118 : decode b_Pl_writeOne 118 = .ok (.iload_n 1, 1) := by decide +kernel
theorem d_Pl_writeOne_119 : decode b_Pl_writeOne 119 = .ok (.iaload, 1) := by decide +kernel
theorem d_Pl_writeOne_120 : decode b_Pl_writeOne 120 = .ok (.bipush 8, 2) := by decide +kernel
theorem d_Pl_writeOne_122 : decode b_Pl_writeOne 122 = .ok (.iload_n 2, 1) := by decide +kernel
theorem d_Pl_writeOne_123 : decode b_Pl_writeOne 123 = .ok (.iadd, 1) := by decide +kernel
theorem d_Pl_writeOne_124 : decode b_Pl_writeOne 124 = .ok (.iconst 0, 1) := by decide +kernel
theorem d_Pl_writeOne_125 : decode b_Pl_writeOne 125 = .ok (.aload_n 0, 1) := by decide +kernel
theorem d_Pl_writeOne_126 : decode b_Pl_writeOne 126 = .ok (.getfield 44, 3) := by decide +kernel
theorem d_Pl_writeOne_129 : decode b_Pl_writeOne 129 = .ok (.iload_n 1, 1) := by decide +kernel
theorem d_Pl_writeOne_130 : decode b_Pl_writeOne 130 = .ok (.invokevirtual 109, 3) := by decide +kernel
theorem d_Pl_writeOne_133 : decode b_Pl_writeOne 133 = .ok (.invokevirtual 119, 3) := by decide +kernel
theorem d_Pl_writeOne_136 : decode b_Pl_writeOne 136 = .ok (.return_, 1) := by decide +kernel
abbrev b_Pl_write : ByteArray := prog_7_method_10_code
abbrev y_Pl_write : MethodName := ⟨"MoveDesk$Planner", "write", "(I)V"⟩
theorem hd_Pl_write : y_Pl_write.cls = "MoveDesk$Planner" ∧ y_Pl_write.cls ≠ "java/lang/invoke/MethodHandle" ∧ y_Pl_write.cls ≠ "java/lang/invoke/VarHandle" ∧ (parseMethodDescriptor y_Pl_write.desc).map (fun d => d.parameters.length) = some 1 := by decide +kernel
theorem d_Pl_write_0 : decode b_Pl_write 0 = .ok (.aload_n 0, 1) := by decide +kernel
theorem d_Pl_write_1 : decode b_Pl_write 1 = .ok (.getfield 40, 3) := by decide +kernel
theorem d_Pl_write_4 : decode b_Pl_write 4 = .ok (.invokevirtual 112, 3) := by decide +kernel
theorem d_Pl_write_7 : decode b_Pl_write 7 = .ok (.iconst 0, 1) := by decide +kernel
theorem d_Pl_write_8 : decode b_Pl_write 8 = .ok (.istore_n 2, 1) := by decide +kernel
theorem d_Pl_write_9 : decode b_Pl_write 9 = .ok (.iload_n 2, 1) := by decide +kernel
theorem d_Pl_write_10 : decode b_Pl_write 10 = .ok (.aload_n 0, 1) := by decide +kernel
theorem d_Pl_write_11 : decode b_Pl_write 11 = .ok (.getfield 44, 3) := by decide +kernel
theorem d_Pl_write_14 : decode b_Pl_write 14 = .ok (.invokevirtual 54, 3) := by decide +kernel
theorem d_Pl_write_17 : decode b_Pl_write 17 = .ok (.if_icmp .ge 14, 3) := by decide +kernel
theorem d_Pl_write_20 : decode b_Pl_write 20 = .ok (.aload_n 0, 1) := by decide +kernel
theorem d_Pl_write_21 : decode b_Pl_write 21 = .ok (.iload_n 2, 1) := by decide +kernel
theorem d_Pl_write_22 : decode b_Pl_write 22 = .ok (.invokevirtual 115, 3) := by decide +kernel
theorem d_Pl_write_25 : decode b_Pl_write 25 = .ok (.iinc 2 1, 3) := by decide +kernel
theorem d_Pl_write_28 : decode b_Pl_write 28 = .ok (.goto (-19), 3) := by decide +kernel
theorem d_Pl_write_31 : decode b_Pl_write 31 = .ok (.aload_n 0, 1) := by decide +kernel
theorem d_Pl_write_32 : decode b_Pl_write 32 = .ok (.getfield 40, 3) := by decide +kernel
theorem d_Pl_write_35 : decode b_Pl_write 35 = .ok (.iload_n 1, 1) := by decide +kernel
theorem d_Pl_write_36 : decode b_Pl_write 36 = .ok (.bipush 11, 2) := by decide +kernel
theorem d_Pl_write_38 : decode b_Pl_write 38 = .ok (.iconst 0, 1) := by decide +kernel
theorem d_Pl_write_39 : decode b_Pl_write 39 = .ok (.bipush 25, 2) := by decide +kernel
theorem d_Pl_write_41 : decode b_Pl_write 41 = .ok (.invokevirtual 119, 3) := by decide +kernel
theorem d_Pl_write_44 : decode b_Pl_write 44 = .ok (.return_, 1) := by decide +kernel
def f_Pl_start_65 : Nat → (Nat → Int32) → (Nat → Int32) → (Nat → Int32) → (Nat → Int32) → (Nat → Int32) → (Nat → Int32) → (Nat → Int32) → Int32 → Option ((Nat → Int32) × (Nat → Int32) × (Nat → Int32) × (Nat → Int32) × (Nat → Int32) × (Nat → Int32) × (Nat → Int32))
  | 0, _, _, _, _, _, _, _, _ => none
  | n + 1, r_bs, r_rr, r_hr, r_lw, r_lr, r_lt, r_lm, v1 =>
    if (3 : Int32) ≤ v1 then
      some (r_bs, r_rr, r_hr, r_lw, r_lr, r_lt, r_lm)
    else
      ck v1 3 <|
      ck v1 3 <|
      nm (v1 + 1) fun x4 =>
      f_Pl_start_65 n r_bs r_rr r_hr r_lw r_lr (upd r_lt v1.toNatClampNeg (-1 : Int32)) (upd r_lm v1.toNatClampNeg (-1 : Int32)) x4
def f_Pl_start_37 : Nat → (Nat → Int32) → (Nat → Int32) → (Nat → Int32) → (Nat → Int32) → (Nat → Int32) → (Nat → Int32) → (Nat → Int32) → Int32 → Option ((Nat → Int32) × (Nat → Int32) × (Nat → Int32) × (Nat → Int32) × (Nat → Int32) × (Nat → Int32) × (Nat → Int32))
  | 0, _, _, _, _, _, _, _, _ => none
  | n + 1, r_bs, r_rr, r_hr, r_lw, r_lr, r_lt, r_lm, v1 =>
    if (8 : Int32) ≤ v1 then
      f_Pl_start_65 5000 r_bs r_rr r_hr r_lw r_lr r_lt r_lm 0
    else
      ck v1 8 <|
      ck v1 8 <|
      nm (v1 + 1) fun x4 =>
      f_Pl_start_37 n r_bs r_rr r_hr (upd r_lw v1.toNatClampNeg (-1 : Int32)) (upd r_lr v1.toNatClampNeg (-1 : Int32)) r_lt r_lm x4
def f_Pl_start_2 : Nat → (Nat → Int32) → (Nat → Int32) → (Nat → Int32) → (Nat → Int32) → (Nat → Int32) → (Nat → Int32) → (Nat → Int32) → Int32 → Option ((Nat → Int32) × (Nat → Int32) × (Nat → Int32) × (Nat → Int32) × (Nat → Int32) × (Nat → Int32) × (Nat → Int32))
  | 0, _, _, _, _, _, _, _, _ => none
  | n + 1, r_bs, r_rr, r_hr, r_lw, r_lr, r_lt, r_lm, v1 =>
    if (64 : Int32) ≤ v1 then
      f_Pl_start_37 5000 r_bs r_rr r_hr r_lw r_lr r_lt r_lm 0
    else
      ck v1 64 <|
      ck v1 64 <|
      ck v1 64 <|
      nm (v1 + 1) fun x5 =>
      f_Pl_start_2 n (upd r_bs v1.toNatClampNeg (0 : Int32)) (upd r_rr v1.toNatClampNeg (0 : Int32)) (upd r_hr v1.toNatClampNeg (0 : Int32)) r_lw r_lr r_lt r_lm x5
def f_Pl_start (r_bs : Nat → Int32) (r_rr : Nat → Int32) (r_hr : Nat → Int32) (r_lw : Nat → Int32) (r_lr : Nat → Int32) (r_lt : Nat → Int32) (r_lm : Nat → Int32)  : Option ((Nat → Int32) × (Nat → Int32) × (Nat → Int32) × (Nat → Int32) × (Nat → Int32) × (Nat → Int32) × (Nat → Int32)) :=
  f_Pl_start_2 5000 r_bs r_rr r_hr r_lw r_lr r_lt r_lm 0
def f_Pl_earliestTrigger_54 (rec_22 : (Nat → Int32) → (Nat → Int32) → (Nat → Int32) → (Nat → Int32) → (Nat → Int32) → (Nat → Int32) → Int32 → Int32 → Int32 → Int32 → Int32 → Option (Int32)) (r_lat : Nat → Int32) (r_op : Nat → Int32) (r_ki : Nat → Int32) (r_lw : Nat → Int32) (r_lt : Nat → Int32) (r_lm : Nat → Int32) (v1 : Int32) (v2 : Int32) (v3 : Int32) (v4 : Int32) (v5 : Int32) : Option (Int32) :=
  nm (v5 + 1) fun x1 =>
  rec_22 r_lat r_op r_ki r_lw r_lt r_lm v1 v2 v3 v4 x1
def f_Pl_earliestTrigger_22 : Nat → (Nat → Int32) → (Nat → Int32) → (Nat → Int32) → (Nat → Int32) → (Nat → Int32) → (Nat → Int32) → Int32 → Int32 → Int32 → Int32 → Int32 → Option (Int32)
  | 0, _, _, _, _, _, _, _, _, _, _, _ => none
  | n + 1, r_lat, r_op, r_ki, r_lw, r_lt, r_lm, v1, v2, v3, v4, v5 =>
    if (8 : Int32) ≤ v5 then
      (f_Op_isStore r_op r_ki v1).bind fun y2 =>
      if y2 = 0 then
        ck v3 3 <|
        ck v3 3 <|
        nm (if v4 < ((r_lm v3.toNatClampNeg) + (1 : Int32)) - (r_lat v3.toNatClampNeg) then ((r_lm v3.toNatClampNeg) + (1 : Int32)) - (r_lat v3.toNatClampNeg) else v4) fun x6 =>
        some (x6)
      else
        some (v4)
    else
      if (v2 >>> (v5 &&& 31)) &&& (1 : Int32) = 0 then
        f_Pl_earliestTrigger_54 (f_Pl_earliestTrigger_22 n) r_lat r_op r_ki r_lw r_lt r_lm v1 v2 v3 v4 v5
      else
        ck v5 8 <|
        nm (if v4 < (r_lw v5.toNatClampNeg) + (1 : Int32) then (r_lw v5.toNatClampNeg) + (1 : Int32) else v4) fun x9 =>
        f_Pl_earliestTrigger_54 (f_Pl_earliestTrigger_22 n) r_lat r_op r_ki r_lw r_lt r_lm v1 v2 v3 x9 v5
def f_Pl_earliestTrigger (r_lat : Nat → Int32) (r_op : Nat → Int32) (r_ki : Nat → Int32) (r_lw : Nat → Int32) (r_lt : Nat → Int32) (r_lm : Nat → Int32) (v1 : Int32) (v2 : Int32) : Option (Int32) :=
  (f_Op_unit r_op r_ki v1).bind fun y1 =>
  ck y1 3 <|
  nm ((r_lt y1.toNatClampNeg) + (1 : Int32) : Int32) fun x3 =>
  f_Pl_earliestTrigger_22 5000 r_lat r_op r_ki r_lw r_lt r_lm v1 v2 y1 x3 0
def f_Pl_triggerCycle_79 (rec_42 : (Nat → Int32) → (Nat → Int32) → (Nat → Int32) → (Nat → Int32) → (Nat → Int32) → (Nat → Int32) → (Nat → Int32) → (Nat → Int32) → (Nat → Int32) → (Nat → Int32) → (Nat → Int32) → Int32 → Int32 → Int32 → Option (Int32)) (r_lat : Nat → Int32) (r_co : Nat → Int32) (r_op : Nat → Int32) (r_ki : Nat → Int32) (r_fi : Nat → Int32) (r_se : Nat → Int32) (r_bs : Nat → Int32) (r_rr : Nat → Int32) (r_lw : Nat → Int32) (r_lt : Nat → Int32) (r_lm : Nat → Int32) (v2 : Int32) (v3 : Int32) (v4 : Int32) : Option (Int32) :=
  nm (v4 + 1) fun x1 =>
  rec_42 r_lat r_co r_op r_ki r_fi r_se r_bs r_rr r_lw r_lt r_lm v2 v3 x1
def f_Pl_triggerCycle_42 : Nat → (Nat → Int32) → (Nat → Int32) → (Nat → Int32) → (Nat → Int32) → (Nat → Int32) → (Nat → Int32) → (Nat → Int32) → (Nat → Int32) → (Nat → Int32) → (Nat → Int32) → (Nat → Int32) → Int32 → Int32 → Int32 → Option (Int32)
  | 0, _, _, _, _, _, _, _, _, _, _, _, _, _, _ => none
  | n + 1, r_lat, r_co, r_op, r_ki, r_fi, r_se, r_bs, r_rr, r_lw, r_lt, r_lm, v2, v3, v4 =>
    if (63 : Int32) < v4 then
      some ((-1))
    else
      ck v4 64 <|
      if v3 < r_bs v4.toNatClampNeg then
        f_Pl_triggerCycle_79 (f_Pl_triggerCycle_42 n) r_lat r_co r_op r_ki r_fi r_se r_bs r_rr r_lw r_lt r_lm v2 v3 v4
      else
        ck v4 64 <|
        (f_In_bitCount ((r_rr v4.toNatClampNeg) ||| v2)).bind fun y5 =>
        if (2 : Int32) < y5 then
          f_Pl_triggerCycle_79 (f_Pl_triggerCycle_42 n) r_lat r_co r_op r_ki r_fi r_se r_bs r_rr r_lw r_lt r_lm v2 v3 v4
        else
          some (v4)
def f_Pl_triggerCycle_34 (r_lat : Nat → Int32) (r_co : Nat → Int32) (r_op : Nat → Int32) (r_ki : Nat → Int32) (r_fi : Nat → Int32) (r_se : Nat → Int32) (r_bs : Nat → Int32) (r_rr : Nat → Int32) (r_lw : Nat → Int32) (r_lt : Nat → Int32) (r_lm : Nat → Int32) (v1 : Int32) (v2 : Int32) (v3 : Int32) : Option (Int32) :=
  (f_Pl_earliestTrigger r_lat r_op r_ki r_lw r_lt r_lm v1 v2).bind fun y1 =>
  f_Pl_triggerCycle_42 5000 r_lat r_co r_op r_ki r_fi r_se r_bs r_rr r_lw r_lt r_lm v2 v3 y1
def f_Pl_triggerCycle (r_lat : Nat → Int32) (r_co : Nat → Int32) (r_op : Nat → Int32) (r_ki : Nat → Int32) (r_fi : Nat → Int32) (r_se : Nat → Int32) (r_bs : Nat → Int32) (r_rr : Nat → Int32) (r_lw : Nat → Int32) (r_lt : Nat → Int32) (r_lm : Nat → Int32) (v1 : Int32) : Option (Int32) :=
  (f_Op_registersRead r_op r_ki r_fi r_se v1).bind fun y1 =>
  (f_Op_isLoad r_op r_ki v1).bind fun y2 =>
  if y2 = 0 then
    nm ((r_co 0) - (2 : Int32) : Int32) fun x4 =>
    f_Pl_triggerCycle_34 r_lat r_co r_op r_ki r_fi r_se r_bs r_rr r_lw r_lt r_lm v1 y1 x4
  else
    nm ((r_co 0) - (1 : Int32) : Int32) fun x5 =>
    f_Pl_triggerCycle_34 r_lat r_co r_op r_ki r_fi r_se r_bs r_rr r_lw r_lt r_lm v1 y1 x5
def f_Pl_noteTrigger_102 (rec_68 : (Nat → Int32) → (Nat → Int32) → (Nat → Int32) → (Nat → Int32) → (Nat → Int32) → (Nat → Int32) → (Nat → Int32) → (Nat → Int32) → (Nat → Int32) → Int32 → Int32 → Int32 → Option ((Nat → Int32) × (Nat → Int32) × (Nat → Int32) × (Nat → Int32) × (Nat → Int32))) (r_op : Nat → Int32) (r_ki : Nat → Int32) (r_fi : Nat → Int32) (r_se : Nat → Int32) (r_bs : Nat → Int32) (r_rr : Nat → Int32) (r_lr : Nat → Int32) (r_lt : Nat → Int32) (r_tc : Nat → Int32) (v2 : Int32) (v3 : Int32) (v4 : Int32) : Option ((Nat → Int32) × (Nat → Int32) × (Nat → Int32) × (Nat → Int32) × (Nat → Int32)) :=
  nm (v4 + 1) fun x1 =>
  rec_68 r_op r_ki r_fi r_se r_bs r_rr r_lr r_lt r_tc v2 v3 x1
def f_Pl_noteTrigger_68 : Nat → (Nat → Int32) → (Nat → Int32) → (Nat → Int32) → (Nat → Int32) → (Nat → Int32) → (Nat → Int32) → (Nat → Int32) → (Nat → Int32) → (Nat → Int32) → Int32 → Int32 → Int32 → Option ((Nat → Int32) × (Nat → Int32) × (Nat → Int32) × (Nat → Int32) × (Nat → Int32))
  | 0, _, _, _, _, _, _, _, _, _, _, _, _ => none
  | n + 1, r_op, r_ki, r_fi, r_se, r_bs, r_rr, r_lr, r_lt, r_tc, v2, v3, v4 =>
    if (8 : Int32) ≤ v4 then
      some (r_bs, r_rr, r_lr, r_lt, r_tc)
    else
      if (v3 >>> (v4 &&& 31)) &&& (1 : Int32) = 0 then
        f_Pl_noteTrigger_102 (f_Pl_noteTrigger_68 n) r_op r_ki r_fi r_se r_bs r_rr r_lr r_lt r_tc v2 v3 v4
      else
        ck v4 8 <|
        nm (if r_lr v4.toNatClampNeg < v2 then v2 else r_lr v4.toNatClampNeg) fun x4 =>
        ck v4 8 <|
        f_Pl_noteTrigger_102 (f_Pl_noteTrigger_68 n) r_op r_ki r_fi r_se r_bs r_rr (upd r_lr v4.toNatClampNeg x4) r_lt r_tc v2 v3 v4
def f_Pl_noteTrigger_41 (r_op : Nat → Int32) (r_ki : Nat → Int32) (r_fi : Nat → Int32) (r_se : Nat → Int32) (r_bs : Nat → Int32) (r_rr : Nat → Int32) (r_lr : Nat → Int32) (r_lt : Nat → Int32) (r_tc : Nat → Int32) (v1 : Int32) (v2 : Int32) (v3 : Int32) : Option ((Nat → Int32) × (Nat → Int32) × (Nat → Int32) × (Nat → Int32) × (Nat → Int32)) :=
  ck v2 64 <|
  ck v2 64 <|
  (f_Op_unit r_op r_ki v1).bind fun y3 =>
  ck y3 3 <|
  f_Pl_noteTrigger_68 5000 r_op r_ki r_fi r_se r_bs (upd r_rr v2.toNatClampNeg ((r_rr v2.toNatClampNeg) ||| v3)) r_lr (upd r_lt y3.toNatClampNeg v2) r_tc v2 v3 0
def f_Pl_noteTrigger (r_op : Nat → Int32) (r_ki : Nat → Int32) (r_fi : Nat → Int32) (r_se : Nat → Int32) (r_bs : Nat → Int32) (r_rr : Nat → Int32) (r_lr : Nat → Int32) (r_lt : Nat → Int32) (r_tc : Nat → Int32) (v1 : Int32) (v2 : Int32) : Option ((Nat → Int32) × (Nat → Int32) × (Nat → Int32) × (Nat → Int32) × (Nat → Int32)) :=
  (f_Op_registersRead r_op r_ki r_fi r_se v1).bind fun y1 =>
  ck v1 20 <|
  ck v2 64 <|
  (f_Op_isLoad r_op r_ki v1).bind fun y4 =>
  if y4 = 0 then
    ck v2 64 <|
    f_Pl_noteTrigger_41 r_op r_ki r_fi r_se (upd r_bs v2.toNatClampNeg ((r_bs v2.toNatClampNeg) + (2 : Int32))) r_rr r_lr r_lt (upd r_tc v1.toNatClampNeg v2) v1 v2 y1
  else
    ck v2 64 <|
    f_Pl_noteTrigger_41 r_op r_ki r_fi r_se (upd r_bs v2.toNatClampNeg ((r_bs v2.toNatClampNeg) + (1 : Int32))) r_rr r_lr r_lt (upd r_tc v1.toNatClampNeg v2) v1 v2 y1
def f_Pl_resultCycle_87 (rec_50 : (Nat → Int32) → (Nat → Int32) → (Nat → Int32) → (Nat → Int32) → (Nat → Int32) → (Nat → Int32) → (Nat → Int32) → (Nat → Int32) → (Nat → Int32) → Int32 → Option (Int32)) (r_lat : Nat → Int32) (r_co : Nat → Int32) (r_op : Nat → Int32) (r_ki : Nat → Int32) (r_tg : Nat → Int32) (r_bs : Nat → Int32) (r_hr : Nat → Int32) (r_lw : Nat → Int32) (r_lr : Nat → Int32) (v5 : Int32) : Option (Int32) :=
  nm (v5 + 1) fun x1 =>
  rec_50 r_lat r_co r_op r_ki r_tg r_bs r_hr r_lw r_lr x1
def f_Pl_resultCycle_50 : Nat → (Nat → Int32) → (Nat → Int32) → (Nat → Int32) → (Nat → Int32) → (Nat → Int32) → (Nat → Int32) → (Nat → Int32) → (Nat → Int32) → (Nat → Int32) → Int32 → Option (Int32)
  | 0, _, _, _, _, _, _, _, _, _, _ => none
  | n + 1, r_lat, r_co, r_op, r_ki, r_tg, r_bs, r_hr, r_lw, r_lr, v5 =>
    if (63 : Int32) < v5 then
      some ((-1))
    else
      ck v5 64 <|
      if (r_co 0) ≤ r_bs v5.toNatClampNeg then
        f_Pl_resultCycle_87 (f_Pl_resultCycle_50 n) r_lat r_co r_op r_ki r_tg r_bs r_hr r_lw r_lr v5
      else
        ck v5 64 <|
        if r_hr v5.toNatClampNeg = 0 then
          some (v5)
        else
          f_Pl_resultCycle_87 (f_Pl_resultCycle_50 n) r_lat r_co r_op r_ki r_tg r_bs r_hr r_lw r_lr v5
def f_Pl_resultCycle (r_lat : Nat → Int32) (r_co : Nat → Int32) (r_op : Nat → Int32) (r_ki : Nat → Int32) (r_tg : Nat → Int32) (r_bs : Nat → Int32) (r_hr : Nat → Int32) (r_lw : Nat → Int32) (r_lr : Nat → Int32) (v1 : Int32) (v2 : Int32) : Option (Int32) :=
  (f_Op_target r_op r_tg v1).bind fun y1 =>
  (f_Op_unit r_op r_ki v1).bind fun y2 =>
  ck y2 3 <|
  ck y1 8 <|
  ck y1 8 <|
  nm (if (r_lw y1.toNatClampNeg) + (1 : Int32) < r_lr y1.toNatClampNeg then r_lr y1.toNatClampNeg else (r_lw y1.toNatClampNeg) + (1 : Int32)) fun x6 =>
  nm (if v2 + (r_lat y2.toNatClampNeg) < x6 then x6 else v2 + (r_lat y2.toNatClampNeg)) fun x7 =>
  f_Pl_resultCycle_50 5000 r_lat r_co r_op r_ki r_tg r_bs r_hr r_lw r_lr x7
def f_Pl_noteResult (r_op : Nat → Int32) (r_ki : Nat → Int32) (r_tg : Nat → Int32) (r_bs : Nat → Int32) (r_hr : Nat → Int32) (r_lw : Nat → Int32) (r_lm : Nat → Int32) (r_rc : Nat → Int32) (v1 : Int32) (v2 : Int32) : Option ((Nat → Int32) × (Nat → Int32) × (Nat → Int32) × (Nat → Int32) × (Nat → Int32)) :=
  ck v1 20 <|
  ck v2 64 <|
  ck v2 64 <|
  ck v2 64 <|
  (f_Op_target r_op r_tg v1).bind fun y5 =>
  ck y5 8 <|
  (f_Op_unit r_op r_ki v1).bind fun y7 =>
  ck y7 3 <|
  some (upd r_bs v2.toNatClampNeg ((r_bs v2.toNatClampNeg) + (1 : Int32)), upd r_hr v2.toNatClampNeg (1 : Int32), upd r_lw y5.toNatClampNeg v2, upd r_lm y7.toNatClampNeg v2, upd r_rc v1.toNatClampNeg v2)
def f_Pl_planOne (r_lat : Nat → Int32) (r_co : Nat → Int32) (r_op : Nat → Int32) (r_ki : Nat → Int32) (r_tg : Nat → Int32) (r_fi : Nat → Int32) (r_se : Nat → Int32) (r_bs : Nat → Int32) (r_rr : Nat → Int32) (r_hr : Nat → Int32) (r_lw : Nat → Int32) (r_lr : Nat → Int32) (r_lt : Nat → Int32) (r_lm : Nat → Int32) (r_tc : Nat → Int32) (r_rc : Nat → Int32) (v1 : Int32) : Option (Int32 × (Nat → Int32) × (Nat → Int32) × (Nat → Int32) × (Nat → Int32) × (Nat → Int32) × (Nat → Int32) × (Nat → Int32) × (Nat → Int32) × (Nat → Int32)) :=
  (f_Pl_triggerCycle r_lat r_co r_op r_ki r_fi r_se r_bs r_rr r_lw r_lt r_lm v1).bind fun y1 =>
  if y1 = (-1 : Int32) then
    some ((-1), r_bs, r_rr, r_hr, r_lw, r_lr, r_lt, r_lm, r_tc, r_rc)
  else
    (f_Pl_noteTrigger r_op r_ki r_fi r_se r_bs r_rr r_lr r_lt r_tc v1 y1).bind fun y3 =>
    (f_Op_isStore r_op r_ki v1).bind fun y4 =>
    if y4 = 0 then
      (f_Pl_resultCycle r_lat r_co r_op r_ki r_tg y3.1 r_hr r_lw y3.2.2.1 v1 y1).bind fun y6 =>
      if y6 = (-1 : Int32) then
        some (y6, y3.1, y3.2.1, r_hr, r_lw, y3.2.2.1, y3.2.2.2.1, r_lm, y3.2.2.2.2, r_rc)
      else
        (f_Pl_noteResult r_op r_ki r_tg y3.1 r_hr r_lw r_lm r_rc v1 y6).bind fun y8 =>
        some (y6, y8.1, y3.2.1, y8.2.1, y8.2.2.1, y3.2.2.1, y3.2.2.2.1, y8.2.2.2.1, y3.2.2.2.2, y8.2.2.2.2)
    else
      some (y1, y3.1, y3.2.1, r_hr, r_lw, y3.2.2.1, y3.2.2.2.1, r_lm, y3.2.2.2.2, r_rc)
def f_Pl_plan_8 : Nat → (Nat → Int32) → (Nat → Int32) → (Nat → Int32) → (Nat → Int32) → (Nat → Int32) → (Nat → Int32) → (Nat → Int32) → (Nat → Int32) → (Nat → Int32) → (Nat → Int32) → (Nat → Int32) → (Nat → Int32) → (Nat → Int32) → (Nat → Int32) → (Nat → Int32) → (Nat → Int32) → Int32 → Int32 → Option (Int32 × (Nat → Int32) × (Nat → Int32) × (Nat → Int32) × (Nat → Int32) × (Nat → Int32) × (Nat → Int32) × (Nat → Int32) × (Nat → Int32) × (Nat → Int32))
  | 0, _, _, _, _, _, _, _, _, _, _, _, _, _, _, _, _, _, _ => none
  | n + 1, r_lat, r_co, r_op, r_ki, r_tg, r_fi, r_se, r_bs, r_rr, r_hr, r_lw, r_lr, r_lt, r_lm, r_tc, r_rc, v1, v2 =>
    (f_Op_count r_op).bind fun y1 =>
    if y1 ≤ v2 then
      if (63 : Int32) < v1 then
        some ((-1), r_bs, r_rr, r_hr, r_lw, r_lr, r_lt, r_lm, r_tc, r_rc)
      else
        some (v1, r_bs, r_rr, r_hr, r_lw, r_lr, r_lt, r_lm, r_tc, r_rc)
    else
      (f_Pl_planOne r_lat r_co r_op r_ki r_tg r_fi r_se r_bs r_rr r_hr r_lw r_lr r_lt r_lm r_tc r_rc v2).bind fun y4 =>
      if y4.1 = (-1 : Int32) then
        some ((-1), y4.2.1, y4.2.2.1, y4.2.2.2.1, y4.2.2.2.2.1, y4.2.2.2.2.2.1, y4.2.2.2.2.2.2.1, y4.2.2.2.2.2.2.2.1, y4.2.2.2.2.2.2.2.2.1, y4.2.2.2.2.2.2.2.2.2)
      else
        nm (if v1 < y4.1 + (1 : Int32) then y4.1 + (1 : Int32) else v1) fun x6 =>
        nm (v2 + 1) fun x7 =>
        f_Pl_plan_8 n r_lat r_co r_op r_ki r_tg r_fi r_se y4.2.1 y4.2.2.1 y4.2.2.2.1 y4.2.2.2.2.1 y4.2.2.2.2.2.1 y4.2.2.2.2.2.2.1 y4.2.2.2.2.2.2.2.1 y4.2.2.2.2.2.2.2.2.1 y4.2.2.2.2.2.2.2.2.2 x6 x7
def f_Pl_plan (r_lat : Nat → Int32) (r_co : Nat → Int32) (r_op : Nat → Int32) (r_ki : Nat → Int32) (r_tg : Nat → Int32) (r_fi : Nat → Int32) (r_se : Nat → Int32) (r_bs : Nat → Int32) (r_rr : Nat → Int32) (r_hr : Nat → Int32) (r_lw : Nat → Int32) (r_lr : Nat → Int32) (r_lt : Nat → Int32) (r_lm : Nat → Int32) (r_tc : Nat → Int32) (r_rc : Nat → Int32)  : Option (Int32 × (Nat → Int32) × (Nat → Int32) × (Nat → Int32) × (Nat → Int32) × (Nat → Int32) × (Nat → Int32) × (Nat → Int32) × (Nat → Int32) × (Nat → Int32)) :=
  (f_Pl_start r_bs r_rr r_hr r_lw r_lr r_lt r_lm).bind fun y1 =>
  f_Pl_plan_8 5000 r_lat r_co r_op r_ki r_tg r_fi r_se y1.1 y1.2.1 y1.2.2.1 y1.2.2.2.1 y1.2.2.2.2.1 y1.2.2.2.2.2.1 y1.2.2.2.2.2.2 r_tc r_rc 0 0
def f_Pl_writeOne_70 (r_co : Nat → Int32) (r_ta : Nat → Int32) (r_gu : Nat → Int32) (r_so : Nat → Int32) (r_cn : Nat → Int32) (r_de : Nat → Int32) (r_op : Nat → Int32) (r_ki : Nat → Int32) (r_tg : Nat → Int32) (r_fi : Nat → Int32) (r_se : Nat → Int32) (r_oc : Nat → Int32) (r_tc : Nat → Int32) (r_rc : Nat → Int32) (v1 : Int32) (v2 : Int32) (v4 : Int32) (v5 : Int32) : Option ((Nat → Int32) × (Nat → Int32) × (Nat → Int32) × (Nat → Int32) × (Nat → Int32)) :=
  (f_Op_constantFor r_op r_oc v1 v4).bind fun y1 =>
  (f_Op_trigger r_op r_ki v1).bind fun y2 =>
  (f_Co_putOnLowestBus r_co r_ta r_gu r_so r_cn r_de v5 v4 y1 y2).bind fun y3 =>
  (f_Op_isStore r_op r_ki v1).bind fun y4 =>
  if y4 = 0 then
    ck v1 20 <|
    (f_Op_target r_op r_tg v1).bind fun y7 =>
    (f_Co_putOnLowestBus r_co y3.1 y3.2.1 y3.2.2.1 y3.2.2.2.1 y3.2.2.2.2 (r_rc v1.toNatClampNeg) ((8 : Int32) + v2) (0 : Int32) y7).bind fun y8 =>
    some (y8.1, y8.2.1, y8.2.2.1, y8.2.2.2.1, y8.2.2.2.2)
  else
    some (y3.1, y3.2.1, y3.2.2.1, y3.2.2.2.1, y3.2.2.2.2)
def f_Pl_writeOne (r_co : Nat → Int32) (r_ta : Nat → Int32) (r_gu : Nat → Int32) (r_so : Nat → Int32) (r_cn : Nat → Int32) (r_de : Nat → Int32) (r_op : Nat → Int32) (r_ki : Nat → Int32) (r_tg : Nat → Int32) (r_fi : Nat → Int32) (r_se : Nat → Int32) (r_oc : Nat → Int32) (r_tc : Nat → Int32) (r_rc : Nat → Int32) (v1 : Int32) : Option ((Nat → Int32) × (Nat → Int32) × (Nat → Int32) × (Nat → Int32) × (Nat → Int32)) :=
  (f_Op_unit r_op r_ki v1).bind fun y1 =>
  (f_Op_firstSource r_op r_fi v1).bind fun y2 =>
  (f_Op_triggerSource r_op r_ki r_fi r_se v1).bind fun y3 =>
  ck v1 20 <|
  nm (r_tc v1.toNatClampNeg : Int32) fun x5 =>
  (f_Op_isLoad r_op r_ki v1).bind fun y6 =>
  if y6 = 0 then
    (f_Op_constantFor r_op r_oc v1 y2).bind fun y8 =>
    (f_Co_putOnLowestBus r_co r_ta r_gu r_so r_cn r_de x5 y2 y8 ((8 : Int32) + y1)).bind fun y9 =>
    f_Pl_writeOne_70 r_co y9.1 y9.2.1 y9.2.2.1 y9.2.2.2.1 y9.2.2.2.2 r_op r_ki r_tg r_fi r_se r_oc r_tc r_rc v1 y1 y3 x5
  else
    f_Pl_writeOne_70 r_co r_ta r_gu r_so r_cn r_de r_op r_ki r_tg r_fi r_se r_oc r_tc r_rc v1 y1 y3 x5
def f_Pl_write_9 : Nat → (Nat → Int32) → (Nat → Int32) → (Nat → Int32) → (Nat → Int32) → (Nat → Int32) → (Nat → Int32) → (Nat → Int32) → (Nat → Int32) → (Nat → Int32) → (Nat → Int32) → (Nat → Int32) → (Nat → Int32) → (Nat → Int32) → (Nat → Int32) → Int32 → Int32 → Option ((Nat → Int32) × (Nat → Int32) × (Nat → Int32) × (Nat → Int32) × (Nat → Int32))
  | 0, _, _, _, _, _, _, _, _, _, _, _, _, _, _, _, _ => none
  | n + 1, r_co, r_ta, r_gu, r_so, r_cn, r_de, r_op, r_ki, r_tg, r_fi, r_se, r_oc, r_tc, r_rc, v1, v2 =>
    (f_Op_count r_op).bind fun y1 =>
    if y1 ≤ v2 then
      (f_Co_putOnLowestBus r_co r_ta r_gu r_so r_cn r_de v1 (11 : Int32) (0 : Int32) (25 : Int32)).bind fun y3 =>
      some (y3.1, y3.2.1, y3.2.2.1, y3.2.2.2.1, y3.2.2.2.2)
    else
      (f_Pl_writeOne r_co r_ta r_gu r_so r_cn r_de r_op r_ki r_tg r_fi r_se r_oc r_tc r_rc v2).bind fun y4 =>
      nm (v2 + 1) fun x5 =>
      f_Pl_write_9 n r_co y4.1 y4.2.1 y4.2.2.1 y4.2.2.2.1 y4.2.2.2.2 r_op r_ki r_tg r_fi r_se r_oc r_tc r_rc v1 x5
def f_Pl_write (r_co : Nat → Int32) (r_ta : Nat → Int32) (r_gu : Nat → Int32) (r_so : Nat → Int32) (r_cn : Nat → Int32) (r_de : Nat → Int32) (r_op : Nat → Int32) (r_ki : Nat → Int32) (r_tg : Nat → Int32) (r_fi : Nat → Int32) (r_se : Nat → Int32) (r_oc : Nat → Int32) (r_tc : Nat → Int32) (r_rc : Nat → Int32) (v1 : Int32) : Option ((Nat → Int32) × (Nat → Int32) × (Nat → Int32) × (Nat → Int32) × (Nat → Int32)) :=
  (f_Co_erase r_co r_ta).bind fun y1 =>
  f_Pl_write_9 5000 r_co y1 r_gu r_so r_cn r_de r_op r_ki r_tg r_fi r_se r_oc r_tc r_rc v1 0
abbrev rm_Pl_start : Room := { frames := 0, cells := 0, slots := 0, locals := 0 }
set_option maxHeartbeats 4000000 in
set_option maxRecDepth 100000 in
theorem wl_Pl_start_65 {p : Program} {l : Launch} {e : Env} {s : State} {m : MethodId} {args : Array Value} {below : List Frame} {meth : Method} {c : Code} {A : Nat → Prop} {g : GT} {a_lat : Nat} {a_co : Nat} {a_op : Nat} {a_pl : Nat} {a_bs : Nat} {a_rr : Nat} {a_hr : Nat} {a_lw : Nat} {a_lr : Nat} {a_lt : Nat} {a_lm : Nat} {a_tc : Nat} {a_rc : Nat} {y : (Nat → Int32) × (Nat → Int32) × (Nat → Int32) × (Nat → Int32) × (Nat → Int32) × (Nat → Int32) × (Nat → Int32)} (M : MX p s m args meth c b_Pl_start 2 none "MoveDesk$Planner" g A) : ∀ n : Nat, ∀ (r_bs : Nat → Int32) (r_rr : Nat → Int32) (r_hr : Nat → Int32) (r_lw : Nat → Int32) (r_lr : Nat → Int32) (r_lt : Nat → Int32) (r_lm : Nat → Int32) (v1 : Int32) (H : Heap) (locs : List Loc) (ls : Array Slot), some y = (f_Pl_start_65 n) r_bs r_rr r_hr r_lw r_lr r_lt r_lm v1 → va_P g.1 classes (w_pl_8_5e8 g a_lat a_co a_op a_pl a_bs a_rr a_hr a_lw a_lr a_lt a_lm a_tc a_rc r_bs r_rr r_hr r_lw r_lr r_lt r_lm) H → va_D A (w_pl_8_5e8 g a_lat a_co a_op a_pl a_bs a_rr a_hr a_lw a_lr a_lt a_lm a_tc a_rc r_bs r_rr r_hr r_lw r_lr r_lt r_lm) → va_S A s.heap H locs → lv_has ls 2 [(0, .ref a_pl), (1, .int v1)] → W p l e rm_Pl_start s m args below meth c H locs 0 0 (MQ below (QW g none (w_pl_8_5e8 g a_lat a_co a_op a_pl a_bs a_rr a_hr a_lw a_lr a_lt a_lm a_tc a_rc y.1 y.2.1 y.2.2.1 y.2.2.2.1 y.2.2.2.2.1 y.2.2.2.2.2.1 y.2.2.2.2.2.2) A) args s 0 0 A) (F0 m 65 ls []) := by
  obtain ⟨hx, hb, hr, hml, hown, hts, hlocks, hA, hK, hG⟩ := id M
  intro n
  induction n with
  | zero =>
    intro r_bs r_rr r_hr r_lw r_lr r_lt r_lm v1 H locs ls hE hP hD hS hl
    rw [f_Pl_start_65] at hE
    cases hE
  | succ n ih =>
    intro r_bs r_rr r_hr r_lw r_lr r_lt r_lm v1 H locs ls hE hP hD hS hl
    rw [f_Pl_start_65] at hE
    refine lv_iload_n hx hb d_Pl_start_65 rfl (lv_at hl 1 rfl) ?_
    refine lv_iconst (v := 3) hx hb d_Pl_start_66 (by decide) ?_
    refine lv_icmp_ge (tgt := 90) hx hb d_Pl_start_67 (by decide) (fun c1 => ?_) (fun c1 => ?_)
    · have hE := it_t hE c1
      have hE := Option.some.inj hE
      rw [hE]
      exact W.vret hx hb hr (fun t ht hW => ⟨⟨rfl, by rw [ht]; exact hP, va_K.moved hW.alike hK, hD⟩, hS.F ht⟩) hS.2.2 d_Pl_start_90 hlocks
    · have hE := it_f hE c1
      refine lv_aload_n hx hb d_Pl_start_70 rfl (lv_at hl 0 rfl) ?_
      refine va_get (D := g.1) (ci := 5) (v := .ref a_lt) (C := "MoveDesk$Planner") (T := F_Pl) (N := 12) hx hb hts i_Pl hown hK hP 0 rfl rfl 8 (by decide) (hts _ m_194) (fun _ h9 => h9) rfl d_Pl_start_71 ?_
      refine lv_iload_n hx hb d_Pl_start_74 rfl (lv_at hl 1 rfl) ?_
      refine lv_iconst (v := (-1)) hx hb d_Pl_start_75 (by decide) ?_
      have ⟨h2, hE⟩ := ck_at hE
      refine va_iast hx hb hK hP hD hS 6 0 rfl rfl h2 d_Pl_start_76 (fun H locs hP hD hS => ?_)
      have hP : va_P g.1 classes (w_pl_8_5e8 g a_lat a_co a_op a_pl a_bs a_rr a_hr a_lw a_lr a_lt a_lm a_tc a_rc r_bs r_rr r_hr r_lw r_lr (upd r_lt v1.toNatClampNeg (-1 : Int32)) r_lm) H := hP
      have hD : va_D A (w_pl_8_5e8 g a_lat a_co a_op a_pl a_bs a_rr a_hr a_lw a_lr a_lt a_lm a_tc a_rc r_bs r_rr r_hr r_lw r_lr (upd r_lt v1.toNatClampNeg (-1 : Int32)) r_lm) := hD
      refine lv_aload_n hx hb d_Pl_start_77 rfl (lv_at hl 0 rfl) ?_
      refine va_get (D := g.1) (ci := 5) (v := .ref a_lm) (C := "MoveDesk$Planner") (T := F_Pl) (N := 12) hx hb hts i_Pl hown hK hP 0 rfl rfl 9 (by decide) (hts _ m_195) (fun _ h9 => h9) rfl d_Pl_start_78 ?_
      refine lv_iload_n hx hb d_Pl_start_81 rfl (lv_at hl 1 rfl) ?_
      refine lv_iconst (v := (-1)) hx hb d_Pl_start_82 (by decide) ?_
      have ⟨h3, hE⟩ := ck_at hE
      refine va_iast hx hb hK hP hD hS 7 0 rfl rfl h3 d_Pl_start_83 (fun H locs hP hD hS => ?_)
      have hP : va_P g.1 classes (w_pl_8_5e8 g a_lat a_co a_op a_pl a_bs a_rr a_hr a_lw a_lr a_lt a_lm a_tc a_rc r_bs r_rr r_hr r_lw r_lr (upd r_lt v1.toNatClampNeg (-1 : Int32)) (upd r_lm v1.toNatClampNeg (-1 : Int32))) H := hP
      have hD : va_D A (w_pl_8_5e8 g a_lat a_co a_op a_pl a_bs a_rr a_hr a_lw a_lr a_lt a_lm a_tc a_rc r_bs r_rr r_hr r_lw r_lr (upd r_lt v1.toNatClampNeg (-1 : Int32)) (upd r_lm v1.toNatClampNeg (-1 : Int32))) := hD
      obtain ⟨x4, ex4⟩ : ∃ z : Int32, z = v1 + 1 := ⟨_, rfl⟩
      have hE := nm_at hE ex4
      refine lv_iinc (v := x4) (lv' := [(1, .int x4), (0, .ref a_pl)]) hx hb d_Pl_start_84 hl (k := 1) rfl (by rw [ex4]; rfl) (by decide) rfl (fun ls hl => ?_)
      refine lv_goto (tgt := 65) hx hb d_Pl_start_87 (by decide) ?_
      exact ih _ _ _ _ _ _ _ _ _ _ _ hE hP hD hS (lv_sub hl [1, 0] rfl)
set_option maxHeartbeats 4000000 in
set_option maxRecDepth 100000 in
theorem wl_Pl_start_37 {p : Program} {l : Launch} {e : Env} {s : State} {m : MethodId} {args : Array Value} {below : List Frame} {meth : Method} {c : Code} {A : Nat → Prop} {g : GT} {a_lat : Nat} {a_co : Nat} {a_op : Nat} {a_pl : Nat} {a_bs : Nat} {a_rr : Nat} {a_hr : Nat} {a_lw : Nat} {a_lr : Nat} {a_lt : Nat} {a_lm : Nat} {a_tc : Nat} {a_rc : Nat} {y : (Nat → Int32) × (Nat → Int32) × (Nat → Int32) × (Nat → Int32) × (Nat → Int32) × (Nat → Int32) × (Nat → Int32)} (M : MX p s m args meth c b_Pl_start 2 none "MoveDesk$Planner" g A) : ∀ n : Nat, ∀ (r_bs : Nat → Int32) (r_rr : Nat → Int32) (r_hr : Nat → Int32) (r_lw : Nat → Int32) (r_lr : Nat → Int32) (r_lt : Nat → Int32) (r_lm : Nat → Int32) (v1 : Int32) (H : Heap) (locs : List Loc) (ls : Array Slot), some y = (f_Pl_start_37 n) r_bs r_rr r_hr r_lw r_lr r_lt r_lm v1 → va_P g.1 classes (w_pl_8_5e8 g a_lat a_co a_op a_pl a_bs a_rr a_hr a_lw a_lr a_lt a_lm a_tc a_rc r_bs r_rr r_hr r_lw r_lr r_lt r_lm) H → va_D A (w_pl_8_5e8 g a_lat a_co a_op a_pl a_bs a_rr a_hr a_lw a_lr a_lt a_lm a_tc a_rc r_bs r_rr r_hr r_lw r_lr r_lt r_lm) → va_S A s.heap H locs → lv_has ls 2 [(0, .ref a_pl), (1, .int v1)] → W p l e rm_Pl_start s m args below meth c H locs 0 0 (MQ below (QW g none (w_pl_8_5e8 g a_lat a_co a_op a_pl a_bs a_rr a_hr a_lw a_lr a_lt a_lm a_tc a_rc y.1 y.2.1 y.2.2.1 y.2.2.2.1 y.2.2.2.2.1 y.2.2.2.2.2.1 y.2.2.2.2.2.2) A) args s 0 0 A) (F0 m 37 ls []) := by
  obtain ⟨hx, hb, hr, hml, hown, hts, hlocks, hA, hK, hG⟩ := id M
  intro n
  induction n with
  | zero =>
    intro r_bs r_rr r_hr r_lw r_lr r_lt r_lm v1 H locs ls hE hP hD hS hl
    rw [f_Pl_start_37] at hE
    cases hE
  | succ n ih =>
    intro r_bs r_rr r_hr r_lw r_lr r_lt r_lm v1 H locs ls hE hP hD hS hl
    rw [f_Pl_start_37] at hE
    refine lv_iload_n hx hb d_Pl_start_37 rfl (lv_at hl 1 rfl) ?_
    refine lv_bipush (v := 8) hx hb d_Pl_start_38 (by decide) ?_
    refine lv_icmp_ge (tgt := 63) hx hb d_Pl_start_40 (by decide) (fun c1 => ?_) (fun c1 => ?_)
    · have hE := it_t hE c1
      refine lv_iconst (v := 0) hx hb d_Pl_start_63 (by decide) ?_
      refine lv_istore_n (lv' := [(1, .int 0), (0, .ref a_pl)]) hx hb d_Pl_start_64 rfl hl (by decide) rfl (fun ls hl => ?_)
      exact wl_Pl_start_65 M 5000 _ _ _ _ _ _ _ _ _ _ _ hE hP hD hS (lv_sub hl [1, 0] rfl)
    · have hE := it_f hE c1
      refine lv_aload_n hx hb d_Pl_start_43 rfl (lv_at hl 0 rfl) ?_
      refine va_get (D := g.1) (ci := 5) (v := .ref a_lw) (C := "MoveDesk$Planner") (T := F_Pl) (N := 12) hx hb hts i_Pl hown hK hP 0 rfl rfl 6 (by decide) (hts _ m_192) (fun _ h9 => h9) rfl d_Pl_start_44 ?_
      refine lv_iload_n hx hb d_Pl_start_47 rfl (lv_at hl 1 rfl) ?_
      refine lv_iconst (v := (-1)) hx hb d_Pl_start_48 (by decide) ?_
      have ⟨h2, hE⟩ := ck_at hE
      refine va_iast hx hb hK hP hD hS 4 0 rfl rfl h2 d_Pl_start_49 (fun H locs hP hD hS => ?_)
      have hP : va_P g.1 classes (w_pl_8_5e8 g a_lat a_co a_op a_pl a_bs a_rr a_hr a_lw a_lr a_lt a_lm a_tc a_rc r_bs r_rr r_hr (upd r_lw v1.toNatClampNeg (-1 : Int32)) r_lr r_lt r_lm) H := hP
      have hD : va_D A (w_pl_8_5e8 g a_lat a_co a_op a_pl a_bs a_rr a_hr a_lw a_lr a_lt a_lm a_tc a_rc r_bs r_rr r_hr (upd r_lw v1.toNatClampNeg (-1 : Int32)) r_lr r_lt r_lm) := hD
      refine lv_aload_n hx hb d_Pl_start_50 rfl (lv_at hl 0 rfl) ?_
      refine va_get (D := g.1) (ci := 5) (v := .ref a_lr) (C := "MoveDesk$Planner") (T := F_Pl) (N := 12) hx hb hts i_Pl hown hK hP 0 rfl rfl 7 (by decide) (hts _ m_193) (fun _ h9 => h9) rfl d_Pl_start_51 ?_
      refine lv_iload_n hx hb d_Pl_start_54 rfl (lv_at hl 1 rfl) ?_
      refine lv_iconst (v := (-1)) hx hb d_Pl_start_55 (by decide) ?_
      have ⟨h3, hE⟩ := ck_at hE
      refine va_iast hx hb hK hP hD hS 5 0 rfl rfl h3 d_Pl_start_56 (fun H locs hP hD hS => ?_)
      have hP : va_P g.1 classes (w_pl_8_5e8 g a_lat a_co a_op a_pl a_bs a_rr a_hr a_lw a_lr a_lt a_lm a_tc a_rc r_bs r_rr r_hr (upd r_lw v1.toNatClampNeg (-1 : Int32)) (upd r_lr v1.toNatClampNeg (-1 : Int32)) r_lt r_lm) H := hP
      have hD : va_D A (w_pl_8_5e8 g a_lat a_co a_op a_pl a_bs a_rr a_hr a_lw a_lr a_lt a_lm a_tc a_rc r_bs r_rr r_hr (upd r_lw v1.toNatClampNeg (-1 : Int32)) (upd r_lr v1.toNatClampNeg (-1 : Int32)) r_lt r_lm) := hD
      obtain ⟨x4, ex4⟩ : ∃ z : Int32, z = v1 + 1 := ⟨_, rfl⟩
      have hE := nm_at hE ex4
      refine lv_iinc (v := x4) (lv' := [(1, .int x4), (0, .ref a_pl)]) hx hb d_Pl_start_57 hl (k := 1) rfl (by rw [ex4]; rfl) (by decide) rfl (fun ls hl => ?_)
      refine lv_goto (tgt := 37) hx hb d_Pl_start_60 (by decide) ?_
      exact ih _ _ _ _ _ _ _ _ _ _ _ hE hP hD hS (lv_sub hl [1, 0] rfl)
set_option maxHeartbeats 4000000 in
set_option maxRecDepth 100000 in
theorem wl_Pl_start_2 {p : Program} {l : Launch} {e : Env} {s : State} {m : MethodId} {args : Array Value} {below : List Frame} {meth : Method} {c : Code} {A : Nat → Prop} {g : GT} {a_lat : Nat} {a_co : Nat} {a_op : Nat} {a_pl : Nat} {a_bs : Nat} {a_rr : Nat} {a_hr : Nat} {a_lw : Nat} {a_lr : Nat} {a_lt : Nat} {a_lm : Nat} {a_tc : Nat} {a_rc : Nat} {y : (Nat → Int32) × (Nat → Int32) × (Nat → Int32) × (Nat → Int32) × (Nat → Int32) × (Nat → Int32) × (Nat → Int32)} (M : MX p s m args meth c b_Pl_start 2 none "MoveDesk$Planner" g A) : ∀ n : Nat, ∀ (r_bs : Nat → Int32) (r_rr : Nat → Int32) (r_hr : Nat → Int32) (r_lw : Nat → Int32) (r_lr : Nat → Int32) (r_lt : Nat → Int32) (r_lm : Nat → Int32) (v1 : Int32) (H : Heap) (locs : List Loc) (ls : Array Slot), some y = (f_Pl_start_2 n) r_bs r_rr r_hr r_lw r_lr r_lt r_lm v1 → va_P g.1 classes (w_pl_8_5e8 g a_lat a_co a_op a_pl a_bs a_rr a_hr a_lw a_lr a_lt a_lm a_tc a_rc r_bs r_rr r_hr r_lw r_lr r_lt r_lm) H → va_D A (w_pl_8_5e8 g a_lat a_co a_op a_pl a_bs a_rr a_hr a_lw a_lr a_lt a_lm a_tc a_rc r_bs r_rr r_hr r_lw r_lr r_lt r_lm) → va_S A s.heap H locs → lv_has ls 2 [(0, .ref a_pl), (1, .int v1)] → W p l e rm_Pl_start s m args below meth c H locs 0 0 (MQ below (QW g none (w_pl_8_5e8 g a_lat a_co a_op a_pl a_bs a_rr a_hr a_lw a_lr a_lt a_lm a_tc a_rc y.1 y.2.1 y.2.2.1 y.2.2.2.1 y.2.2.2.2.1 y.2.2.2.2.2.1 y.2.2.2.2.2.2) A) args s 0 0 A) (F0 m 2 ls []) := by
  obtain ⟨hx, hb, hr, hml, hown, hts, hlocks, hA, hK, hG⟩ := id M
  intro n
  induction n with
  | zero =>
    intro r_bs r_rr r_hr r_lw r_lr r_lt r_lm v1 H locs ls hE hP hD hS hl
    rw [f_Pl_start_2] at hE
    cases hE
  | succ n ih =>
    intro r_bs r_rr r_hr r_lw r_lr r_lt r_lm v1 H locs ls hE hP hD hS hl
    rw [f_Pl_start_2] at hE
    refine lv_iload_n hx hb d_Pl_start_2 rfl (lv_at hl 1 rfl) ?_
    refine lv_bipush (v := 64) hx hb d_Pl_start_3 (by decide) ?_
    refine lv_icmp_ge (tgt := 35) hx hb d_Pl_start_5 (by decide) (fun c1 => ?_) (fun c1 => ?_)
    · have hE := it_t hE c1
      refine lv_iconst (v := 0) hx hb d_Pl_start_35 (by decide) ?_
      refine lv_istore_n (lv' := [(1, .int 0), (0, .ref a_pl)]) hx hb d_Pl_start_36 rfl hl (by decide) rfl (fun ls hl => ?_)
      exact wl_Pl_start_37 M 5000 _ _ _ _ _ _ _ _ _ _ _ hE hP hD hS (lv_sub hl [1, 0] rfl)
    · have hE := it_f hE c1
      refine lv_aload_n hx hb d_Pl_start_8 rfl (lv_at hl 0 rfl) ?_
      refine va_get (D := g.1) (ci := 5) (v := .ref a_bs) (C := "MoveDesk$Planner") (T := F_Pl) (N := 12) hx hb hts i_Pl hown hK hP 0 rfl rfl 3 (by decide) (hts _ m_189) (fun _ h9 => h9) rfl d_Pl_start_9 ?_
      refine lv_iload_n hx hb d_Pl_start_12 rfl (lv_at hl 1 rfl) ?_
      refine lv_iconst (v := 0) hx hb d_Pl_start_13 (by decide) ?_
      have ⟨h2, hE⟩ := ck_at hE
      refine va_iast hx hb hK hP hD hS 1 0 rfl rfl h2 d_Pl_start_14 (fun H locs hP hD hS => ?_)
      have hP : va_P g.1 classes (w_pl_8_5e8 g a_lat a_co a_op a_pl a_bs a_rr a_hr a_lw a_lr a_lt a_lm a_tc a_rc (upd r_bs v1.toNatClampNeg (0 : Int32)) r_rr r_hr r_lw r_lr r_lt r_lm) H := hP
      have hD : va_D A (w_pl_8_5e8 g a_lat a_co a_op a_pl a_bs a_rr a_hr a_lw a_lr a_lt a_lm a_tc a_rc (upd r_bs v1.toNatClampNeg (0 : Int32)) r_rr r_hr r_lw r_lr r_lt r_lm) := hD
      refine lv_aload_n hx hb d_Pl_start_15 rfl (lv_at hl 0 rfl) ?_
      refine va_get (D := g.1) (ci := 5) (v := .ref a_rr) (C := "MoveDesk$Planner") (T := F_Pl) (N := 12) hx hb hts i_Pl hown hK hP 0 rfl rfl 4 (by decide) (hts _ m_190) (fun _ h9 => h9) rfl d_Pl_start_16 ?_
      refine lv_iload_n hx hb d_Pl_start_19 rfl (lv_at hl 1 rfl) ?_
      refine lv_iconst (v := 0) hx hb d_Pl_start_20 (by decide) ?_
      have ⟨h3, hE⟩ := ck_at hE
      refine va_iast hx hb hK hP hD hS 2 0 rfl rfl h3 d_Pl_start_21 (fun H locs hP hD hS => ?_)
      have hP : va_P g.1 classes (w_pl_8_5e8 g a_lat a_co a_op a_pl a_bs a_rr a_hr a_lw a_lr a_lt a_lm a_tc a_rc (upd r_bs v1.toNatClampNeg (0 : Int32)) (upd r_rr v1.toNatClampNeg (0 : Int32)) r_hr r_lw r_lr r_lt r_lm) H := hP
      have hD : va_D A (w_pl_8_5e8 g a_lat a_co a_op a_pl a_bs a_rr a_hr a_lw a_lr a_lt a_lm a_tc a_rc (upd r_bs v1.toNatClampNeg (0 : Int32)) (upd r_rr v1.toNatClampNeg (0 : Int32)) r_hr r_lw r_lr r_lt r_lm) := hD
      refine lv_aload_n hx hb d_Pl_start_22 rfl (lv_at hl 0 rfl) ?_
      refine va_get (D := g.1) (ci := 5) (v := .ref a_hr) (C := "MoveDesk$Planner") (T := F_Pl) (N := 12) hx hb hts i_Pl hown hK hP 0 rfl rfl 5 (by decide) (hts _ m_191) (fun _ h9 => h9) rfl d_Pl_start_23 ?_
      refine lv_iload_n hx hb d_Pl_start_26 rfl (lv_at hl 1 rfl) ?_
      refine lv_iconst (v := 0) hx hb d_Pl_start_27 (by decide) ?_
      have ⟨h4, hE⟩ := ck_at hE
      refine va_zast hx hb hK hP hD hS 3 1 rfl rfl h4 d_Pl_start_28 (fun H locs hP hD hS => ?_)
      have hP : va_P g.1 classes (w_pl_8_5e8 g a_lat a_co a_op a_pl a_bs a_rr a_hr a_lw a_lr a_lt a_lm a_tc a_rc (upd r_bs v1.toNatClampNeg (0 : Int32)) (upd r_rr v1.toNatClampNeg (0 : Int32)) (upd r_hr v1.toNatClampNeg (0 : Int32)) r_lw r_lr r_lt r_lm) H := hP
      have hD : va_D A (w_pl_8_5e8 g a_lat a_co a_op a_pl a_bs a_rr a_hr a_lw a_lr a_lt a_lm a_tc a_rc (upd r_bs v1.toNatClampNeg (0 : Int32)) (upd r_rr v1.toNatClampNeg (0 : Int32)) (upd r_hr v1.toNatClampNeg (0 : Int32)) r_lw r_lr r_lt r_lm) := hD
      obtain ⟨x5, ex5⟩ : ∃ z : Int32, z = v1 + 1 := ⟨_, rfl⟩
      have hE := nm_at hE ex5
      refine lv_iinc (v := x5) (lv' := [(1, .int x5), (0, .ref a_pl)]) hx hb d_Pl_start_29 hl (k := 1) rfl (by rw [ex5]; rfl) (by decide) rfl (fun ls hl => ?_)
      refine lv_goto (tgt := 2) hx hb d_Pl_start_32 (by decide) ?_
      exact ih _ _ _ _ _ _ _ _ _ _ _ hE hP hD hS (lv_sub hl [1, 0] rfl)
set_option maxHeartbeats 4000000 in
set_option maxRecDepth 100000 in
theorem c_Pl_start (l : Launch) (g : GT) (a_lat : Nat) (a_co : Nat) (a_op : Nat) (a_pl : Nat) (a_bs : Nat) (a_rr : Nat) (a_hr : Nat) (a_lw : Nat) (a_lr : Nat) (a_lt : Nat) (a_lm : Nat) (a_tc : Nat) (a_rc : Nat) (r_bs : Nat → Int32) (r_rr : Nat → Int32) (r_hr : Nat → Int32) (r_lw : Nat → Int32) (r_lr : Nat → Int32) (r_lt : Nat → Int32) (r_lm : Nat → Int32)  (y : (Nat → Int32) × (Nat → Int32) × (Nat → Int32) × (Nat → Int32) × (Nat → Int32) × (Nat → Int32) × (Nat → Int32)) (hy : some y = f_Pl_start r_bs r_rr r_hr r_lw r_lr r_lt r_lm) : Ct l y_Pl_start (.code y_Pl_start b_Pl_start 2 none) rm_Pl_start g [.ref a_pl] (w_pl_8_5e8 g a_lat a_co a_op a_pl a_bs a_rr a_hr a_lw a_lr a_lt a_lm a_tc a_rc r_bs r_rr r_hr r_lw r_lr r_lt r_lm) (w_pl_8_5e8 g a_lat a_co a_op a_pl a_bs a_rr a_hr a_lw a_lr a_lt a_lm a_tc a_rc y.1 y.2.1 y.2.2.1 y.2.2.2.1 y.2.2.2.2.1 y.2.2.2.2.2.1 y.2.2.2.2.2.2) none := by
  refine ct_in (C := "MoveDesk$Planner") rfl (by decide) (Nat.le_of_ble_eq_true rfl) (fun p e s m below meth c A ls M hP hD hS hl => ?_)
  obtain ⟨hx, hb, hr, hml, hown, hts, hlocks, hA, hK, hG⟩ := id M
  have hl : lv_has ls 2 [(0, .ref a_pl)] := hl
  have hE := hy
  rw [f_Pl_start] at hE
  refine lv_iconst (v := 0) hx hb d_Pl_start_0 (by decide) ?_
  refine lv_istore_n (lv' := [(1, .int 0), (0, .ref a_pl)]) hx hb d_Pl_start_1 rfl hl (by decide) rfl (fun ls hl => ?_)
  exact wl_Pl_start_2 M 5000 _ _ _ _ _ _ _ _ _ _ _ hE hP hD hS (lv_sub hl [1, 0] rfl)
abbrev rm_Pl_earliestTrigger : Room := { frames := 1, cells := 0, slots := 0, locals := 21 }
set_option maxHeartbeats 4000000 in
set_option maxRecDepth 100000 in
theorem wl_Pl_earliestTrigger_54 {p : Program} {l : Launch} {e : Env} {s : State} {m : MethodId} {args : Array Value} {below : List Frame} {meth : Method} {c : Code} {A : Nat → Prop} {g : GT} {a_lat : Nat} {a_co : Nat} {a_op : Nat} {a_ki : Nat} {a_tg : Nat} {a_fi : Nat} {a_se : Nat} {a_oc : Nat} {a_cp : Nat} {a_pl : Nat} {a_bs : Nat} {a_rr : Nat} {a_hr : Nat} {a_lw : Nat} {a_lr : Nat} {a_lt : Nat} {a_lm : Nat} {a_tc : Nat} {a_rc : Nat} {y : Int32} (M : MX p s m args meth c b_Pl_earliestTrigger 6 (some .int) "MoveDesk$Planner" g A) (rec_22 : (Nat → Int32) → (Nat → Int32) → (Nat → Int32) → (Nat → Int32) → (Nat → Int32) → (Nat → Int32) → Int32 → Int32 → Int32 → Int32 → Int32 → Option (Int32)) (hrec_22 : ∀ (r_lat : Nat → Int32) (r_op : Nat → Int32) (r_ki : Nat → Int32) (r_lw : Nat → Int32) (r_lt : Nat → Int32) (r_lm : Nat → Int32) (v1 : Int32) (v2 : Int32) (v3 : Int32) (v4 : Int32) (v5 : Int32) (H : Heap) (locs : List Loc) (ls : Array Slot), some y = rec_22 r_lat r_op r_ki r_lw r_lt r_lm v1 v2 v3 v4 v5 → va_P g.1 classes (w_lat_7_2bed g a_lat a_co a_op a_ki a_tg a_fi a_se a_oc a_cp a_pl a_bs a_rr a_hr a_lw a_lr a_lt a_lm a_tc a_rc r_lat r_op r_ki r_lw r_lt r_lm) H → va_D A (w_lat_7_2bed g a_lat a_co a_op a_ki a_tg a_fi a_se a_oc a_cp a_pl a_bs a_rr a_hr a_lw a_lr a_lt a_lm a_tc a_rc r_lat r_op r_ki r_lw r_lt r_lm) → va_S A s.heap H locs → lv_has ls 6 [(0, .ref a_pl), (1, .int v1), (2, .int v2), (3, .int v3), (4, .int v4), (5, .int v5)] → W p l e rm_Pl_earliestTrigger s m args below meth c H locs 0 0 (MQ below (QW g (some (.int y)) (w_lat_7_2bed g a_lat a_co a_op a_ki a_tg a_fi a_se a_oc a_cp a_pl a_bs a_rr a_hr a_lw a_lr a_lt a_lm a_tc a_rc r_lat r_op r_ki r_lw r_lt r_lm) A) args s 0 0 A) (F0 m 22 ls [])) : ∀ (r_lat : Nat → Int32) (r_op : Nat → Int32) (r_ki : Nat → Int32) (r_lw : Nat → Int32) (r_lt : Nat → Int32) (r_lm : Nat → Int32) (v1 : Int32) (v2 : Int32) (v3 : Int32) (v4 : Int32) (v5 : Int32) (H : Heap) (locs : List Loc) (ls : Array Slot), some y = (f_Pl_earliestTrigger_54 rec_22) r_lat r_op r_ki r_lw r_lt r_lm v1 v2 v3 v4 v5 → va_P g.1 classes (w_lat_7_2bed g a_lat a_co a_op a_ki a_tg a_fi a_se a_oc a_cp a_pl a_bs a_rr a_hr a_lw a_lr a_lt a_lm a_tc a_rc r_lat r_op r_ki r_lw r_lt r_lm) H → va_D A (w_lat_7_2bed g a_lat a_co a_op a_ki a_tg a_fi a_se a_oc a_cp a_pl a_bs a_rr a_hr a_lw a_lr a_lt a_lm a_tc a_rc r_lat r_op r_ki r_lw r_lt r_lm) → va_S A s.heap H locs → lv_has ls 6 [(0, .ref a_pl), (1, .int v1), (2, .int v2), (3, .int v3), (4, .int v4), (5, .int v5)] → W p l e rm_Pl_earliestTrigger s m args below meth c H locs 0 0 (MQ below (QW g (some (.int y)) (w_lat_7_2bed g a_lat a_co a_op a_ki a_tg a_fi a_se a_oc a_cp a_pl a_bs a_rr a_hr a_lw a_lr a_lt a_lm a_tc a_rc r_lat r_op r_ki r_lw r_lt r_lm) A) args s 0 0 A) (F0 m 54 ls []) := by
  obtain ⟨hx, hb, hr, hml, hown, hts, hlocks, hA, hK, hG⟩ := id M
  intro r_lat r_op r_ki r_lw r_lt r_lm v1 v2 v3 v4 v5 H locs ls hE hP hD hS hl
  rw [f_Pl_earliestTrigger_54] at hE
  obtain ⟨x1, ex1⟩ : ∃ z : Int32, z = v5 + 1 := ⟨_, rfl⟩
  have hE := nm_at hE ex1
  refine lv_iinc (v := x1) (lv' := [(5, .int x1), (0, .ref a_pl), (1, .int v1), (2, .int v2), (3, .int v3), (4, .int v4)]) hx hb d_Pl_earliestTrigger_54 hl (k := 5) rfl (by rw [ex1]; rfl) (by decide) rfl (fun ls hl => ?_)
  refine lv_goto (tgt := 22) hx hb d_Pl_earliestTrigger_57 (by decide) ?_
  exact hrec_22 _ _ _ _ _ _ _ _ _ _ _ _ _ _ hE hP hD hS (lv_sub hl [1, 2, 3, 4, 5, 0] rfl)
set_option maxHeartbeats 4000000 in
set_option maxRecDepth 100000 in
theorem wl_Pl_earliestTrigger_22 {p : Program} {l : Launch} {e : Env} {s : State} {m : MethodId} {args : Array Value} {below : List Frame} {meth : Method} {c : Code} {A : Nat → Prop} {g : GT} {a_lat : Nat} {a_co : Nat} {a_op : Nat} {a_ki : Nat} {a_tg : Nat} {a_fi : Nat} {a_se : Nat} {a_oc : Nat} {a_cp : Nat} {a_pl : Nat} {a_bs : Nat} {a_rr : Nat} {a_hr : Nat} {a_lw : Nat} {a_lr : Nat} {a_lt : Nat} {a_lm : Nat} {a_tc : Nat} {a_rc : Nat} {y : Int32} (M : MX p s m args meth c b_Pl_earliestTrigger 6 (some .int) "MoveDesk$Planner" g A) : ∀ n : Nat, ∀ (r_lat : Nat → Int32) (r_op : Nat → Int32) (r_ki : Nat → Int32) (r_lw : Nat → Int32) (r_lt : Nat → Int32) (r_lm : Nat → Int32) (v1 : Int32) (v2 : Int32) (v3 : Int32) (v4 : Int32) (v5 : Int32) (H : Heap) (locs : List Loc) (ls : Array Slot), some y = (f_Pl_earliestTrigger_22 n) r_lat r_op r_ki r_lw r_lt r_lm v1 v2 v3 v4 v5 → va_P g.1 classes (w_lat_7_2bed g a_lat a_co a_op a_ki a_tg a_fi a_se a_oc a_cp a_pl a_bs a_rr a_hr a_lw a_lr a_lt a_lm a_tc a_rc r_lat r_op r_ki r_lw r_lt r_lm) H → va_D A (w_lat_7_2bed g a_lat a_co a_op a_ki a_tg a_fi a_se a_oc a_cp a_pl a_bs a_rr a_hr a_lw a_lr a_lt a_lm a_tc a_rc r_lat r_op r_ki r_lw r_lt r_lm) → va_S A s.heap H locs → lv_has ls 6 [(0, .ref a_pl), (1, .int v1), (2, .int v2), (3, .int v3), (4, .int v4), (5, .int v5)] → W p l e rm_Pl_earliestTrigger s m args below meth c H locs 0 0 (MQ below (QW g (some (.int y)) (w_lat_7_2bed g a_lat a_co a_op a_ki a_tg a_fi a_se a_oc a_cp a_pl a_bs a_rr a_hr a_lw a_lr a_lt a_lm a_tc a_rc r_lat r_op r_ki r_lw r_lt r_lm) A) args s 0 0 A) (F0 m 22 ls []) := by
  obtain ⟨hx, hb, hr, hml, hown, hts, hlocks, hA, hK, hG⟩ := id M
  intro n
  induction n with
  | zero =>
    intro r_lat r_op r_ki r_lw r_lt r_lm v1 v2 v3 v4 v5 H locs ls hE hP hD hS hl
    rw [f_Pl_earliestTrigger_22] at hE
    cases hE
  | succ n ih =>
    intro r_lat r_op r_ki r_lw r_lt r_lm v1 v2 v3 v4 v5 H locs ls hE hP hD hS hl
    rw [f_Pl_earliestTrigger_22] at hE
    refine lv_iload hx hb d_Pl_earliestTrigger_22 (lv_at hl 5 rfl) ?_
    refine lv_bipush (v := 8) hx hb d_Pl_earliestTrigger_24 (by decide) ?_
    refine lv_icmp_ge (tgt := 60) hx hb d_Pl_earliestTrigger_26 (by decide) (fun c1 => ?_) (fun c1 => ?_)
    · have hE := it_t hE c1
      refine lv_aload_n hx hb d_Pl_earliestTrigger_60 rfl (lv_at hl 0 rfl) ?_
      refine va_get (D := g.1) (ci := 5) (v := .ref a_op) (C := "MoveDesk$Planner") (T := F_Pl) (N := 12) hx hb hts i_Pl hown hK hP 3 rfl rfl 1 (by decide) (hts _ m_187) (fun _ h9 => h9) rfl d_Pl_earliestTrigger_61 ?_
      refine lv_iload_n hx hb d_Pl_earliestTrigger_64 rfl (lv_at hl 1 rfl) ?_
      obtain ⟨y2, hy2, hE⟩ := bd_at hE
      refine kV (C := "MoveDesk$Operations") (index := 77) (As := [.int v1]) (rest := []) (ws2 := (w_lat_7_2bed g a_lat a_co a_op a_ki a_tg a_fi a_se a_oc a_cp a_pl a_bs a_rr a_hr a_lw a_lr a_lt a_lm a_tc a_rc r_lat r_op r_ki r_lw r_lt r_lm)) M hP hD hS hl.1 (c_Op_isStore l g a_op a_ki a_tg a_fi a_se a_oc a_cp r_op r_ki v1 y2 hy2) m_647 m_648 m_649 m_6 m_650 hd_Op_isStore rfl rfl rfl ⟨by decide, by decide⟩ ⟨by decide, by decide⟩ 4 0 rfl rfl rfl [1, 2] [0, 3, 4, 5, 6] [0, 5, 6, 1, 2, 3, 4] rfl rfl rfl rfl (by decide) rfl rfl rfl (Nat.le_of_ble_eq_true rfl) d_Pl_earliestTrigger_65 (fun H locs hP hD hS => ?_)
      refine W.eq (g2 := F0 m 68 ls [.int y2]) rfl ?_
      refine lv_if_ne (tgt := 93) hx hb d_Pl_earliestTrigger_68 (by decide) (fun c3 => ?_) (fun c3 => ?_)
      · have hE := it_f hE c3
        refine lv_iload hx hb d_Pl_earliestTrigger_93 (lv_at hl 4 rfl) ?_
        have hE := Option.some.inj hE
        rw [hE]
        exact W.iret (v := v4) hx hb hr (fun t ht hW => ⟨⟨rfl, by rw [ht]; exact hP, va_K.moved hW.alike hK, hD⟩, hS.F ht⟩) hS.2.2 d_Pl_earliestTrigger_95 hlocks
      · have hE := it_t hE c3
        refine lv_iload hx hb d_Pl_earliestTrigger_71 (lv_at hl 4 rfl) ?_
        refine lv_aload_n hx hb d_Pl_earliestTrigger_73 rfl (lv_at hl 0 rfl) ?_
        refine va_get (D := g.1) (ci := 5) (v := .ref a_lm) (C := "MoveDesk$Planner") (T := F_Pl) (N := 12) hx hb hts i_Pl hown hK hP 3 rfl rfl 9 (by decide) (hts _ m_195) (fun _ h9 => h9) rfl d_Pl_earliestTrigger_74 ?_
        refine lv_iload_n hx hb d_Pl_earliestTrigger_77 rfl (lv_at hl 3 rfl) ?_
        have ⟨h4, hE⟩ := ck_at hE
        refine va_iald hx hb hK hP 6 0 rfl rfl h4 d_Pl_earliestTrigger_78 ?_
        refine lv_iconst (v := 1) hx hb d_Pl_earliestTrigger_79 (by decide) ?_
        refine lv_iadd hx hb d_Pl_earliestTrigger_80 ?_
        refine lv_aload_n hx hb d_Pl_earliestTrigger_81 rfl (lv_at hl 0 rfl) ?_
        refine va_get (D := g.1) (ci := 5) (v := .ref a_lat) (C := "MoveDesk$Planner") (T := F_Pl) (N := 12) hx hb hts i_Pl hown hK hP 3 rfl rfl 2 (by decide) (hts _ m_188) (fun _ h9 => h9) rfl d_Pl_earliestTrigger_82 ?_
        refine lv_iload_n hx hb d_Pl_earliestTrigger_85 rfl (lv_at hl 3 rfl) ?_
        have ⟨h5, hE⟩ := ck_at hE
        refine va_iald hx hb hK hP 0 0 rfl rfl h5 d_Pl_earliestTrigger_86 ?_
        refine lv_isub hx hb d_Pl_earliestTrigger_87 ?_
        refine va_mmax hx hb (hml.trans hl.1.symm) hown (hts _ m_646) (hts _ m_31) (hts _ m_2) (hts _ m_32) (by decide) (Nat.le_of_ble_eq_true rfl) (by decide) (by decide) d_Pl_earliestTrigger_88 ?_
        refine lv_topi (fun x6 ex6 => ?_)
        have hE := nm_at hE ex6
        refine lv_istore (lv' := [(4, .int x6), (0, .ref a_pl), (1, .int v1), (2, .int v2), (3, .int v3), (5, .int v5)]) hx hb d_Pl_earliestTrigger_91 hl (by decide) rfl (fun ls hl => ?_)
        refine lv_iload hx hb d_Pl_earliestTrigger_93 (lv_at hl 0 rfl) ?_
        have hE := Option.some.inj hE
        rw [hE]
        exact W.iret (v := x6) hx hb hr (fun t ht hW => ⟨⟨rfl, by rw [ht]; exact hP, va_K.moved hW.alike hK, hD⟩, hS.F ht⟩) hS.2.2 d_Pl_earliestTrigger_95 hlocks
    · have hE := it_f hE c1
      refine lv_iload_n hx hb d_Pl_earliestTrigger_29 rfl (lv_at hl 2 rfl) ?_
      refine lv_iload hx hb d_Pl_earliestTrigger_30 (lv_at hl 5 rfl) ?_
      refine lv_ishr hx hb d_Pl_earliestTrigger_32 ?_
      refine lv_iconst (v := 1) hx hb d_Pl_earliestTrigger_33 (by decide) ?_
      refine lv_iand hx hb d_Pl_earliestTrigger_34 ?_
      refine lv_if_eq (tgt := 54) hx hb d_Pl_earliestTrigger_35 (by decide) (fun c7 => ?_) (fun c7 => ?_)
      · have hE := it_t hE c7
        exact wl_Pl_earliestTrigger_54 M (f_Pl_earliestTrigger_22 n) ih _ _ _ _ _ _ _ _ _ _ _ _ _ _ hE hP hD hS (lv_sub hl [0, 1, 2, 3, 4, 5] rfl)
      · have hE := it_f hE c7
        refine lv_iload hx hb d_Pl_earliestTrigger_38 (lv_at hl 4 rfl) ?_
        refine lv_aload_n hx hb d_Pl_earliestTrigger_40 rfl (lv_at hl 0 rfl) ?_
        refine va_get (D := g.1) (ci := 5) (v := .ref a_lw) (C := "MoveDesk$Planner") (T := F_Pl) (N := 12) hx hb hts i_Pl hown hK hP 3 rfl rfl 6 (by decide) (hts _ m_192) (fun _ h9 => h9) rfl d_Pl_earliestTrigger_41 ?_
        refine lv_iload hx hb d_Pl_earliestTrigger_44 (lv_at hl 5 rfl) ?_
        have ⟨h8, hE⟩ := ck_at hE
        refine va_iald hx hb hK hP 4 0 rfl rfl h8 d_Pl_earliestTrigger_46 ?_
        refine lv_iconst (v := 1) hx hb d_Pl_earliestTrigger_47 (by decide) ?_
        refine lv_iadd hx hb d_Pl_earliestTrigger_48 ?_
        refine va_mmax hx hb (hml.trans hl.1.symm) hown (hts _ m_646) (hts _ m_31) (hts _ m_2) (hts _ m_32) (by decide) (Nat.le_of_ble_eq_true rfl) (by decide) (by decide) d_Pl_earliestTrigger_49 ?_
        refine lv_topi (fun x9 ex9 => ?_)
        have hE := nm_at hE ex9
        refine lv_istore (lv' := [(4, .int x9), (0, .ref a_pl), (1, .int v1), (2, .int v2), (3, .int v3), (5, .int v5)]) hx hb d_Pl_earliestTrigger_52 hl (by decide) rfl (fun ls hl => ?_)
        exact wl_Pl_earliestTrigger_54 M (f_Pl_earliestTrigger_22 n) ih _ _ _ _ _ _ _ _ _ _ _ _ _ _ hE hP hD hS (lv_sub hl [1, 2, 3, 4, 0, 5] rfl)
set_option maxHeartbeats 4000000 in
set_option maxRecDepth 100000 in
theorem c_Pl_earliestTrigger (l : Launch) (g : GT) (a_lat : Nat) (a_co : Nat) (a_op : Nat) (a_ki : Nat) (a_tg : Nat) (a_fi : Nat) (a_se : Nat) (a_oc : Nat) (a_cp : Nat) (a_pl : Nat) (a_bs : Nat) (a_rr : Nat) (a_hr : Nat) (a_lw : Nat) (a_lr : Nat) (a_lt : Nat) (a_lm : Nat) (a_tc : Nat) (a_rc : Nat) (r_lat : Nat → Int32) (r_op : Nat → Int32) (r_ki : Nat → Int32) (r_lw : Nat → Int32) (r_lt : Nat → Int32) (r_lm : Nat → Int32) (v1 : Int32) (v2 : Int32) (y : Int32) (hy : some y = f_Pl_earliestTrigger r_lat r_op r_ki r_lw r_lt r_lm v1 v2) : Ct l y_Pl_earliestTrigger (.code y_Pl_earliestTrigger b_Pl_earliestTrigger 6 (some .int)) rm_Pl_earliestTrigger g [.ref a_pl, .int v1, .int v2] (w_lat_7_2bed g a_lat a_co a_op a_ki a_tg a_fi a_se a_oc a_cp a_pl a_bs a_rr a_hr a_lw a_lr a_lt a_lm a_tc a_rc r_lat r_op r_ki r_lw r_lt r_lm) (w_lat_7_2bed g a_lat a_co a_op a_ki a_tg a_fi a_se a_oc a_cp a_pl a_bs a_rr a_hr a_lw a_lr a_lt a_lm a_tc a_rc r_lat r_op r_ki r_lw r_lt r_lm) (some (.int y)) := by
  refine ct_in (C := "MoveDesk$Planner") rfl (by decide) (Nat.le_of_ble_eq_true rfl) (fun p e s m below meth c A ls M hP hD hS hl => ?_)
  obtain ⟨hx, hb, hr, hml, hown, hts, hlocks, hA, hK, hG⟩ := id M
  have hl : lv_has ls 6 [(0, .ref a_pl), (1, .int v1), (2, .int v2)] := hl
  have hE := hy
  rw [f_Pl_earliestTrigger] at hE
  refine lv_aload_n hx hb d_Pl_earliestTrigger_0 rfl (lv_at hl 0 rfl) ?_
  refine va_get (D := g.1) (ci := 5) (v := .ref a_op) (C := "MoveDesk$Planner") (T := F_Pl) (N := 12) hx hb hts i_Pl hown hK hP 3 rfl rfl 1 (by decide) (hts _ m_187) (fun _ h9 => h9) rfl d_Pl_earliestTrigger_1 ?_
  refine lv_iload_n hx hb d_Pl_earliestTrigger_4 rfl (lv_at hl 1 rfl) ?_
  obtain ⟨y1, hy1, hE⟩ := bd_at hE
  refine kV (C := "MoveDesk$Operations") (index := 106) (As := [.int v1]) (rest := []) (ws2 := (w_lat_7_2bed g a_lat a_co a_op a_ki a_tg a_fi a_se a_oc a_cp a_pl a_bs a_rr a_hr a_lw a_lr a_lt a_lm a_tc a_rc r_lat r_op r_ki r_lw r_lt r_lm)) M hP hD hS hl.1 (c_Op_unit l g a_op a_ki a_tg a_fi a_se a_oc a_cp r_op r_ki v1 y1 hy1) m_642 m_643 m_644 m_6 m_645 hd_Op_unit rfl rfl rfl ⟨by decide, by decide⟩ ⟨by decide, by decide⟩ 4 0 rfl rfl rfl [1, 2] [0, 3, 4, 5, 6] [0, 5, 6, 1, 2, 3, 4] rfl rfl rfl rfl (by decide) rfl rfl rfl (Nat.le_of_ble_eq_true rfl) d_Pl_earliestTrigger_5 (fun H locs hP hD hS => ?_)
  refine W.eq (g2 := F0 m 8 ls [.int y1]) rfl ?_
  refine lv_istore_n (lv' := [(3, .int y1), (0, .ref a_pl), (1, .int v1), (2, .int v2)]) hx hb d_Pl_earliestTrigger_8 rfl hl (by decide) rfl (fun ls hl => ?_)
  refine lv_aload_n hx hb d_Pl_earliestTrigger_9 rfl (lv_at hl 1 rfl) ?_
  refine va_get (D := g.1) (ci := 5) (v := .ref a_lt) (C := "MoveDesk$Planner") (T := F_Pl) (N := 12) hx hb hts i_Pl hown hK hP 3 rfl rfl 8 (by decide) (hts _ m_194) (fun _ h9 => h9) rfl d_Pl_earliestTrigger_10 ?_
  refine lv_iload_n hx hb d_Pl_earliestTrigger_13 rfl (lv_at hl 0 rfl) ?_
  have ⟨h2, hE⟩ := ck_at hE
  refine va_iald hx hb hK hP 5 0 rfl rfl h2 d_Pl_earliestTrigger_14 ?_
  refine lv_iconst (v := 1) hx hb d_Pl_earliestTrigger_15 (by decide) ?_
  refine lv_iadd hx hb d_Pl_earliestTrigger_16 ?_
  refine lv_topi (fun x3 ex3 => ?_)
  have hE := nm_at hE ex3
  refine lv_istore (lv' := [(4, .int x3), (3, .int y1), (0, .ref a_pl), (1, .int v1), (2, .int v2)]) hx hb d_Pl_earliestTrigger_17 hl (by decide) rfl (fun ls hl => ?_)
  refine lv_iconst (v := 0) hx hb d_Pl_earliestTrigger_19 (by decide) ?_
  refine lv_istore (lv' := [(5, .int 0), (4, .int x3), (3, .int y1), (0, .ref a_pl), (1, .int v1), (2, .int v2)]) hx hb d_Pl_earliestTrigger_20 hl (by decide) rfl (fun ls hl => ?_)
  exact wl_Pl_earliestTrigger_22 M 5000 _ _ _ _ _ _ _ _ _ _ _ _ _ _ hE hP hD hS (lv_sub hl [3, 4, 5, 2, 1, 0] rfl)
abbrev rm_Pl_triggerCycle : Room := { frames := 3, cells := 0, slots := 0, locals := 63 }
set_option maxHeartbeats 4000000 in
set_option maxRecDepth 100000 in
theorem wl_Pl_triggerCycle_79 {p : Program} {l : Launch} {e : Env} {s : State} {m : MethodId} {args : Array Value} {below : List Frame} {meth : Method} {c : Code} {A : Nat → Prop} {g : GT} {a_lat : Nat} {a_co : Nat} {a_ta : Nat} {a_gu : Nat} {a_so : Nat} {a_cn : Nat} {a_de : Nat} {a_op : Nat} {a_ki : Nat} {a_tg : Nat} {a_fi : Nat} {a_se : Nat} {a_oc : Nat} {a_cp : Nat} {a_pl : Nat} {a_bs : Nat} {a_rr : Nat} {a_hr : Nat} {a_lw : Nat} {a_lr : Nat} {a_lt : Nat} {a_lm : Nat} {a_tc : Nat} {a_rc : Nat} {y : Int32} (M : MX p s m args meth c b_Pl_triggerCycle 5 (some .int) "MoveDesk$Planner" g A) (rec_42 : (Nat → Int32) → (Nat → Int32) → (Nat → Int32) → (Nat → Int32) → (Nat → Int32) → (Nat → Int32) → (Nat → Int32) → (Nat → Int32) → (Nat → Int32) → (Nat → Int32) → (Nat → Int32) → Int32 → Int32 → Int32 → Option (Int32)) (hrec_42 : ∀ (r_lat : Nat → Int32) (r_co : Nat → Int32) (r_op : Nat → Int32) (r_ki : Nat → Int32) (r_fi : Nat → Int32) (r_se : Nat → Int32) (r_bs : Nat → Int32) (r_rr : Nat → Int32) (r_lw : Nat → Int32) (r_lt : Nat → Int32) (r_lm : Nat → Int32) (v2 : Int32) (v3 : Int32) (v4 : Int32) (H : Heap) (locs : List Loc) (ls : Array Slot), some y = rec_42 r_lat r_co r_op r_ki r_fi r_se r_bs r_rr r_lw r_lt r_lm v2 v3 v4 → va_P g.1 classes (w_lat_12_a1ec g a_lat a_co a_ta a_gu a_so a_cn a_de a_op a_ki a_tg a_fi a_se a_oc a_cp a_pl a_bs a_rr a_hr a_lw a_lr a_lt a_lm a_tc a_rc r_lat r_co r_op r_ki r_fi r_se r_bs r_rr r_lw r_lt r_lm) H → va_D A (w_lat_12_a1ec g a_lat a_co a_ta a_gu a_so a_cn a_de a_op a_ki a_tg a_fi a_se a_oc a_cp a_pl a_bs a_rr a_hr a_lw a_lr a_lt a_lm a_tc a_rc r_lat r_co r_op r_ki r_fi r_se r_bs r_rr r_lw r_lt r_lm) → va_S A s.heap H locs → lv_has ls 5 [(0, .ref a_pl), (2, .int v2), (3, .int v3), (4, .int v4)] → W p l e rm_Pl_triggerCycle s m args below meth c H locs 0 0 (MQ below (QW g (some (.int y)) (w_lat_12_a1ec g a_lat a_co a_ta a_gu a_so a_cn a_de a_op a_ki a_tg a_fi a_se a_oc a_cp a_pl a_bs a_rr a_hr a_lw a_lr a_lt a_lm a_tc a_rc r_lat r_co r_op r_ki r_fi r_se r_bs r_rr r_lw r_lt r_lm) A) args s 0 0 A) (F0 m 42 ls [])) : ∀ (r_lat : Nat → Int32) (r_co : Nat → Int32) (r_op : Nat → Int32) (r_ki : Nat → Int32) (r_fi : Nat → Int32) (r_se : Nat → Int32) (r_bs : Nat → Int32) (r_rr : Nat → Int32) (r_lw : Nat → Int32) (r_lt : Nat → Int32) (r_lm : Nat → Int32) (v2 : Int32) (v3 : Int32) (v4 : Int32) (H : Heap) (locs : List Loc) (ls : Array Slot), some y = (f_Pl_triggerCycle_79 rec_42) r_lat r_co r_op r_ki r_fi r_se r_bs r_rr r_lw r_lt r_lm v2 v3 v4 → va_P g.1 classes (w_lat_12_a1ec g a_lat a_co a_ta a_gu a_so a_cn a_de a_op a_ki a_tg a_fi a_se a_oc a_cp a_pl a_bs a_rr a_hr a_lw a_lr a_lt a_lm a_tc a_rc r_lat r_co r_op r_ki r_fi r_se r_bs r_rr r_lw r_lt r_lm) H → va_D A (w_lat_12_a1ec g a_lat a_co a_ta a_gu a_so a_cn a_de a_op a_ki a_tg a_fi a_se a_oc a_cp a_pl a_bs a_rr a_hr a_lw a_lr a_lt a_lm a_tc a_rc r_lat r_co r_op r_ki r_fi r_se r_bs r_rr r_lw r_lt r_lm) → va_S A s.heap H locs → lv_has ls 5 [(0, .ref a_pl), (2, .int v2), (3, .int v3), (4, .int v4)] → W p l e rm_Pl_triggerCycle s m args below meth c H locs 0 0 (MQ below (QW g (some (.int y)) (w_lat_12_a1ec g a_lat a_co a_ta a_gu a_so a_cn a_de a_op a_ki a_tg a_fi a_se a_oc a_cp a_pl a_bs a_rr a_hr a_lw a_lr a_lt a_lm a_tc a_rc r_lat r_co r_op r_ki r_fi r_se r_bs r_rr r_lw r_lt r_lm) A) args s 0 0 A) (F0 m 79 ls []) := by
  obtain ⟨hx, hb, hr, hml, hown, hts, hlocks, hA, hK, hG⟩ := id M
  intro r_lat r_co r_op r_ki r_fi r_se r_bs r_rr r_lw r_lt r_lm v2 v3 v4 H locs ls hE hP hD hS hl
  rw [f_Pl_triggerCycle_79] at hE
  obtain ⟨x1, ex1⟩ : ∃ z : Int32, z = v4 + 1 := ⟨_, rfl⟩
  have hE := nm_at hE ex1
  refine lv_iinc (v := x1) (lv' := [(4, .int x1), (0, .ref a_pl), (2, .int v2), (3, .int v3)]) hx hb d_Pl_triggerCycle_79 hl (k := 3) rfl (by rw [ex1]; rfl) (by decide) rfl (fun ls hl => ?_)
  refine lv_goto (tgt := 42) hx hb d_Pl_triggerCycle_82 (by decide) ?_
  exact hrec_42 _ _ _ _ _ _ _ _ _ _ _ _ _ _ _ _ _ hE hP hD hS (lv_sub hl [1, 2, 3, 0] rfl)
set_option maxHeartbeats 4000000 in
set_option maxRecDepth 100000 in
theorem wl_Pl_triggerCycle_42 {p : Program} {l : Launch} {e : Env} {s : State} {m : MethodId} {args : Array Value} {below : List Frame} {meth : Method} {c : Code} {A : Nat → Prop} {g : GT} {a_lat : Nat} {a_co : Nat} {a_ta : Nat} {a_gu : Nat} {a_so : Nat} {a_cn : Nat} {a_de : Nat} {a_op : Nat} {a_ki : Nat} {a_tg : Nat} {a_fi : Nat} {a_se : Nat} {a_oc : Nat} {a_cp : Nat} {a_pl : Nat} {a_bs : Nat} {a_rr : Nat} {a_hr : Nat} {a_lw : Nat} {a_lr : Nat} {a_lt : Nat} {a_lm : Nat} {a_tc : Nat} {a_rc : Nat} {y : Int32} (M : MX p s m args meth c b_Pl_triggerCycle 5 (some .int) "MoveDesk$Planner" g A) : ∀ n : Nat, ∀ (r_lat : Nat → Int32) (r_co : Nat → Int32) (r_op : Nat → Int32) (r_ki : Nat → Int32) (r_fi : Nat → Int32) (r_se : Nat → Int32) (r_bs : Nat → Int32) (r_rr : Nat → Int32) (r_lw : Nat → Int32) (r_lt : Nat → Int32) (r_lm : Nat → Int32) (v2 : Int32) (v3 : Int32) (v4 : Int32) (H : Heap) (locs : List Loc) (ls : Array Slot), some y = (f_Pl_triggerCycle_42 n) r_lat r_co r_op r_ki r_fi r_se r_bs r_rr r_lw r_lt r_lm v2 v3 v4 → va_P g.1 classes (w_lat_12_a1ec g a_lat a_co a_ta a_gu a_so a_cn a_de a_op a_ki a_tg a_fi a_se a_oc a_cp a_pl a_bs a_rr a_hr a_lw a_lr a_lt a_lm a_tc a_rc r_lat r_co r_op r_ki r_fi r_se r_bs r_rr r_lw r_lt r_lm) H → va_D A (w_lat_12_a1ec g a_lat a_co a_ta a_gu a_so a_cn a_de a_op a_ki a_tg a_fi a_se a_oc a_cp a_pl a_bs a_rr a_hr a_lw a_lr a_lt a_lm a_tc a_rc r_lat r_co r_op r_ki r_fi r_se r_bs r_rr r_lw r_lt r_lm) → va_S A s.heap H locs → lv_has ls 5 [(0, .ref a_pl), (2, .int v2), (3, .int v3), (4, .int v4)] → W p l e rm_Pl_triggerCycle s m args below meth c H locs 0 0 (MQ below (QW g (some (.int y)) (w_lat_12_a1ec g a_lat a_co a_ta a_gu a_so a_cn a_de a_op a_ki a_tg a_fi a_se a_oc a_cp a_pl a_bs a_rr a_hr a_lw a_lr a_lt a_lm a_tc a_rc r_lat r_co r_op r_ki r_fi r_se r_bs r_rr r_lw r_lt r_lm) A) args s 0 0 A) (F0 m 42 ls []) := by
  obtain ⟨hx, hb, hr, hml, hown, hts, hlocks, hA, hK, hG⟩ := id M
  intro n
  induction n with
  | zero =>
    intro r_lat r_co r_op r_ki r_fi r_se r_bs r_rr r_lw r_lt r_lm v2 v3 v4 H locs ls hE hP hD hS hl
    rw [f_Pl_triggerCycle_42] at hE
    cases hE
  | succ n ih =>
    intro r_lat r_co r_op r_ki r_fi r_se r_bs r_rr r_lw r_lt r_lm v2 v3 v4 H locs ls hE hP hD hS hl
    rw [f_Pl_triggerCycle_42] at hE
    refine lv_iload hx hb d_Pl_triggerCycle_42 (lv_at hl 3 rfl) ?_
    refine lv_bipush (v := 63) hx hb d_Pl_triggerCycle_44 (by decide) ?_
    refine lv_icmp_gt (tgt := 85) hx hb d_Pl_triggerCycle_46 (by decide) (fun c1 => ?_) (fun c1 => ?_)
    · have hE := it_t hE c1
      refine lv_iconst (v := (-1)) hx hb d_Pl_triggerCycle_85 (by decide) ?_
      have hE := Option.some.inj hE
      rw [hE]
      exact W.iret (v := (-1)) hx hb hr (fun t ht hW => ⟨⟨rfl, by rw [ht]; exact hP, va_K.moved hW.alike hK, hD⟩, hS.F ht⟩) hS.2.2 d_Pl_triggerCycle_86 hlocks
    · have hE := it_f hE c1
      refine lv_aload_n hx hb d_Pl_triggerCycle_49 rfl (lv_at hl 0 rfl) ?_
      refine va_get (D := g.1) (ci := 5) (v := .ref a_bs) (C := "MoveDesk$Planner") (T := F_Pl) (N := 12) hx hb hts i_Pl hown hK hP 6 rfl rfl 3 (by decide) (hts _ m_189) (fun _ h9 => h9) rfl d_Pl_triggerCycle_50 ?_
      refine lv_iload hx hb d_Pl_triggerCycle_53 (lv_at hl 3 rfl) ?_
      have ⟨h2, hE⟩ := ck_at hE
      refine va_iald hx hb hK hP 7 0 rfl rfl h2 d_Pl_triggerCycle_55 ?_
      refine lv_iload_n hx hb d_Pl_triggerCycle_56 rfl (lv_at hl 2 rfl) ?_
      refine lv_icmp_gt (tgt := 79) hx hb d_Pl_triggerCycle_57 (by decide) (fun c3 => ?_) (fun c3 => ?_)
      · have hE := it_t hE c3
        exact wl_Pl_triggerCycle_79 M (f_Pl_triggerCycle_42 n) ih _ _ _ _ _ _ _ _ _ _ _ _ _ _ _ _ _ hE hP hD hS (lv_sub hl [0, 1, 2, 3] rfl)
      · have hE := it_f hE c3
        refine lv_aload_n hx hb d_Pl_triggerCycle_60 rfl (lv_at hl 0 rfl) ?_
        refine va_get (D := g.1) (ci := 5) (v := .ref a_rr) (C := "MoveDesk$Planner") (T := F_Pl) (N := 12) hx hb hts i_Pl hown hK hP 6 rfl rfl 4 (by decide) (hts _ m_190) (fun _ h9 => h9) rfl d_Pl_triggerCycle_61 ?_
        refine lv_iload hx hb d_Pl_triggerCycle_64 (lv_at hl 3 rfl) ?_
        have ⟨h4, hE⟩ := ck_at hE
        refine va_iald hx hb hK hP 8 0 rfl rfl h4 d_Pl_triggerCycle_66 ?_
        refine lv_iload_n hx hb d_Pl_triggerCycle_67 rfl (lv_at hl 1 rfl) ?_
        refine lv_ior hx hb d_Pl_triggerCycle_68 ?_
        obtain ⟨y5, hy5, hE⟩ := bd_at hE
        refine kS (index := 101) (As := [.int ((r_rr v4.toNatClampNeg) ||| v2)]) (rest := []) (ws2 := (w_lat_12_a1ec g a_lat a_co a_ta a_gu a_so a_cn a_de a_op a_ki a_tg a_fi a_se a_oc a_cp a_pl a_bs a_rr a_hr a_lw a_lr a_lt a_lm a_tc a_rc r_lat r_co r_op r_ki r_fi r_se r_bs r_rr r_lw r_lt r_lm)) M hP hD hS hl.1 (c_In_bitCount l g   ((r_rr v4.toNatClampNeg) ||| v2) y5 hy5) m_651 m_398 m_16 m_399 hs_In_bitCount rfl rfl rfl ⟨by decide, by decide⟩ ⟨by decide, by decide⟩ [] [0, 1, 2, 3, 4, 5, 6, 7, 8, 9, 10, 11] [0, 1, 2, 3, 4, 5, 6, 7, 8, 9, 10, 11] rfl rfl rfl rfl (by decide) rfl rfl rfl (Nat.le_of_ble_eq_true rfl) d_Pl_triggerCycle_69 (fun H locs hP hD hS => ?_)
        refine W.eq (g2 := F0 m 72 ls [.int y5]) rfl ?_
        refine lv_iconst (v := 2) hx hb d_Pl_triggerCycle_72 (by decide) ?_
        refine lv_icmp_gt (tgt := 79) hx hb d_Pl_triggerCycle_73 (by decide) (fun c6 => ?_) (fun c6 => ?_)
        · have hE := it_t hE c6
          exact wl_Pl_triggerCycle_79 M (f_Pl_triggerCycle_42 n) ih _ _ _ _ _ _ _ _ _ _ _ _ _ _ _ _ _ hE hP hD hS (lv_sub hl [0, 1, 2, 3] rfl)
        · have hE := it_f hE c6
          refine lv_iload hx hb d_Pl_triggerCycle_76 (lv_at hl 3 rfl) ?_
          have hE := Option.some.inj hE
          rw [hE]
          exact W.iret (v := v4) hx hb hr (fun t ht hW => ⟨⟨rfl, by rw [ht]; exact hP, va_K.moved hW.alike hK, hD⟩, hS.F ht⟩) hS.2.2 d_Pl_triggerCycle_78 hlocks
set_option maxHeartbeats 4000000 in
set_option maxRecDepth 100000 in
theorem wl_Pl_triggerCycle_34 {p : Program} {l : Launch} {e : Env} {s : State} {m : MethodId} {args : Array Value} {below : List Frame} {meth : Method} {c : Code} {A : Nat → Prop} {g : GT} {a_lat : Nat} {a_co : Nat} {a_ta : Nat} {a_gu : Nat} {a_so : Nat} {a_cn : Nat} {a_de : Nat} {a_op : Nat} {a_ki : Nat} {a_tg : Nat} {a_fi : Nat} {a_se : Nat} {a_oc : Nat} {a_cp : Nat} {a_pl : Nat} {a_bs : Nat} {a_rr : Nat} {a_hr : Nat} {a_lw : Nat} {a_lr : Nat} {a_lt : Nat} {a_lm : Nat} {a_tc : Nat} {a_rc : Nat} {y : Int32} (M : MX p s m args meth c b_Pl_triggerCycle 5 (some .int) "MoveDesk$Planner" g A) : ∀ (r_lat : Nat → Int32) (r_co : Nat → Int32) (r_op : Nat → Int32) (r_ki : Nat → Int32) (r_fi : Nat → Int32) (r_se : Nat → Int32) (r_bs : Nat → Int32) (r_rr : Nat → Int32) (r_lw : Nat → Int32) (r_lt : Nat → Int32) (r_lm : Nat → Int32) (v1 : Int32) (v2 : Int32) (v3 : Int32) (H : Heap) (locs : List Loc) (ls : Array Slot), some y = f_Pl_triggerCycle_34 r_lat r_co r_op r_ki r_fi r_se r_bs r_rr r_lw r_lt r_lm v1 v2 v3 → va_P g.1 classes (w_lat_12_a1ec g a_lat a_co a_ta a_gu a_so a_cn a_de a_op a_ki a_tg a_fi a_se a_oc a_cp a_pl a_bs a_rr a_hr a_lw a_lr a_lt a_lm a_tc a_rc r_lat r_co r_op r_ki r_fi r_se r_bs r_rr r_lw r_lt r_lm) H → va_D A (w_lat_12_a1ec g a_lat a_co a_ta a_gu a_so a_cn a_de a_op a_ki a_tg a_fi a_se a_oc a_cp a_pl a_bs a_rr a_hr a_lw a_lr a_lt a_lm a_tc a_rc r_lat r_co r_op r_ki r_fi r_se r_bs r_rr r_lw r_lt r_lm) → va_S A s.heap H locs → lv_has ls 5 [(0, .ref a_pl), (1, .int v1), (2, .int v2), (3, .int v3)] → W p l e rm_Pl_triggerCycle s m args below meth c H locs 0 0 (MQ below (QW g (some (.int y)) (w_lat_12_a1ec g a_lat a_co a_ta a_gu a_so a_cn a_de a_op a_ki a_tg a_fi a_se a_oc a_cp a_pl a_bs a_rr a_hr a_lw a_lr a_lt a_lm a_tc a_rc r_lat r_co r_op r_ki r_fi r_se r_bs r_rr r_lw r_lt r_lm) A) args s 0 0 A) (F0 m 34 ls []) := by
  obtain ⟨hx, hb, hr, hml, hown, hts, hlocks, hA, hK, hG⟩ := id M
  intro r_lat r_co r_op r_ki r_fi r_se r_bs r_rr r_lw r_lt r_lm v1 v2 v3 H locs ls hE hP hD hS hl
  rw [f_Pl_triggerCycle_34] at hE
  refine lv_aload_n hx hb d_Pl_triggerCycle_34 rfl (lv_at hl 0 rfl) ?_
  refine lv_iload_n hx hb d_Pl_triggerCycle_35 rfl (lv_at hl 1 rfl) ?_
  refine lv_iload_n hx hb d_Pl_triggerCycle_36 rfl (lv_at hl 2 rfl) ?_
  obtain ⟨y1, hy1, hE⟩ := bd_at hE
  refine kV (C := "MoveDesk$Planner") (index := 98) (As := [.int v1, .int v2]) (rest := []) (ws2 := (w_lat_12_a1ec g a_lat a_co a_ta a_gu a_so a_cn a_de a_op a_ki a_tg a_fi a_se a_oc a_cp a_pl a_bs a_rr a_hr a_lw a_lr a_lt a_lm a_tc a_rc r_lat r_co r_op r_ki r_fi r_se r_bs r_rr r_lw r_lt r_lm)) M hP hD hS hl.1 (c_Pl_earliestTrigger l g a_lat a_co a_op a_ki a_tg a_fi a_se a_oc a_cp a_pl a_bs a_rr a_hr a_lw a_lr a_lt a_lm a_tc a_rc r_lat r_op r_ki r_lw r_lt r_lm v1 v2 y1 hy1) m_638 m_640 s_15 m_7 m_641 hd_Pl_earliestTrigger rfl rfl rfl ⟨by decide, by decide⟩ ⟨by decide, by decide⟩ 5 3 rfl rfl rfl [0, 2, 3, 6, 9, 10, 11] [1, 4, 5, 7, 8] [5, 0, 6, 7, 1, 2, 8, 3, 4, 9, 10, 11] rfl rfl rfl rfl (by decide) rfl rfl rfl (Nat.le_of_ble_eq_true rfl) d_Pl_triggerCycle_37 (fun H locs hP hD hS => ?_)
  refine W.eq (g2 := F0 m 40 ls [.int y1]) rfl ?_
  refine lv_istore (lv' := [(4, .int y1), (0, .ref a_pl), (1, .int v1), (2, .int v2), (3, .int v3)]) hx hb d_Pl_triggerCycle_40 hl (by decide) rfl (fun ls hl => ?_)
  exact wl_Pl_triggerCycle_42 M 5000 _ _ _ _ _ _ _ _ _ _ _ _ _ _ _ _ _ hE hP hD hS (lv_sub hl [1, 3, 4, 0] rfl)
set_option maxHeartbeats 4000000 in
set_option maxRecDepth 100000 in
theorem c_Pl_triggerCycle (l : Launch) (g : GT) (a_lat : Nat) (a_co : Nat) (a_ta : Nat) (a_gu : Nat) (a_so : Nat) (a_cn : Nat) (a_de : Nat) (a_op : Nat) (a_ki : Nat) (a_tg : Nat) (a_fi : Nat) (a_se : Nat) (a_oc : Nat) (a_cp : Nat) (a_pl : Nat) (a_bs : Nat) (a_rr : Nat) (a_hr : Nat) (a_lw : Nat) (a_lr : Nat) (a_lt : Nat) (a_lm : Nat) (a_tc : Nat) (a_rc : Nat) (r_lat : Nat → Int32) (r_co : Nat → Int32) (r_op : Nat → Int32) (r_ki : Nat → Int32) (r_fi : Nat → Int32) (r_se : Nat → Int32) (r_bs : Nat → Int32) (r_rr : Nat → Int32) (r_lw : Nat → Int32) (r_lt : Nat → Int32) (r_lm : Nat → Int32) (v1 : Int32) (y : Int32) (hy : some y = f_Pl_triggerCycle r_lat r_co r_op r_ki r_fi r_se r_bs r_rr r_lw r_lt r_lm v1) : Ct l y_Pl_triggerCycle (.code y_Pl_triggerCycle b_Pl_triggerCycle 5 (some .int)) rm_Pl_triggerCycle g [.ref a_pl, .int v1] (w_lat_12_a1ec g a_lat a_co a_ta a_gu a_so a_cn a_de a_op a_ki a_tg a_fi a_se a_oc a_cp a_pl a_bs a_rr a_hr a_lw a_lr a_lt a_lm a_tc a_rc r_lat r_co r_op r_ki r_fi r_se r_bs r_rr r_lw r_lt r_lm) (w_lat_12_a1ec g a_lat a_co a_ta a_gu a_so a_cn a_de a_op a_ki a_tg a_fi a_se a_oc a_cp a_pl a_bs a_rr a_hr a_lw a_lr a_lt a_lm a_tc a_rc r_lat r_co r_op r_ki r_fi r_se r_bs r_rr r_lw r_lt r_lm) (some (.int y)) := by
  refine ct_in (C := "MoveDesk$Planner") rfl (by decide) (Nat.le_of_ble_eq_true rfl) (fun p e s m below meth c A ls M hP hD hS hl => ?_)
  obtain ⟨hx, hb, hr, hml, hown, hts, hlocks, hA, hK, hG⟩ := id M
  have hl : lv_has ls 5 [(0, .ref a_pl), (1, .int v1)] := hl
  have hE := hy
  rw [f_Pl_triggerCycle] at hE
  refine lv_aload_n hx hb d_Pl_triggerCycle_0 rfl (lv_at hl 0 rfl) ?_
  refine va_get (D := g.1) (ci := 5) (v := .ref a_op) (C := "MoveDesk$Planner") (T := F_Pl) (N := 12) hx hb hts i_Pl hown hK hP 6 rfl rfl 1 (by decide) (hts _ m_187) (fun _ h9 => h9) rfl d_Pl_triggerCycle_1 ?_
  refine lv_iload_n hx hb d_Pl_triggerCycle_4 rfl (lv_at hl 1 rfl) ?_
  obtain ⟨y1, hy1, hE⟩ := bd_at hE
  refine kV (C := "MoveDesk$Operations") (index := 87) (As := [.int v1]) (rest := []) (ws2 := (w_lat_12_a1ec g a_lat a_co a_ta a_gu a_so a_cn a_de a_op a_ki a_tg a_fi a_se a_oc a_cp a_pl a_bs a_rr a_hr a_lw a_lr a_lt a_lm a_tc a_rc r_lat r_co r_op r_ki r_fi r_se r_bs r_rr r_lw r_lt r_lm)) M hP hD hS hl.1 (c_Op_registersRead l g a_op a_ki a_tg a_fi a_se a_oc a_cp r_op r_ki r_fi r_se v1 y1 hy1) m_615 m_616 m_617 m_6 m_618 hd_Op_registersRead rfl rfl rfl ⟨by decide, by decide⟩ ⟨by decide, by decide⟩ 4 0 rfl rfl rfl [2, 3, 4, 5] [0, 1, 6, 7, 8, 9, 10, 11] [0, 1, 8, 9, 10, 11, 2, 3, 4, 5, 6, 7] rfl rfl rfl rfl (by decide) rfl rfl rfl (Nat.le_of_ble_eq_true rfl) d_Pl_triggerCycle_5 (fun H locs hP hD hS => ?_)
  refine W.eq (g2 := F0 m 8 ls [.int y1]) rfl ?_
  refine lv_istore_n (lv' := [(2, .int y1), (0, .ref a_pl), (1, .int v1)]) hx hb d_Pl_triggerCycle_8 rfl hl (by decide) rfl (fun ls hl => ?_)
  refine lv_aload_n hx hb d_Pl_triggerCycle_9 rfl (lv_at hl 1 rfl) ?_
  refine va_get (D := g.1) (ci := 5) (v := .ref a_co) (C := "MoveDesk$Planner") (T := F_Pl) (N := 12) hx hb hts i_Pl hown hK hP 6 rfl rfl 0 (by decide) (hts _ m_186) (fun _ h9 => h9) rfl d_Pl_triggerCycle_10 ?_
  refine va_getN (D := g.1) (ci := 1) (v := .int (r_co 0)) (C := "MoveDesk$Code") (T := F_Co) (N := 6) hx hb hts i_Co hown hK hP 1 rfl rfl 0 (by decide) (va_Nw.use rfl (hG.1 _ (nw_40))) (fun _ h9 => h9) rfl d_Pl_triggerCycle_13 ?_
  refine lv_aload_n hx hb d_Pl_triggerCycle_16 rfl (lv_at hl 1 rfl) ?_
  refine va_get (D := g.1) (ci := 5) (v := .ref a_op) (C := "MoveDesk$Planner") (T := F_Pl) (N := 12) hx hb hts i_Pl hown hK hP 6 rfl rfl 1 (by decide) (hts _ m_187) (fun _ h9 => h9) rfl d_Pl_triggerCycle_17 ?_
  refine lv_iload_n hx hb d_Pl_triggerCycle_20 rfl (lv_at hl 2 rfl) ?_
  obtain ⟨y2, hy2, hE⟩ := bd_at hE
  refine kV (C := "MoveDesk$Operations") (index := 95) (As := [.int v1]) (rest := [.int (r_co 0)]) (ws2 := (w_lat_12_a1ec g a_lat a_co a_ta a_gu a_so a_cn a_de a_op a_ki a_tg a_fi a_se a_oc a_cp a_pl a_bs a_rr a_hr a_lw a_lr a_lt a_lm a_tc a_rc r_lat r_co r_op r_ki r_fi r_se r_bs r_rr r_lw r_lt r_lm)) M hP hD hS hl.1 (c_Op_isLoad l g a_op a_ki a_tg a_fi a_se a_oc a_cp r_op r_ki v1 y2 hy2) m_637 m_634 m_635 m_6 m_636 hd_Op_isLoad rfl rfl rfl ⟨by decide, by decide⟩ ⟨by decide, by decide⟩ 4 0 rfl rfl rfl [2, 3] [0, 1, 4, 5, 6, 7, 8, 9, 10, 11] [0, 1, 10, 11, 2, 3, 4, 5, 6, 7, 8, 9] rfl rfl rfl rfl (by decide) rfl rfl rfl (Nat.le_of_ble_eq_true rfl) d_Pl_triggerCycle_21 (fun H locs hP hD hS => ?_)
  refine W.eq (g2 := F0 m 24 ls [.int y2, .int (r_co 0)]) rfl ?_
  refine lv_if_eq (tgt := 31) hx hb d_Pl_triggerCycle_24 (by decide) (fun c3 => ?_) (fun c3 => ?_)
  · have hE := it_t hE c3
    refine lv_iconst (v := 2) hx hb d_Pl_triggerCycle_31 (by decide) ?_
    refine lv_isub hx hb d_Pl_triggerCycle_32 ?_
    refine lv_topi (fun x4 ex4 => ?_)
    have hE := nm_at hE ex4
    refine lv_istore_n (lv' := [(3, .int x4), (2, .int y1), (0, .ref a_pl), (1, .int v1)]) hx hb d_Pl_triggerCycle_33 rfl hl (by decide) rfl (fun ls hl => ?_)
    exact wl_Pl_triggerCycle_34 M _ _ _ _ _ _ _ _ _ _ _ _ _ _ _ _ _ hE hP hD hS (lv_sub hl [2, 3, 1, 0] rfl)
  · have hE := it_f hE c3
    refine lv_iconst (v := 1) hx hb d_Pl_triggerCycle_27 (by decide) ?_
    refine lv_goto (tgt := 32) hx hb d_Pl_triggerCycle_28 (by decide) ?_
    refine lv_isub hx hb d_Pl_triggerCycle_32 ?_
    refine lv_topi (fun x5 ex5 => ?_)
    have hE := nm_at hE ex5
    refine lv_istore_n (lv' := [(3, .int x5), (2, .int y1), (0, .ref a_pl), (1, .int v1)]) hx hb d_Pl_triggerCycle_33 rfl hl (by decide) rfl (fun ls hl => ?_)
    exact wl_Pl_triggerCycle_34 M _ _ _ _ _ _ _ _ _ _ _ _ _ _ _ _ _ hE hP hD hS (lv_sub hl [2, 3, 1, 0] rfl)
abbrev rm_Pl_noteTrigger : Room := { frames := 3, cells := 0, slots := 0, locals := 63 }
set_option maxHeartbeats 4000000 in
set_option maxRecDepth 100000 in
theorem wl_Pl_noteTrigger_102 {p : Program} {l : Launch} {e : Env} {s : State} {m : MethodId} {args : Array Value} {below : List Frame} {meth : Method} {c : Code} {A : Nat → Prop} {g : GT} {a_lat : Nat} {a_co : Nat} {a_op : Nat} {a_ki : Nat} {a_tg : Nat} {a_fi : Nat} {a_se : Nat} {a_oc : Nat} {a_cp : Nat} {a_pl : Nat} {a_bs : Nat} {a_rr : Nat} {a_hr : Nat} {a_lw : Nat} {a_lr : Nat} {a_lt : Nat} {a_lm : Nat} {a_tc : Nat} {a_rc : Nat} {y : (Nat → Int32) × (Nat → Int32) × (Nat → Int32) × (Nat → Int32) × (Nat → Int32)} (M : MX p s m args meth c b_Pl_noteTrigger 5 none "MoveDesk$Planner" g A) (rec_68 : (Nat → Int32) → (Nat → Int32) → (Nat → Int32) → (Nat → Int32) → (Nat → Int32) → (Nat → Int32) → (Nat → Int32) → (Nat → Int32) → (Nat → Int32) → Int32 → Int32 → Int32 → Option ((Nat → Int32) × (Nat → Int32) × (Nat → Int32) × (Nat → Int32) × (Nat → Int32))) (hrec_68 : ∀ (r_op : Nat → Int32) (r_ki : Nat → Int32) (r_fi : Nat → Int32) (r_se : Nat → Int32) (r_bs : Nat → Int32) (r_rr : Nat → Int32) (r_lr : Nat → Int32) (r_lt : Nat → Int32) (r_tc : Nat → Int32) (v2 : Int32) (v3 : Int32) (v4 : Int32) (H : Heap) (locs : List Loc) (ls : Array Slot), some y = rec_68 r_op r_ki r_fi r_se r_bs r_rr r_lr r_lt r_tc v2 v3 v4 → va_P g.1 classes (w_op_10_671a g a_lat a_co a_op a_ki a_tg a_fi a_se a_oc a_cp a_pl a_bs a_rr a_hr a_lw a_lr a_lt a_lm a_tc a_rc r_op r_ki r_fi r_se r_bs r_rr r_lr r_lt r_tc) H → va_D A (w_op_10_671a g a_lat a_co a_op a_ki a_tg a_fi a_se a_oc a_cp a_pl a_bs a_rr a_hr a_lw a_lr a_lt a_lm a_tc a_rc r_op r_ki r_fi r_se r_bs r_rr r_lr r_lt r_tc) → va_S A s.heap H locs → lv_has ls 5 [(0, .ref a_pl), (2, .int v2), (3, .int v3), (4, .int v4)] → W p l e rm_Pl_noteTrigger s m args below meth c H locs 0 0 (MQ below (QW g none (w_op_10_671a g a_lat a_co a_op a_ki a_tg a_fi a_se a_oc a_cp a_pl a_bs a_rr a_hr a_lw a_lr a_lt a_lm a_tc a_rc r_op r_ki r_fi r_se y.1 y.2.1 y.2.2.1 y.2.2.2.1 y.2.2.2.2) A) args s 0 0 A) (F0 m 68 ls [])) : ∀ (r_op : Nat → Int32) (r_ki : Nat → Int32) (r_fi : Nat → Int32) (r_se : Nat → Int32) (r_bs : Nat → Int32) (r_rr : Nat → Int32) (r_lr : Nat → Int32) (r_lt : Nat → Int32) (r_tc : Nat → Int32) (v2 : Int32) (v3 : Int32) (v4 : Int32) (H : Heap) (locs : List Loc) (ls : Array Slot), some y = (f_Pl_noteTrigger_102 rec_68) r_op r_ki r_fi r_se r_bs r_rr r_lr r_lt r_tc v2 v3 v4 → va_P g.1 classes (w_op_10_671a g a_lat a_co a_op a_ki a_tg a_fi a_se a_oc a_cp a_pl a_bs a_rr a_hr a_lw a_lr a_lt a_lm a_tc a_rc r_op r_ki r_fi r_se r_bs r_rr r_lr r_lt r_tc) H → va_D A (w_op_10_671a g a_lat a_co a_op a_ki a_tg a_fi a_se a_oc a_cp a_pl a_bs a_rr a_hr a_lw a_lr a_lt a_lm a_tc a_rc r_op r_ki r_fi r_se r_bs r_rr r_lr r_lt r_tc) → va_S A s.heap H locs → lv_has ls 5 [(0, .ref a_pl), (2, .int v2), (3, .int v3), (4, .int v4)] → W p l e rm_Pl_noteTrigger s m args below meth c H locs 0 0 (MQ below (QW g none (w_op_10_671a g a_lat a_co a_op a_ki a_tg a_fi a_se a_oc a_cp a_pl a_bs a_rr a_hr a_lw a_lr a_lt a_lm a_tc a_rc r_op r_ki r_fi r_se y.1 y.2.1 y.2.2.1 y.2.2.2.1 y.2.2.2.2) A) args s 0 0 A) (F0 m 102 ls []) := by
  obtain ⟨hx, hb, hr, hml, hown, hts, hlocks, hA, hK, hG⟩ := id M
  intro r_op r_ki r_fi r_se r_bs r_rr r_lr r_lt r_tc v2 v3 v4 H locs ls hE hP hD hS hl
  rw [f_Pl_noteTrigger_102] at hE
  obtain ⟨x1, ex1⟩ : ∃ z : Int32, z = v4 + 1 := ⟨_, rfl⟩
  have hE := nm_at hE ex1
  refine lv_iinc (v := x1) (lv' := [(4, .int x1), (0, .ref a_pl), (2, .int v2), (3, .int v3)]) hx hb d_Pl_noteTrigger_102 hl (k := 3) rfl (by rw [ex1]; rfl) (by decide) rfl (fun ls hl => ?_)
  refine lv_goto (tgt := 68) hx hb d_Pl_noteTrigger_105 (by decide) ?_
  exact hrec_68 _ _ _ _ _ _ _ _ _ _ _ _ _ _ _ hE hP hD hS (lv_sub hl [1, 2, 3, 0] rfl)
set_option maxHeartbeats 4000000 in
set_option maxRecDepth 100000 in
theorem wl_Pl_noteTrigger_68 {p : Program} {l : Launch} {e : Env} {s : State} {m : MethodId} {args : Array Value} {below : List Frame} {meth : Method} {c : Code} {A : Nat → Prop} {g : GT} {a_lat : Nat} {a_co : Nat} {a_op : Nat} {a_ki : Nat} {a_tg : Nat} {a_fi : Nat} {a_se : Nat} {a_oc : Nat} {a_cp : Nat} {a_pl : Nat} {a_bs : Nat} {a_rr : Nat} {a_hr : Nat} {a_lw : Nat} {a_lr : Nat} {a_lt : Nat} {a_lm : Nat} {a_tc : Nat} {a_rc : Nat} {y : (Nat → Int32) × (Nat → Int32) × (Nat → Int32) × (Nat → Int32) × (Nat → Int32)} (M : MX p s m args meth c b_Pl_noteTrigger 5 none "MoveDesk$Planner" g A) : ∀ n : Nat, ∀ (r_op : Nat → Int32) (r_ki : Nat → Int32) (r_fi : Nat → Int32) (r_se : Nat → Int32) (r_bs : Nat → Int32) (r_rr : Nat → Int32) (r_lr : Nat → Int32) (r_lt : Nat → Int32) (r_tc : Nat → Int32) (v2 : Int32) (v3 : Int32) (v4 : Int32) (H : Heap) (locs : List Loc) (ls : Array Slot), some y = (f_Pl_noteTrigger_68 n) r_op r_ki r_fi r_se r_bs r_rr r_lr r_lt r_tc v2 v3 v4 → va_P g.1 classes (w_op_10_671a g a_lat a_co a_op a_ki a_tg a_fi a_se a_oc a_cp a_pl a_bs a_rr a_hr a_lw a_lr a_lt a_lm a_tc a_rc r_op r_ki r_fi r_se r_bs r_rr r_lr r_lt r_tc) H → va_D A (w_op_10_671a g a_lat a_co a_op a_ki a_tg a_fi a_se a_oc a_cp a_pl a_bs a_rr a_hr a_lw a_lr a_lt a_lm a_tc a_rc r_op r_ki r_fi r_se r_bs r_rr r_lr r_lt r_tc) → va_S A s.heap H locs → lv_has ls 5 [(0, .ref a_pl), (2, .int v2), (3, .int v3), (4, .int v4)] → W p l e rm_Pl_noteTrigger s m args below meth c H locs 0 0 (MQ below (QW g none (w_op_10_671a g a_lat a_co a_op a_ki a_tg a_fi a_se a_oc a_cp a_pl a_bs a_rr a_hr a_lw a_lr a_lt a_lm a_tc a_rc r_op r_ki r_fi r_se y.1 y.2.1 y.2.2.1 y.2.2.2.1 y.2.2.2.2) A) args s 0 0 A) (F0 m 68 ls []) := by
  obtain ⟨hx, hb, hr, hml, hown, hts, hlocks, hA, hK, hG⟩ := id M
  intro n
  induction n with
  | zero =>
    intro r_op r_ki r_fi r_se r_bs r_rr r_lr r_lt r_tc v2 v3 v4 H locs ls hE hP hD hS hl
    rw [f_Pl_noteTrigger_68] at hE
    cases hE
  | succ n ih =>
    intro r_op r_ki r_fi r_se r_bs r_rr r_lr r_lt r_tc v2 v3 v4 H locs ls hE hP hD hS hl
    rw [f_Pl_noteTrigger_68] at hE
    refine lv_iload hx hb d_Pl_noteTrigger_68 (lv_at hl 3 rfl) ?_
    refine lv_bipush (v := 8) hx hb d_Pl_noteTrigger_70 (by decide) ?_
    refine lv_icmp_ge (tgt := 108) hx hb d_Pl_noteTrigger_72 (by decide) (fun c1 => ?_) (fun c1 => ?_)
    · have hE := it_t hE c1
      have hE := Option.some.inj hE
      rw [hE]
      exact W.vret hx hb hr (fun t ht hW => ⟨⟨rfl, by rw [ht]; exact hP, va_K.moved hW.alike hK, hD⟩, hS.F ht⟩) hS.2.2 d_Pl_noteTrigger_108 hlocks
    · have hE := it_f hE c1
      refine lv_iload_n hx hb d_Pl_noteTrigger_75 rfl (lv_at hl 2 rfl) ?_
      refine lv_iload hx hb d_Pl_noteTrigger_76 (lv_at hl 3 rfl) ?_
      refine lv_ishr hx hb d_Pl_noteTrigger_78 ?_
      refine lv_iconst (v := 1) hx hb d_Pl_noteTrigger_79 (by decide) ?_
      refine lv_iand hx hb d_Pl_noteTrigger_80 ?_
      refine lv_if_eq (tgt := 102) hx hb d_Pl_noteTrigger_81 (by decide) (fun c2 => ?_) (fun c2 => ?_)
      · have hE := it_t hE c2
        exact wl_Pl_noteTrigger_102 M (f_Pl_noteTrigger_68 n) ih _ _ _ _ _ _ _ _ _ _ _ _ _ _ _ hE hP hD hS (lv_sub hl [0, 1, 2, 3] rfl)
      · have hE := it_f hE c2
        refine lv_aload_n hx hb d_Pl_noteTrigger_84 rfl (lv_at hl 0 rfl) ?_
        refine va_get (D := g.1) (ci := 5) (v := .ref a_lr) (C := "MoveDesk$Planner") (T := F_Pl) (N := 12) hx hb hts i_Pl hown hK hP 4 rfl rfl 7 (by decide) (hts _ m_193) (fun _ h9 => h9) rfl d_Pl_noteTrigger_85 ?_
        refine lv_iload hx hb d_Pl_noteTrigger_88 (lv_at hl 3 rfl) ?_
        refine lv_aload_n hx hb d_Pl_noteTrigger_90 rfl (lv_at hl 0 rfl) ?_
        refine va_get (D := g.1) (ci := 5) (v := .ref a_lr) (C := "MoveDesk$Planner") (T := F_Pl) (N := 12) hx hb hts i_Pl hown hK hP 4 rfl rfl 7 (by decide) (hts _ m_193) (fun _ h9 => h9) rfl d_Pl_noteTrigger_91 ?_
        refine lv_iload hx hb d_Pl_noteTrigger_94 (lv_at hl 3 rfl) ?_
        have ⟨h3, hE⟩ := ck_at hE
        refine va_iald hx hb hK hP 7 0 rfl rfl h3 d_Pl_noteTrigger_96 ?_
        refine lv_iload_n hx hb d_Pl_noteTrigger_97 rfl (lv_at hl 1 rfl) ?_
        refine va_mmax hx hb (hml.trans hl.1.symm) hown (hts _ m_646) (hts _ m_31) (hts _ m_2) (hts _ m_32) (by decide) (Nat.le_of_ble_eq_true rfl) (by decide) (by decide) d_Pl_noteTrigger_98 ?_
        refine lv_topi (fun x4 ex4 => ?_)
        have hE := nm_at hE ex4
        have ⟨h5, hE⟩ := ck_at hE
        refine va_iast hx hb hK hP hD hS 7 0 rfl rfl h5 d_Pl_noteTrigger_101 (fun H locs hP hD hS => ?_)
        have hP : va_P g.1 classes (w_op_10_671a g a_lat a_co a_op a_ki a_tg a_fi a_se a_oc a_cp a_pl a_bs a_rr a_hr a_lw a_lr a_lt a_lm a_tc a_rc r_op r_ki r_fi r_se r_bs r_rr (upd r_lr v4.toNatClampNeg x4) r_lt r_tc) H := hP
        have hD : va_D A (w_op_10_671a g a_lat a_co a_op a_ki a_tg a_fi a_se a_oc a_cp a_pl a_bs a_rr a_hr a_lw a_lr a_lt a_lm a_tc a_rc r_op r_ki r_fi r_se r_bs r_rr (upd r_lr v4.toNatClampNeg x4) r_lt r_tc) := hD
        exact wl_Pl_noteTrigger_102 M (f_Pl_noteTrigger_68 n) ih _ _ _ _ _ _ _ _ _ _ _ _ _ _ _ hE hP hD hS (lv_sub hl [0, 1, 2, 3] rfl)
set_option maxHeartbeats 4000000 in
set_option maxRecDepth 100000 in
theorem wl_Pl_noteTrigger_41 {p : Program} {l : Launch} {e : Env} {s : State} {m : MethodId} {args : Array Value} {below : List Frame} {meth : Method} {c : Code} {A : Nat → Prop} {g : GT} {a_lat : Nat} {a_co : Nat} {a_op : Nat} {a_ki : Nat} {a_tg : Nat} {a_fi : Nat} {a_se : Nat} {a_oc : Nat} {a_cp : Nat} {a_pl : Nat} {a_bs : Nat} {a_rr : Nat} {a_hr : Nat} {a_lw : Nat} {a_lr : Nat} {a_lt : Nat} {a_lm : Nat} {a_tc : Nat} {a_rc : Nat} {y : (Nat → Int32) × (Nat → Int32) × (Nat → Int32) × (Nat → Int32) × (Nat → Int32)} (M : MX p s m args meth c b_Pl_noteTrigger 5 none "MoveDesk$Planner" g A) : ∀ (r_op : Nat → Int32) (r_ki : Nat → Int32) (r_fi : Nat → Int32) (r_se : Nat → Int32) (r_bs : Nat → Int32) (r_rr : Nat → Int32) (r_lr : Nat → Int32) (r_lt : Nat → Int32) (r_tc : Nat → Int32) (v1 : Int32) (v2 : Int32) (v3 : Int32) (H : Heap) (locs : List Loc) (ls : Array Slot), some y = f_Pl_noteTrigger_41 r_op r_ki r_fi r_se r_bs r_rr r_lr r_lt r_tc v1 v2 v3 → va_P g.1 classes (w_op_10_671a g a_lat a_co a_op a_ki a_tg a_fi a_se a_oc a_cp a_pl a_bs a_rr a_hr a_lw a_lr a_lt a_lm a_tc a_rc r_op r_ki r_fi r_se r_bs r_rr r_lr r_lt r_tc) H → va_D A (w_op_10_671a g a_lat a_co a_op a_ki a_tg a_fi a_se a_oc a_cp a_pl a_bs a_rr a_hr a_lw a_lr a_lt a_lm a_tc a_rc r_op r_ki r_fi r_se r_bs r_rr r_lr r_lt r_tc) → va_S A s.heap H locs → lv_has ls 5 [(0, .ref a_pl), (1, .int v1), (2, .int v2), (3, .int v3)] → W p l e rm_Pl_noteTrigger s m args below meth c H locs 0 0 (MQ below (QW g none (w_op_10_671a g a_lat a_co a_op a_ki a_tg a_fi a_se a_oc a_cp a_pl a_bs a_rr a_hr a_lw a_lr a_lt a_lm a_tc a_rc r_op r_ki r_fi r_se y.1 y.2.1 y.2.2.1 y.2.2.2.1 y.2.2.2.2) A) args s 0 0 A) (F0 m 41 ls []) := by
  obtain ⟨hx, hb, hr, hml, hown, hts, hlocks, hA, hK, hG⟩ := id M
  intro r_op r_ki r_fi r_se r_bs r_rr r_lr r_lt r_tc v1 v2 v3 H locs ls hE hP hD hS hl
  rw [f_Pl_noteTrigger_41] at hE
  refine lv_aload_n hx hb d_Pl_noteTrigger_41 rfl (lv_at hl 0 rfl) ?_
  refine va_get (D := g.1) (ci := 5) (v := .ref a_rr) (C := "MoveDesk$Planner") (T := F_Pl) (N := 12) hx hb hts i_Pl hown hK hP 4 rfl rfl 4 (by decide) (hts _ m_190) (fun _ h9 => h9) rfl d_Pl_noteTrigger_42 ?_
  refine lv_iload_n hx hb d_Pl_noteTrigger_45 rfl (lv_at hl 2 rfl) ?_
  refine lv_dup2_11 hx hb d_Pl_noteTrigger_46 rfl rfl ?_
  have ⟨h1, hE⟩ := ck_at hE
  refine va_iald hx hb hK hP 6 0 rfl rfl h1 d_Pl_noteTrigger_47 ?_
  refine lv_iload_n hx hb d_Pl_noteTrigger_48 rfl (lv_at hl 3 rfl) ?_
  refine lv_ior hx hb d_Pl_noteTrigger_49 ?_
  have ⟨h2, hE⟩ := ck_at hE
  refine va_iast hx hb hK hP hD hS 6 0 rfl rfl h2 d_Pl_noteTrigger_50 (fun H locs hP hD hS => ?_)
  have hP : va_P g.1 classes (w_op_10_671a g a_lat a_co a_op a_ki a_tg a_fi a_se a_oc a_cp a_pl a_bs a_rr a_hr a_lw a_lr a_lt a_lm a_tc a_rc r_op r_ki r_fi r_se r_bs (upd r_rr v2.toNatClampNeg ((r_rr v2.toNatClampNeg) ||| v3)) r_lr r_lt r_tc) H := hP
  have hD : va_D A (w_op_10_671a g a_lat a_co a_op a_ki a_tg a_fi a_se a_oc a_cp a_pl a_bs a_rr a_hr a_lw a_lr a_lt a_lm a_tc a_rc r_op r_ki r_fi r_se r_bs (upd r_rr v2.toNatClampNeg ((r_rr v2.toNatClampNeg) ||| v3)) r_lr r_lt r_tc) := hD
  refine lv_aload_n hx hb d_Pl_noteTrigger_51 rfl (lv_at hl 0 rfl) ?_
  refine va_get (D := g.1) (ci := 5) (v := .ref a_lt) (C := "MoveDesk$Planner") (T := F_Pl) (N := 12) hx hb hts i_Pl hown hK hP 4 rfl rfl 8 (by decide) (hts _ m_194) (fun _ h9 => h9) rfl d_Pl_noteTrigger_52 ?_
  refine lv_aload_n hx hb d_Pl_noteTrigger_55 rfl (lv_at hl 0 rfl) ?_
  refine va_get (D := g.1) (ci := 5) (v := .ref a_op) (C := "MoveDesk$Planner") (T := F_Pl) (N := 12) hx hb hts i_Pl hown hK hP 4 rfl rfl 1 (by decide) (hts _ m_187) (fun _ h9 => h9) rfl d_Pl_noteTrigger_56 ?_
  refine lv_iload_n hx hb d_Pl_noteTrigger_59 rfl (lv_at hl 1 rfl) ?_
  obtain ⟨y3, hy3, hE⟩ := bd_at hE
  refine kV (C := "MoveDesk$Operations") (index := 106) (As := [.int v1]) (rest := [.ref a_lt]) (ws2 := (w_op_10_671a g a_lat a_co a_op a_ki a_tg a_fi a_se a_oc a_cp a_pl a_bs a_rr a_hr a_lw a_lr a_lt a_lm a_tc a_rc r_op r_ki r_fi r_se r_bs (upd r_rr v2.toNatClampNeg ((r_rr v2.toNatClampNeg) ||| v3)) r_lr r_lt r_tc)) M hP hD hS hl.1 (c_Op_unit l g a_op a_ki a_tg a_fi a_se a_oc a_cp r_op r_ki v1 y3 hy3) m_642 m_643 m_644 m_6 m_645 hd_Op_unit rfl rfl rfl ⟨by decide, by decide⟩ ⟨by decide, by decide⟩ 4 0 rfl rfl rfl [0, 1] [2, 3, 4, 5, 6, 7, 8, 9] [8, 9, 0, 1, 2, 3, 4, 5, 6, 7] rfl rfl rfl rfl (by decide) rfl rfl rfl (Nat.le_of_ble_eq_true rfl) d_Pl_noteTrigger_60 (fun H locs hP hD hS => ?_)
  refine W.eq (g2 := F0 m 63 ls [.int y3, .ref a_lt]) rfl ?_
  refine lv_iload_n hx hb d_Pl_noteTrigger_63 rfl (lv_at hl 2 rfl) ?_
  have ⟨h4, hE⟩ := ck_at hE
  refine va_iast hx hb hK hP hD hS 8 0 rfl rfl h4 d_Pl_noteTrigger_64 (fun H locs hP hD hS => ?_)
  have hP : va_P g.1 classes (w_op_10_671a g a_lat a_co a_op a_ki a_tg a_fi a_se a_oc a_cp a_pl a_bs a_rr a_hr a_lw a_lr a_lt a_lm a_tc a_rc r_op r_ki r_fi r_se r_bs (upd r_rr v2.toNatClampNeg ((r_rr v2.toNatClampNeg) ||| v3)) r_lr (upd r_lt y3.toNatClampNeg v2) r_tc) H := hP
  have hD : va_D A (w_op_10_671a g a_lat a_co a_op a_ki a_tg a_fi a_se a_oc a_cp a_pl a_bs a_rr a_hr a_lw a_lr a_lt a_lm a_tc a_rc r_op r_ki r_fi r_se r_bs (upd r_rr v2.toNatClampNeg ((r_rr v2.toNatClampNeg) ||| v3)) r_lr (upd r_lt y3.toNatClampNeg v2) r_tc) := hD
  refine lv_iconst (v := 0) hx hb d_Pl_noteTrigger_65 (by decide) ?_
  refine lv_istore (lv' := [(4, .int 0), (0, .ref a_pl), (1, .int v1), (2, .int v2), (3, .int v3)]) hx hb d_Pl_noteTrigger_66 hl (by decide) rfl (fun ls hl => ?_)
  exact wl_Pl_noteTrigger_68 M 5000 _ _ _ _ _ _ _ _ _ _ _ _ _ _ _ hE hP hD hS (lv_sub hl [1, 3, 4, 0] rfl)
set_option maxHeartbeats 4000000 in
set_option maxRecDepth 100000 in
theorem c_Pl_noteTrigger (l : Launch) (g : GT) (a_lat : Nat) (a_co : Nat) (a_op : Nat) (a_ki : Nat) (a_tg : Nat) (a_fi : Nat) (a_se : Nat) (a_oc : Nat) (a_cp : Nat) (a_pl : Nat) (a_bs : Nat) (a_rr : Nat) (a_hr : Nat) (a_lw : Nat) (a_lr : Nat) (a_lt : Nat) (a_lm : Nat) (a_tc : Nat) (a_rc : Nat) (r_op : Nat → Int32) (r_ki : Nat → Int32) (r_fi : Nat → Int32) (r_se : Nat → Int32) (r_bs : Nat → Int32) (r_rr : Nat → Int32) (r_lr : Nat → Int32) (r_lt : Nat → Int32) (r_tc : Nat → Int32) (v1 : Int32) (v2 : Int32) (y : (Nat → Int32) × (Nat → Int32) × (Nat → Int32) × (Nat → Int32) × (Nat → Int32)) (hy : some y = f_Pl_noteTrigger r_op r_ki r_fi r_se r_bs r_rr r_lr r_lt r_tc v1 v2) : Ct l y_Pl_noteTrigger (.code y_Pl_noteTrigger b_Pl_noteTrigger 5 none) rm_Pl_noteTrigger g [.ref a_pl, .int v1, .int v2] (w_op_10_671a g a_lat a_co a_op a_ki a_tg a_fi a_se a_oc a_cp a_pl a_bs a_rr a_hr a_lw a_lr a_lt a_lm a_tc a_rc r_op r_ki r_fi r_se r_bs r_rr r_lr r_lt r_tc) (w_op_10_671a g a_lat a_co a_op a_ki a_tg a_fi a_se a_oc a_cp a_pl a_bs a_rr a_hr a_lw a_lr a_lt a_lm a_tc a_rc r_op r_ki r_fi r_se y.1 y.2.1 y.2.2.1 y.2.2.2.1 y.2.2.2.2) none := by
  refine ct_in (C := "MoveDesk$Planner") rfl (by decide) (Nat.le_of_ble_eq_true rfl) (fun p e s m below meth c A ls M hP hD hS hl => ?_)
  obtain ⟨hx, hb, hr, hml, hown, hts, hlocks, hA, hK, hG⟩ := id M
  have hl : lv_has ls 5 [(0, .ref a_pl), (1, .int v1), (2, .int v2)] := hl
  have hE := hy
  rw [f_Pl_noteTrigger] at hE
  refine lv_aload_n hx hb d_Pl_noteTrigger_0 rfl (lv_at hl 0 rfl) ?_
  refine va_get (D := g.1) (ci := 5) (v := .ref a_op) (C := "MoveDesk$Planner") (T := F_Pl) (N := 12) hx hb hts i_Pl hown hK hP 4 rfl rfl 1 (by decide) (hts _ m_187) (fun _ h9 => h9) rfl d_Pl_noteTrigger_1 ?_
  refine lv_iload_n hx hb d_Pl_noteTrigger_4 rfl (lv_at hl 1 rfl) ?_
  obtain ⟨y1, hy1, hE⟩ := bd_at hE
  refine kV (C := "MoveDesk$Operations") (index := 87) (As := [.int v1]) (rest := []) (ws2 := (w_op_10_671a g a_lat a_co a_op a_ki a_tg a_fi a_se a_oc a_cp a_pl a_bs a_rr a_hr a_lw a_lr a_lt a_lm a_tc a_rc r_op r_ki r_fi r_se r_bs r_rr r_lr r_lt r_tc)) M hP hD hS hl.1 (c_Op_registersRead l g a_op a_ki a_tg a_fi a_se a_oc a_cp r_op r_ki r_fi r_se v1 y1 hy1) m_615 m_616 m_617 m_6 m_618 hd_Op_registersRead rfl rfl rfl ⟨by decide, by decide⟩ ⟨by decide, by decide⟩ 4 0 rfl rfl rfl [0, 1, 2, 3] [4, 5, 6, 7, 8, 9] [6, 7, 8, 9, 0, 1, 2, 3, 4, 5] rfl rfl rfl rfl (by decide) rfl rfl rfl (Nat.le_of_ble_eq_true rfl) d_Pl_noteTrigger_5 (fun H locs hP hD hS => ?_)
  refine W.eq (g2 := F0 m 8 ls [.int y1]) rfl ?_
  refine lv_istore_n (lv' := [(3, .int y1), (0, .ref a_pl), (1, .int v1), (2, .int v2)]) hx hb d_Pl_noteTrigger_8 rfl hl (by decide) rfl (fun ls hl => ?_)
  refine lv_aload_n hx hb d_Pl_noteTrigger_9 rfl (lv_at hl 1 rfl) ?_
  refine va_get (D := g.1) (ci := 5) (v := .ref a_tc) (C := "MoveDesk$Planner") (T := F_Pl) (N := 12) hx hb hts i_Pl hown hK hP 4 rfl rfl 10 (by decide) (hts _ m_196) (fun _ h9 => h9) rfl d_Pl_noteTrigger_10 ?_
  refine lv_iload_n hx hb d_Pl_noteTrigger_13 rfl (lv_at hl 2 rfl) ?_
  refine lv_iload_n hx hb d_Pl_noteTrigger_14 rfl (lv_at hl 3 rfl) ?_
  have ⟨h2, hE⟩ := ck_at hE
  refine va_iast hx hb hK hP hD hS 9 0 rfl rfl h2 d_Pl_noteTrigger_15 (fun H locs hP hD hS => ?_)
  have hP : va_P g.1 classes (w_op_10_671a g a_lat a_co a_op a_ki a_tg a_fi a_se a_oc a_cp a_pl a_bs a_rr a_hr a_lw a_lr a_lt a_lm a_tc a_rc r_op r_ki r_fi r_se r_bs r_rr r_lr r_lt (upd r_tc v1.toNatClampNeg v2)) H := hP
  have hD : va_D A (w_op_10_671a g a_lat a_co a_op a_ki a_tg a_fi a_se a_oc a_cp a_pl a_bs a_rr a_hr a_lw a_lr a_lt a_lm a_tc a_rc r_op r_ki r_fi r_se r_bs r_rr r_lr r_lt (upd r_tc v1.toNatClampNeg v2)) := hD
  refine lv_aload_n hx hb d_Pl_noteTrigger_16 rfl (lv_at hl 1 rfl) ?_
  refine va_get (D := g.1) (ci := 5) (v := .ref a_bs) (C := "MoveDesk$Planner") (T := F_Pl) (N := 12) hx hb hts i_Pl hown hK hP 4 rfl rfl 3 (by decide) (hts _ m_189) (fun _ h9 => h9) rfl d_Pl_noteTrigger_17 ?_
  refine lv_iload_n hx hb d_Pl_noteTrigger_20 rfl (lv_at hl 3 rfl) ?_
  refine lv_dup2_11 hx hb d_Pl_noteTrigger_21 rfl rfl ?_
  have ⟨h3, hE⟩ := ck_at hE
  refine va_iald hx hb hK hP 5 0 rfl rfl h3 d_Pl_noteTrigger_22 ?_
  refine lv_aload_n hx hb d_Pl_noteTrigger_23 rfl (lv_at hl 1 rfl) ?_
  refine va_get (D := g.1) (ci := 5) (v := .ref a_op) (C := "MoveDesk$Planner") (T := F_Pl) (N := 12) hx hb hts i_Pl hown hK hP 4 rfl rfl 1 (by decide) (hts _ m_187) (fun _ h9 => h9) rfl d_Pl_noteTrigger_24 ?_
  refine lv_iload_n hx hb d_Pl_noteTrigger_27 rfl (lv_at hl 2 rfl) ?_
  obtain ⟨y4, hy4, hE⟩ := bd_at hE
  refine kV (C := "MoveDesk$Operations") (index := 95) (As := [.int v1]) (rest := [.int (r_bs v2.toNatClampNeg), .int v2, .ref a_bs]) (ws2 := (w_op_10_671a g a_lat a_co a_op a_ki a_tg a_fi a_se a_oc a_cp a_pl a_bs a_rr a_hr a_lw a_lr a_lt a_lm a_tc a_rc r_op r_ki r_fi r_se r_bs r_rr r_lr r_lt (upd r_tc v1.toNatClampNeg v2))) M hP hD hS hl.1 (c_Op_isLoad l g a_op a_ki a_tg a_fi a_se a_oc a_cp r_op r_ki v1 y4 hy4) m_637 m_634 m_635 m_6 m_636 hd_Op_isLoad rfl rfl rfl ⟨by decide, by decide⟩ ⟨by decide, by decide⟩ 4 0 rfl rfl rfl [0, 1] [2, 3, 4, 5, 6, 7, 8, 9] [8, 9, 0, 1, 2, 3, 4, 5, 6, 7] rfl rfl rfl rfl (by decide) rfl rfl rfl (Nat.le_of_ble_eq_true rfl) d_Pl_noteTrigger_28 (fun H locs hP hD hS => ?_)
  refine W.eq (g2 := F0 m 31 ls [.int y4, .int (r_bs v2.toNatClampNeg), .int v2, .ref a_bs]) rfl ?_
  refine lv_if_eq (tgt := 38) hx hb d_Pl_noteTrigger_31 (by decide) (fun c5 => ?_) (fun c5 => ?_)
  · have hE := it_t hE c5
    refine lv_iconst (v := 2) hx hb d_Pl_noteTrigger_38 (by decide) ?_
    refine lv_iadd hx hb d_Pl_noteTrigger_39 ?_
    have ⟨h6, hE⟩ := ck_at hE
    refine va_iast hx hb hK hP hD hS 5 0 rfl rfl h6 d_Pl_noteTrigger_40 (fun H locs hP hD hS => ?_)
    have hP : va_P g.1 classes (w_op_10_671a g a_lat a_co a_op a_ki a_tg a_fi a_se a_oc a_cp a_pl a_bs a_rr a_hr a_lw a_lr a_lt a_lm a_tc a_rc r_op r_ki r_fi r_se (upd r_bs v2.toNatClampNeg ((r_bs v2.toNatClampNeg) + (2 : Int32))) r_rr r_lr r_lt (upd r_tc v1.toNatClampNeg v2)) H := hP
    have hD : va_D A (w_op_10_671a g a_lat a_co a_op a_ki a_tg a_fi a_se a_oc a_cp a_pl a_bs a_rr a_hr a_lw a_lr a_lt a_lm a_tc a_rc r_op r_ki r_fi r_se (upd r_bs v2.toNatClampNeg ((r_bs v2.toNatClampNeg) + (2 : Int32))) r_rr r_lr r_lt (upd r_tc v1.toNatClampNeg v2)) := hD
    exact wl_Pl_noteTrigger_41 M _ _ _ _ _ _ _ _ _ _ _ _ _ _ _ hE hP hD hS (lv_sub hl [1, 2, 3, 0] rfl)
  · have hE := it_f hE c5
    refine lv_iconst (v := 1) hx hb d_Pl_noteTrigger_34 (by decide) ?_
    refine lv_goto (tgt := 39) hx hb d_Pl_noteTrigger_35 (by decide) ?_
    refine lv_iadd hx hb d_Pl_noteTrigger_39 ?_
    have ⟨h7, hE⟩ := ck_at hE
    refine va_iast hx hb hK hP hD hS 5 0 rfl rfl h7 d_Pl_noteTrigger_40 (fun H locs hP hD hS => ?_)
    have hP : va_P g.1 classes (w_op_10_671a g a_lat a_co a_op a_ki a_tg a_fi a_se a_oc a_cp a_pl a_bs a_rr a_hr a_lw a_lr a_lt a_lm a_tc a_rc r_op r_ki r_fi r_se (upd r_bs v2.toNatClampNeg ((r_bs v2.toNatClampNeg) + (1 : Int32))) r_rr r_lr r_lt (upd r_tc v1.toNatClampNeg v2)) H := hP
    have hD : va_D A (w_op_10_671a g a_lat a_co a_op a_ki a_tg a_fi a_se a_oc a_cp a_pl a_bs a_rr a_hr a_lw a_lr a_lt a_lm a_tc a_rc r_op r_ki r_fi r_se (upd r_bs v2.toNatClampNeg ((r_bs v2.toNatClampNeg) + (1 : Int32))) r_rr r_lr r_lt (upd r_tc v1.toNatClampNeg v2)) := hD
    exact wl_Pl_noteTrigger_41 M _ _ _ _ _ _ _ _ _ _ _ _ _ _ _ hE hP hD hS (lv_sub hl [1, 2, 3, 0] rfl)
abbrev rm_Pl_resultCycle : Room := { frames := 1, cells := 0, slots := 0, locals := 21 }
set_option maxHeartbeats 4000000 in
set_option maxRecDepth 100000 in
theorem wl_Pl_resultCycle_87 {p : Program} {l : Launch} {e : Env} {s : State} {m : MethodId} {args : Array Value} {below : List Frame} {meth : Method} {c : Code} {A : Nat → Prop} {g : GT} {a_lat : Nat} {a_co : Nat} {a_ta : Nat} {a_gu : Nat} {a_so : Nat} {a_cn : Nat} {a_de : Nat} {a_op : Nat} {a_ki : Nat} {a_tg : Nat} {a_fi : Nat} {a_se : Nat} {a_oc : Nat} {a_cp : Nat} {a_pl : Nat} {a_bs : Nat} {a_rr : Nat} {a_hr : Nat} {a_lw : Nat} {a_lr : Nat} {a_lt : Nat} {a_lm : Nat} {a_tc : Nat} {a_rc : Nat} {y : Int32} (M : MX p s m args meth c b_Pl_resultCycle 6 (some .int) "MoveDesk$Planner" g A) (rec_50 : (Nat → Int32) → (Nat → Int32) → (Nat → Int32) → (Nat → Int32) → (Nat → Int32) → (Nat → Int32) → (Nat → Int32) → (Nat → Int32) → (Nat → Int32) → Int32 → Option (Int32)) (hrec_50 : ∀ (r_lat : Nat → Int32) (r_co : Nat → Int32) (r_op : Nat → Int32) (r_ki : Nat → Int32) (r_tg : Nat → Int32) (r_bs : Nat → Int32) (r_hr : Nat → Int32) (r_lw : Nat → Int32) (r_lr : Nat → Int32) (v5 : Int32) (H : Heap) (locs : List Loc) (ls : Array Slot), some y = rec_50 r_lat r_co r_op r_ki r_tg r_bs r_hr r_lw r_lr v5 → va_P g.1 classes (w_lat_10_318e g a_lat a_co a_ta a_gu a_so a_cn a_de a_op a_ki a_tg a_fi a_se a_oc a_cp a_pl a_bs a_rr a_hr a_lw a_lr a_lt a_lm a_tc a_rc r_lat r_co r_op r_ki r_tg r_bs r_hr r_lw r_lr) H → va_D A (w_lat_10_318e g a_lat a_co a_ta a_gu a_so a_cn a_de a_op a_ki a_tg a_fi a_se a_oc a_cp a_pl a_bs a_rr a_hr a_lw a_lr a_lt a_lm a_tc a_rc r_lat r_co r_op r_ki r_tg r_bs r_hr r_lw r_lr) → va_S A s.heap H locs → lv_has ls 6 [(0, .ref a_pl), (5, .int v5)] → W p l e rm_Pl_resultCycle s m args below meth c H locs 0 0 (MQ below (QW g (some (.int y)) (w_lat_10_318e g a_lat a_co a_ta a_gu a_so a_cn a_de a_op a_ki a_tg a_fi a_se a_oc a_cp a_pl a_bs a_rr a_hr a_lw a_lr a_lt a_lm a_tc a_rc r_lat r_co r_op r_ki r_tg r_bs r_hr r_lw r_lr) A) args s 0 0 A) (F0 m 50 ls [])) : ∀ (r_lat : Nat → Int32) (r_co : Nat → Int32) (r_op : Nat → Int32) (r_ki : Nat → Int32) (r_tg : Nat → Int32) (r_bs : Nat → Int32) (r_hr : Nat → Int32) (r_lw : Nat → Int32) (r_lr : Nat → Int32) (v5 : Int32) (H : Heap) (locs : List Loc) (ls : Array Slot), some y = (f_Pl_resultCycle_87 rec_50) r_lat r_co r_op r_ki r_tg r_bs r_hr r_lw r_lr v5 → va_P g.1 classes (w_lat_10_318e g a_lat a_co a_ta a_gu a_so a_cn a_de a_op a_ki a_tg a_fi a_se a_oc a_cp a_pl a_bs a_rr a_hr a_lw a_lr a_lt a_lm a_tc a_rc r_lat r_co r_op r_ki r_tg r_bs r_hr r_lw r_lr) H → va_D A (w_lat_10_318e g a_lat a_co a_ta a_gu a_so a_cn a_de a_op a_ki a_tg a_fi a_se a_oc a_cp a_pl a_bs a_rr a_hr a_lw a_lr a_lt a_lm a_tc a_rc r_lat r_co r_op r_ki r_tg r_bs r_hr r_lw r_lr) → va_S A s.heap H locs → lv_has ls 6 [(0, .ref a_pl), (5, .int v5)] → W p l e rm_Pl_resultCycle s m args below meth c H locs 0 0 (MQ below (QW g (some (.int y)) (w_lat_10_318e g a_lat a_co a_ta a_gu a_so a_cn a_de a_op a_ki a_tg a_fi a_se a_oc a_cp a_pl a_bs a_rr a_hr a_lw a_lr a_lt a_lm a_tc a_rc r_lat r_co r_op r_ki r_tg r_bs r_hr r_lw r_lr) A) args s 0 0 A) (F0 m 87 ls []) := by
  obtain ⟨hx, hb, hr, hml, hown, hts, hlocks, hA, hK, hG⟩ := id M
  intro r_lat r_co r_op r_ki r_tg r_bs r_hr r_lw r_lr v5 H locs ls hE hP hD hS hl
  rw [f_Pl_resultCycle_87] at hE
  obtain ⟨x1, ex1⟩ : ∃ z : Int32, z = v5 + 1 := ⟨_, rfl⟩
  have hE := nm_at hE ex1
  refine lv_iinc (v := x1) (lv' := [(5, .int x1), (0, .ref a_pl)]) hx hb d_Pl_resultCycle_87 hl (k := 1) rfl (by rw [ex1]; rfl) (by decide) rfl (fun ls hl => ?_)
  refine lv_goto (tgt := 50) hx hb d_Pl_resultCycle_90 (by decide) ?_
  exact hrec_50 _ _ _ _ _ _ _ _ _ _ _ _ _ hE hP hD hS (lv_sub hl [1, 0] rfl)
set_option maxHeartbeats 4000000 in
set_option maxRecDepth 100000 in
theorem wl_Pl_resultCycle_50 {p : Program} {l : Launch} {e : Env} {s : State} {m : MethodId} {args : Array Value} {below : List Frame} {meth : Method} {c : Code} {A : Nat → Prop} {g : GT} {a_lat : Nat} {a_co : Nat} {a_ta : Nat} {a_gu : Nat} {a_so : Nat} {a_cn : Nat} {a_de : Nat} {a_op : Nat} {a_ki : Nat} {a_tg : Nat} {a_fi : Nat} {a_se : Nat} {a_oc : Nat} {a_cp : Nat} {a_pl : Nat} {a_bs : Nat} {a_rr : Nat} {a_hr : Nat} {a_lw : Nat} {a_lr : Nat} {a_lt : Nat} {a_lm : Nat} {a_tc : Nat} {a_rc : Nat} {y : Int32} (M : MX p s m args meth c b_Pl_resultCycle 6 (some .int) "MoveDesk$Planner" g A) : ∀ n : Nat, ∀ (r_lat : Nat → Int32) (r_co : Nat → Int32) (r_op : Nat → Int32) (r_ki : Nat → Int32) (r_tg : Nat → Int32) (r_bs : Nat → Int32) (r_hr : Nat → Int32) (r_lw : Nat → Int32) (r_lr : Nat → Int32) (v5 : Int32) (H : Heap) (locs : List Loc) (ls : Array Slot), some y = (f_Pl_resultCycle_50 n) r_lat r_co r_op r_ki r_tg r_bs r_hr r_lw r_lr v5 → va_P g.1 classes (w_lat_10_318e g a_lat a_co a_ta a_gu a_so a_cn a_de a_op a_ki a_tg a_fi a_se a_oc a_cp a_pl a_bs a_rr a_hr a_lw a_lr a_lt a_lm a_tc a_rc r_lat r_co r_op r_ki r_tg r_bs r_hr r_lw r_lr) H → va_D A (w_lat_10_318e g a_lat a_co a_ta a_gu a_so a_cn a_de a_op a_ki a_tg a_fi a_se a_oc a_cp a_pl a_bs a_rr a_hr a_lw a_lr a_lt a_lm a_tc a_rc r_lat r_co r_op r_ki r_tg r_bs r_hr r_lw r_lr) → va_S A s.heap H locs → lv_has ls 6 [(0, .ref a_pl), (5, .int v5)] → W p l e rm_Pl_resultCycle s m args below meth c H locs 0 0 (MQ below (QW g (some (.int y)) (w_lat_10_318e g a_lat a_co a_ta a_gu a_so a_cn a_de a_op a_ki a_tg a_fi a_se a_oc a_cp a_pl a_bs a_rr a_hr a_lw a_lr a_lt a_lm a_tc a_rc r_lat r_co r_op r_ki r_tg r_bs r_hr r_lw r_lr) A) args s 0 0 A) (F0 m 50 ls []) := by
  obtain ⟨hx, hb, hr, hml, hown, hts, hlocks, hA, hK, hG⟩ := id M
  intro n
  induction n with
  | zero =>
    intro r_lat r_co r_op r_ki r_tg r_bs r_hr r_lw r_lr v5 H locs ls hE hP hD hS hl
    rw [f_Pl_resultCycle_50] at hE
    cases hE
  | succ n ih =>
    intro r_lat r_co r_op r_ki r_tg r_bs r_hr r_lw r_lr v5 H locs ls hE hP hD hS hl
    rw [f_Pl_resultCycle_50] at hE
    refine lv_iload hx hb d_Pl_resultCycle_50 (lv_at hl 1 rfl) ?_
    refine lv_bipush (v := 63) hx hb d_Pl_resultCycle_52 (by decide) ?_
    refine lv_icmp_gt (tgt := 93) hx hb d_Pl_resultCycle_54 (by decide) (fun c1 => ?_) (fun c1 => ?_)
    · have hE := it_t hE c1
      refine lv_iconst (v := (-1)) hx hb d_Pl_resultCycle_93 (by decide) ?_
      have hE := Option.some.inj hE
      rw [hE]
      exact W.iret (v := (-1)) hx hb hr (fun t ht hW => ⟨⟨rfl, by rw [ht]; exact hP, va_K.moved hW.alike hK, hD⟩, hS.F ht⟩) hS.2.2 d_Pl_resultCycle_94 hlocks
    · have hE := it_f hE c1
      refine lv_aload_n hx hb d_Pl_resultCycle_57 rfl (lv_at hl 0 rfl) ?_
      refine va_get (D := g.1) (ci := 5) (v := .ref a_bs) (C := "MoveDesk$Planner") (T := F_Pl) (N := 12) hx hb hts i_Pl hown hK hP 5 rfl rfl 3 (by decide) (hts _ m_189) (fun _ h9 => h9) rfl d_Pl_resultCycle_58 ?_
      refine lv_iload hx hb d_Pl_resultCycle_61 (lv_at hl 1 rfl) ?_
      have ⟨h2, hE⟩ := ck_at hE
      refine va_iald hx hb hK hP 6 0 rfl rfl h2 d_Pl_resultCycle_63 ?_
      refine lv_aload_n hx hb d_Pl_resultCycle_64 rfl (lv_at hl 0 rfl) ?_
      refine va_get (D := g.1) (ci := 5) (v := .ref a_co) (C := "MoveDesk$Planner") (T := F_Pl) (N := 12) hx hb hts i_Pl hown hK hP 5 rfl rfl 0 (by decide) (hts _ m_186) (fun _ h9 => h9) rfl d_Pl_resultCycle_65 ?_
      refine va_getN (D := g.1) (ci := 1) (v := .int (r_co 0)) (C := "MoveDesk$Code") (T := F_Co) (N := 6) hx hb hts i_Co hown hK hP 1 rfl rfl 0 (by decide) (va_Nw.use rfl (hG.1 _ (nw_40))) (fun _ h9 => h9) rfl d_Pl_resultCycle_68 ?_
      refine lv_icmp_ge (tgt := 87) hx hb d_Pl_resultCycle_71 (by decide) (fun c3 => ?_) (fun c3 => ?_)
      · have hE := it_t hE c3
        exact wl_Pl_resultCycle_87 M (f_Pl_resultCycle_50 n) ih _ _ _ _ _ _ _ _ _ _ _ _ _ hE hP hD hS (lv_sub hl [0, 1] rfl)
      · have hE := it_f hE c3
        refine lv_aload_n hx hb d_Pl_resultCycle_74 rfl (lv_at hl 0 rfl) ?_
        refine va_get (D := g.1) (ci := 5) (v := .ref a_hr) (C := "MoveDesk$Planner") (T := F_Pl) (N := 12) hx hb hts i_Pl hown hK hP 5 rfl rfl 5 (by decide) (hts _ m_191) (fun _ h9 => h9) rfl d_Pl_resultCycle_75 ?_
        refine lv_iload hx hb d_Pl_resultCycle_78 (lv_at hl 1 rfl) ?_
        have ⟨h4, hE⟩ := ck_at hE
        refine va_zald hx hb hK hP 7 1 rfl rfl h4 d_Pl_resultCycle_80 ?_
        refine lv_if_ne (tgt := 87) hx hb d_Pl_resultCycle_81 (by decide) (fun c5 => ?_) (fun c5 => ?_)
        · have hE := it_f hE c5
          exact wl_Pl_resultCycle_87 M (f_Pl_resultCycle_50 n) ih _ _ _ _ _ _ _ _ _ _ _ _ _ hE hP hD hS (lv_sub hl [0, 1] rfl)
        · have hE := it_t hE c5
          refine lv_iload hx hb d_Pl_resultCycle_84 (lv_at hl 1 rfl) ?_
          have hE := Option.some.inj hE
          rw [hE]
          exact W.iret (v := v5) hx hb hr (fun t ht hW => ⟨⟨rfl, by rw [ht]; exact hP, va_K.moved hW.alike hK, hD⟩, hS.F ht⟩) hS.2.2 d_Pl_resultCycle_86 hlocks
set_option maxHeartbeats 4000000 in
set_option maxRecDepth 100000 in
theorem c_Pl_resultCycle (l : Launch) (g : GT) (a_lat : Nat) (a_co : Nat) (a_ta : Nat) (a_gu : Nat) (a_so : Nat) (a_cn : Nat) (a_de : Nat) (a_op : Nat) (a_ki : Nat) (a_tg : Nat) (a_fi : Nat) (a_se : Nat) (a_oc : Nat) (a_cp : Nat) (a_pl : Nat) (a_bs : Nat) (a_rr : Nat) (a_hr : Nat) (a_lw : Nat) (a_lr : Nat) (a_lt : Nat) (a_lm : Nat) (a_tc : Nat) (a_rc : Nat) (r_lat : Nat → Int32) (r_co : Nat → Int32) (r_op : Nat → Int32) (r_ki : Nat → Int32) (r_tg : Nat → Int32) (r_bs : Nat → Int32) (r_hr : Nat → Int32) (r_lw : Nat → Int32) (r_lr : Nat → Int32) (v1 : Int32) (v2 : Int32) (y : Int32) (hy : some y = f_Pl_resultCycle r_lat r_co r_op r_ki r_tg r_bs r_hr r_lw r_lr v1 v2) : Ct l y_Pl_resultCycle (.code y_Pl_resultCycle b_Pl_resultCycle 6 (some .int)) rm_Pl_resultCycle g [.ref a_pl, .int v1, .int v2] (w_lat_10_318e g a_lat a_co a_ta a_gu a_so a_cn a_de a_op a_ki a_tg a_fi a_se a_oc a_cp a_pl a_bs a_rr a_hr a_lw a_lr a_lt a_lm a_tc a_rc r_lat r_co r_op r_ki r_tg r_bs r_hr r_lw r_lr) (w_lat_10_318e g a_lat a_co a_ta a_gu a_so a_cn a_de a_op a_ki a_tg a_fi a_se a_oc a_cp a_pl a_bs a_rr a_hr a_lw a_lr a_lt a_lm a_tc a_rc r_lat r_co r_op r_ki r_tg r_bs r_hr r_lw r_lr) (some (.int y)) := by
  refine ct_in (C := "MoveDesk$Planner") rfl (by decide) (Nat.le_of_ble_eq_true rfl) (fun p e s m below meth c A ls M hP hD hS hl => ?_)
  obtain ⟨hx, hb, hr, hml, hown, hts, hlocks, hA, hK, hG⟩ := id M
  have hl : lv_has ls 6 [(0, .ref a_pl), (1, .int v1), (2, .int v2)] := hl
  have hE := hy
  rw [f_Pl_resultCycle] at hE
  refine lv_aload_n hx hb d_Pl_resultCycle_0 rfl (lv_at hl 0 rfl) ?_
  refine va_get (D := g.1) (ci := 5) (v := .ref a_op) (C := "MoveDesk$Planner") (T := F_Pl) (N := 12) hx hb hts i_Pl hown hK hP 5 rfl rfl 1 (by decide) (hts _ m_187) (fun _ h9 => h9) rfl d_Pl_resultCycle_1 ?_
  refine lv_iload_n hx hb d_Pl_resultCycle_4 rfl (lv_at hl 1 rfl) ?_
  obtain ⟨y1, hy1, hE⟩ := bd_at hE
  refine kV (C := "MoveDesk$Operations") (index := 109) (As := [.int v1]) (rest := []) (ws2 := (w_lat_10_318e g a_lat a_co a_ta a_gu a_so a_cn a_de a_op a_ki a_tg a_fi a_se a_oc a_cp a_pl a_bs a_rr a_hr a_lw a_lr a_lt a_lm a_tc a_rc r_lat r_co r_op r_ki r_tg r_bs r_hr r_lw r_lr)) M hP hD hS hl.1 (c_Op_target l g a_op a_ki a_tg a_fi a_se a_oc a_cp r_op r_tg v1 y1 hy1) m_660 m_661 m_662 m_6 m_663 hd_Op_target rfl rfl rfl ⟨by decide, by decide⟩ ⟨by decide, by decide⟩ 4 0 rfl rfl rfl [2, 4] [0, 1, 3, 5, 6, 7, 8, 9] [0, 1, 8, 2, 9, 3, 4, 5, 6, 7] rfl rfl rfl rfl (by decide) rfl rfl rfl (Nat.le_of_ble_eq_true rfl) d_Pl_resultCycle_5 (fun H locs hP hD hS => ?_)
  refine W.eq (g2 := F0 m 8 ls [.int y1]) rfl ?_
  refine lv_istore_n (lv' := [(3, .int y1), (0, .ref a_pl), (1, .int v1), (2, .int v2)]) hx hb d_Pl_resultCycle_8 rfl hl (by decide) rfl (fun ls hl => ?_)
  refine lv_iload_n hx hb d_Pl_resultCycle_9 rfl (lv_at hl 3 rfl) ?_
  refine lv_aload_n hx hb d_Pl_resultCycle_10 rfl (lv_at hl 1 rfl) ?_
  refine va_get (D := g.1) (ci := 5) (v := .ref a_lat) (C := "MoveDesk$Planner") (T := F_Pl) (N := 12) hx hb hts i_Pl hown hK hP 5 rfl rfl 2 (by decide) (hts _ m_188) (fun _ h9 => h9) rfl d_Pl_resultCycle_11 ?_
  refine lv_aload_n hx hb d_Pl_resultCycle_14 rfl (lv_at hl 1 rfl) ?_
  refine va_get (D := g.1) (ci := 5) (v := .ref a_op) (C := "MoveDesk$Planner") (T := F_Pl) (N := 12) hx hb hts i_Pl hown hK hP 5 rfl rfl 1 (by decide) (hts _ m_187) (fun _ h9 => h9) rfl d_Pl_resultCycle_15 ?_
  refine lv_iload_n hx hb d_Pl_resultCycle_18 rfl (lv_at hl 2 rfl) ?_
  obtain ⟨y2, hy2, hE⟩ := bd_at hE
  refine kV (C := "MoveDesk$Operations") (index := 106) (As := [.int v1]) (rest := [.ref a_lat, .int v2]) (ws2 := (w_lat_10_318e g a_lat a_co a_ta a_gu a_so a_cn a_de a_op a_ki a_tg a_fi a_se a_oc a_cp a_pl a_bs a_rr a_hr a_lw a_lr a_lt a_lm a_tc a_rc r_lat r_co r_op r_ki r_tg r_bs r_hr r_lw r_lr)) M hP hD hS hl.1 (c_Op_unit l g a_op a_ki a_tg a_fi a_se a_oc a_cp r_op r_ki v1 y2 hy2) m_642 m_643 m_644 m_6 m_645 hd_Op_unit rfl rfl rfl ⟨by decide, by decide⟩ ⟨by decide, by decide⟩ 4 0 rfl rfl rfl [2, 3] [0, 1, 4, 5, 6, 7, 8, 9] [0, 1, 8, 9, 2, 3, 4, 5, 6, 7] rfl rfl rfl rfl (by decide) rfl rfl rfl (Nat.le_of_ble_eq_true rfl) d_Pl_resultCycle_19 (fun H locs hP hD hS => ?_)
  refine W.eq (g2 := F0 m 22 ls [.int y2, .ref a_lat, .int v2]) rfl ?_
  have ⟨h3, hE⟩ := ck_at hE
  refine va_iald hx hb hK hP 0 0 rfl rfl h3 d_Pl_resultCycle_22 ?_
  refine lv_iadd hx hb d_Pl_resultCycle_23 ?_
  refine lv_aload_n hx hb d_Pl_resultCycle_24 rfl (lv_at hl 1 rfl) ?_
  refine va_get (D := g.1) (ci := 5) (v := .ref a_lw) (C := "MoveDesk$Planner") (T := F_Pl) (N := 12) hx hb hts i_Pl hown hK hP 5 rfl rfl 6 (by decide) (hts _ m_192) (fun _ h9 => h9) rfl d_Pl_resultCycle_25 ?_
  refine lv_iload_n hx hb d_Pl_resultCycle_28 rfl (lv_at hl 0 rfl) ?_
  have ⟨h4, hE⟩ := ck_at hE
  refine va_iald hx hb hK hP 8 0 rfl rfl h4 d_Pl_resultCycle_29 ?_
  refine lv_iconst (v := 1) hx hb d_Pl_resultCycle_30 (by decide) ?_
  refine lv_iadd hx hb d_Pl_resultCycle_31 ?_
  refine lv_aload_n hx hb d_Pl_resultCycle_32 rfl (lv_at hl 1 rfl) ?_
  refine va_get (D := g.1) (ci := 5) (v := .ref a_lr) (C := "MoveDesk$Planner") (T := F_Pl) (N := 12) hx hb hts i_Pl hown hK hP 5 rfl rfl 7 (by decide) (hts _ m_193) (fun _ h9 => h9) rfl d_Pl_resultCycle_33 ?_
  refine lv_iload_n hx hb d_Pl_resultCycle_36 rfl (lv_at hl 0 rfl) ?_
  have ⟨h5, hE⟩ := ck_at hE
  refine va_iald hx hb hK hP 9 0 rfl rfl h5 d_Pl_resultCycle_37 ?_
  refine va_mmax hx hb (hml.trans hl.1.symm) hown (hts _ m_646) (hts _ m_31) (hts _ m_2) (hts _ m_32) (by decide) (Nat.le_of_ble_eq_true rfl) (by decide) (by decide) d_Pl_resultCycle_38 ?_
  refine lv_topi (fun x6 ex6 => ?_)
  have hE := nm_at hE ex6
  refine va_mmax hx hb (hml.trans hl.1.symm) hown (hts _ m_646) (hts _ m_31) (hts _ m_2) (hts _ m_32) (by decide) (Nat.le_of_ble_eq_true rfl) (by decide) (by decide) d_Pl_resultCycle_41 ?_
  refine lv_topi (fun x7 ex7 => ?_)
  have hE := nm_at hE ex7
  refine lv_istore (lv' := [(4, .int x7), (3, .int y1), (0, .ref a_pl), (1, .int v1), (2, .int v2)]) hx hb d_Pl_resultCycle_44 hl (by decide) rfl (fun ls hl => ?_)
  refine lv_iload hx hb d_Pl_resultCycle_46 (lv_at hl 0 rfl) ?_
  refine lv_istore (lv' := [(5, .int x7), (4, .int x7), (3, .int y1), (0, .ref a_pl), (1, .int v1), (2, .int v2)]) hx hb d_Pl_resultCycle_48 hl (by decide) rfl (fun ls hl => ?_)
  exact wl_Pl_resultCycle_50 M 5000 _ _ _ _ _ _ _ _ _ _ _ _ _ hE hP hD hS (lv_sub hl [3, 0] rfl)
abbrev rm_Pl_noteResult : Room := { frames := 1, cells := 0, slots := 0, locals := 21 }
set_option maxHeartbeats 4000000 in
set_option maxRecDepth 100000 in
theorem c_Pl_noteResult (l : Launch) (g : GT) (a_lat : Nat) (a_co : Nat) (a_op : Nat) (a_ki : Nat) (a_tg : Nat) (a_fi : Nat) (a_se : Nat) (a_oc : Nat) (a_cp : Nat) (a_pl : Nat) (a_bs : Nat) (a_rr : Nat) (a_hr : Nat) (a_lw : Nat) (a_lr : Nat) (a_lt : Nat) (a_lm : Nat) (a_tc : Nat) (a_rc : Nat) (r_op : Nat → Int32) (r_ki : Nat → Int32) (r_tg : Nat → Int32) (r_bs : Nat → Int32) (r_hr : Nat → Int32) (r_lw : Nat → Int32) (r_lm : Nat → Int32) (r_rc : Nat → Int32) (v1 : Int32) (v2 : Int32) (y : (Nat → Int32) × (Nat → Int32) × (Nat → Int32) × (Nat → Int32) × (Nat → Int32)) (hy : some y = f_Pl_noteResult r_op r_ki r_tg r_bs r_hr r_lw r_lm r_rc v1 v2) : Ct l y_Pl_noteResult (.code y_Pl_noteResult b_Pl_noteResult 3 none) rm_Pl_noteResult g [.ref a_pl, .int v1, .int v2] (w_op_9_6316 g a_lat a_co a_op a_ki a_tg a_fi a_se a_oc a_cp a_pl a_bs a_rr a_hr a_lw a_lr a_lt a_lm a_tc a_rc r_op r_ki r_tg r_bs r_hr r_lw r_lm r_rc) (w_op_9_6316 g a_lat a_co a_op a_ki a_tg a_fi a_se a_oc a_cp a_pl a_bs a_rr a_hr a_lw a_lr a_lt a_lm a_tc a_rc r_op r_ki r_tg y.1 y.2.1 y.2.2.1 y.2.2.2.1 y.2.2.2.2) none := by
  refine ct_in (C := "MoveDesk$Planner") rfl (by decide) (Nat.le_of_ble_eq_true rfl) (fun p e s m below meth c A ls M hP hD hS hl => ?_)
  obtain ⟨hx, hb, hr, hml, hown, hts, hlocks, hA, hK, hG⟩ := id M
  have hl : lv_has ls 3 [(0, .ref a_pl), (1, .int v1), (2, .int v2)] := hl
  have hE := hy
  rw [f_Pl_noteResult] at hE
  refine lv_aload_n hx hb d_Pl_noteResult_0 rfl (lv_at hl 0 rfl) ?_
  refine va_get (D := g.1) (ci := 5) (v := .ref a_rc) (C := "MoveDesk$Planner") (T := F_Pl) (N := 12) hx hb hts i_Pl hown hK hP 3 rfl rfl 11 (by decide) (hts _ m_197) (fun _ h9 => h9) rfl d_Pl_noteResult_1 ?_
  refine lv_iload_n hx hb d_Pl_noteResult_4 rfl (lv_at hl 1 rfl) ?_
  refine lv_iload_n hx hb d_Pl_noteResult_5 rfl (lv_at hl 2 rfl) ?_
  have ⟨h1, hE⟩ := ck_at hE
  refine va_iast hx hb hK hP hD hS 8 0 rfl rfl h1 d_Pl_noteResult_6 (fun H locs hP hD hS => ?_)
  have hP : va_P g.1 classes (w_op_9_6316 g a_lat a_co a_op a_ki a_tg a_fi a_se a_oc a_cp a_pl a_bs a_rr a_hr a_lw a_lr a_lt a_lm a_tc a_rc r_op r_ki r_tg r_bs r_hr r_lw r_lm (upd r_rc v1.toNatClampNeg v2)) H := hP
  have hD : va_D A (w_op_9_6316 g a_lat a_co a_op a_ki a_tg a_fi a_se a_oc a_cp a_pl a_bs a_rr a_hr a_lw a_lr a_lt a_lm a_tc a_rc r_op r_ki r_tg r_bs r_hr r_lw r_lm (upd r_rc v1.toNatClampNeg v2)) := hD
  refine lv_aload_n hx hb d_Pl_noteResult_7 rfl (lv_at hl 0 rfl) ?_
  refine va_get (D := g.1) (ci := 5) (v := .ref a_bs) (C := "MoveDesk$Planner") (T := F_Pl) (N := 12) hx hb hts i_Pl hown hK hP 3 rfl rfl 3 (by decide) (hts _ m_189) (fun _ h9 => h9) rfl d_Pl_noteResult_8 ?_
  refine lv_iload_n hx hb d_Pl_noteResult_11 rfl (lv_at hl 2 rfl) ?_
  refine lv_dup2_11 hx hb d_Pl_noteResult_12 rfl rfl ?_
  have ⟨h2, hE⟩ := ck_at hE
  refine va_iald hx hb hK hP 4 0 rfl rfl h2 d_Pl_noteResult_13 ?_
  refine lv_iconst (v := 1) hx hb d_Pl_noteResult_14 (by decide) ?_
  refine lv_iadd hx hb d_Pl_noteResult_15 ?_
  have ⟨h3, hE⟩ := ck_at hE
  refine va_iast hx hb hK hP hD hS 4 0 rfl rfl h3 d_Pl_noteResult_16 (fun H locs hP hD hS => ?_)
  have hP : va_P g.1 classes (w_op_9_6316 g a_lat a_co a_op a_ki a_tg a_fi a_se a_oc a_cp a_pl a_bs a_rr a_hr a_lw a_lr a_lt a_lm a_tc a_rc r_op r_ki r_tg (upd r_bs v2.toNatClampNeg ((r_bs v2.toNatClampNeg) + (1 : Int32))) r_hr r_lw r_lm (upd r_rc v1.toNatClampNeg v2)) H := hP
  have hD : va_D A (w_op_9_6316 g a_lat a_co a_op a_ki a_tg a_fi a_se a_oc a_cp a_pl a_bs a_rr a_hr a_lw a_lr a_lt a_lm a_tc a_rc r_op r_ki r_tg (upd r_bs v2.toNatClampNeg ((r_bs v2.toNatClampNeg) + (1 : Int32))) r_hr r_lw r_lm (upd r_rc v1.toNatClampNeg v2)) := hD
  refine lv_aload_n hx hb d_Pl_noteResult_17 rfl (lv_at hl 0 rfl) ?_
  refine va_get (D := g.1) (ci := 5) (v := .ref a_hr) (C := "MoveDesk$Planner") (T := F_Pl) (N := 12) hx hb hts i_Pl hown hK hP 3 rfl rfl 5 (by decide) (hts _ m_191) (fun _ h9 => h9) rfl d_Pl_noteResult_18 ?_
  refine lv_iload_n hx hb d_Pl_noteResult_21 rfl (lv_at hl 2 rfl) ?_
  refine lv_iconst (v := 1) hx hb d_Pl_noteResult_22 (by decide) ?_
  have ⟨h4, hE⟩ := ck_at hE
  refine va_zast hx hb hK hP hD hS 5 1 rfl rfl h4 d_Pl_noteResult_23 (fun H locs hP hD hS => ?_)
  have hP : va_P g.1 classes (w_op_9_6316 g a_lat a_co a_op a_ki a_tg a_fi a_se a_oc a_cp a_pl a_bs a_rr a_hr a_lw a_lr a_lt a_lm a_tc a_rc r_op r_ki r_tg (upd r_bs v2.toNatClampNeg ((r_bs v2.toNatClampNeg) + (1 : Int32))) (upd r_hr v2.toNatClampNeg (1 : Int32)) r_lw r_lm (upd r_rc v1.toNatClampNeg v2)) H := hP
  have hD : va_D A (w_op_9_6316 g a_lat a_co a_op a_ki a_tg a_fi a_se a_oc a_cp a_pl a_bs a_rr a_hr a_lw a_lr a_lt a_lm a_tc a_rc r_op r_ki r_tg (upd r_bs v2.toNatClampNeg ((r_bs v2.toNatClampNeg) + (1 : Int32))) (upd r_hr v2.toNatClampNeg (1 : Int32)) r_lw r_lm (upd r_rc v1.toNatClampNeg v2)) := hD
  refine lv_aload_n hx hb d_Pl_noteResult_24 rfl (lv_at hl 0 rfl) ?_
  refine va_get (D := g.1) (ci := 5) (v := .ref a_lw) (C := "MoveDesk$Planner") (T := F_Pl) (N := 12) hx hb hts i_Pl hown hK hP 3 rfl rfl 6 (by decide) (hts _ m_192) (fun _ h9 => h9) rfl d_Pl_noteResult_25 ?_
  refine lv_aload_n hx hb d_Pl_noteResult_28 rfl (lv_at hl 0 rfl) ?_
  refine va_get (D := g.1) (ci := 5) (v := .ref a_op) (C := "MoveDesk$Planner") (T := F_Pl) (N := 12) hx hb hts i_Pl hown hK hP 3 rfl rfl 1 (by decide) (hts _ m_187) (fun _ h9 => h9) rfl d_Pl_noteResult_29 ?_
  refine lv_iload_n hx hb d_Pl_noteResult_32 rfl (lv_at hl 1 rfl) ?_
  obtain ⟨y5, hy5, hE⟩ := bd_at hE
  refine kV (C := "MoveDesk$Operations") (index := 109) (As := [.int v1]) (rest := [.ref a_lw]) (ws2 := (w_op_9_6316 g a_lat a_co a_op a_ki a_tg a_fi a_se a_oc a_cp a_pl a_bs a_rr a_hr a_lw a_lr a_lt a_lm a_tc a_rc r_op r_ki r_tg (upd r_bs v2.toNatClampNeg ((r_bs v2.toNatClampNeg) + (1 : Int32))) (upd r_hr v2.toNatClampNeg (1 : Int32)) r_lw r_lm (upd r_rc v1.toNatClampNeg v2))) M hP hD hS hl.1 (c_Op_target l g a_op a_ki a_tg a_fi a_se a_oc a_cp r_op r_tg v1 y5 hy5) m_660 m_661 m_662 m_6 m_663 hd_Op_target rfl rfl rfl ⟨by decide, by decide⟩ ⟨by decide, by decide⟩ 4 0 rfl rfl rfl [0, 2] [1, 3, 4, 5, 6, 7, 8] [7, 0, 8, 1, 2, 3, 4, 5, 6] rfl rfl rfl rfl (by decide) rfl rfl rfl (Nat.le_of_ble_eq_true rfl) d_Pl_noteResult_33 (fun H locs hP hD hS => ?_)
  refine W.eq (g2 := F0 m 36 ls [.int y5, .ref a_lw]) rfl ?_
  refine lv_iload_n hx hb d_Pl_noteResult_36 rfl (lv_at hl 2 rfl) ?_
  have ⟨h6, hE⟩ := ck_at hE
  refine va_iast hx hb hK hP hD hS 6 0 rfl rfl h6 d_Pl_noteResult_37 (fun H locs hP hD hS => ?_)
  have hP : va_P g.1 classes (w_op_9_6316 g a_lat a_co a_op a_ki a_tg a_fi a_se a_oc a_cp a_pl a_bs a_rr a_hr a_lw a_lr a_lt a_lm a_tc a_rc r_op r_ki r_tg (upd r_bs v2.toNatClampNeg ((r_bs v2.toNatClampNeg) + (1 : Int32))) (upd r_hr v2.toNatClampNeg (1 : Int32)) (upd r_lw y5.toNatClampNeg v2) r_lm (upd r_rc v1.toNatClampNeg v2)) H := hP
  have hD : va_D A (w_op_9_6316 g a_lat a_co a_op a_ki a_tg a_fi a_se a_oc a_cp a_pl a_bs a_rr a_hr a_lw a_lr a_lt a_lm a_tc a_rc r_op r_ki r_tg (upd r_bs v2.toNatClampNeg ((r_bs v2.toNatClampNeg) + (1 : Int32))) (upd r_hr v2.toNatClampNeg (1 : Int32)) (upd r_lw y5.toNatClampNeg v2) r_lm (upd r_rc v1.toNatClampNeg v2)) := hD
  refine lv_aload_n hx hb d_Pl_noteResult_38 rfl (lv_at hl 0 rfl) ?_
  refine va_get (D := g.1) (ci := 5) (v := .ref a_lm) (C := "MoveDesk$Planner") (T := F_Pl) (N := 12) hx hb hts i_Pl hown hK hP 3 rfl rfl 9 (by decide) (hts _ m_195) (fun _ h9 => h9) rfl d_Pl_noteResult_39 ?_
  refine lv_aload_n hx hb d_Pl_noteResult_42 rfl (lv_at hl 0 rfl) ?_
  refine va_get (D := g.1) (ci := 5) (v := .ref a_op) (C := "MoveDesk$Planner") (T := F_Pl) (N := 12) hx hb hts i_Pl hown hK hP 3 rfl rfl 1 (by decide) (hts _ m_187) (fun _ h9 => h9) rfl d_Pl_noteResult_43 ?_
  refine lv_iload_n hx hb d_Pl_noteResult_46 rfl (lv_at hl 1 rfl) ?_
  obtain ⟨y7, hy7, hE⟩ := bd_at hE
  refine kV (C := "MoveDesk$Operations") (index := 106) (As := [.int v1]) (rest := [.ref a_lm]) (ws2 := (w_op_9_6316 g a_lat a_co a_op a_ki a_tg a_fi a_se a_oc a_cp a_pl a_bs a_rr a_hr a_lw a_lr a_lt a_lm a_tc a_rc r_op r_ki r_tg (upd r_bs v2.toNatClampNeg ((r_bs v2.toNatClampNeg) + (1 : Int32))) (upd r_hr v2.toNatClampNeg (1 : Int32)) (upd r_lw y5.toNatClampNeg v2) r_lm (upd r_rc v1.toNatClampNeg v2))) M hP hD hS hl.1 (c_Op_unit l g a_op a_ki a_tg a_fi a_se a_oc a_cp r_op r_ki v1 y7 hy7) m_642 m_643 m_644 m_6 m_645 hd_Op_unit rfl rfl rfl ⟨by decide, by decide⟩ ⟨by decide, by decide⟩ 4 0 rfl rfl rfl [0, 1] [2, 3, 4, 5, 6, 7, 8] [7, 8, 0, 1, 2, 3, 4, 5, 6] rfl rfl rfl rfl (by decide) rfl rfl rfl (Nat.le_of_ble_eq_true rfl) d_Pl_noteResult_47 (fun H locs hP hD hS => ?_)
  refine W.eq (g2 := F0 m 50 ls [.int y7, .ref a_lm]) rfl ?_
  refine lv_iload_n hx hb d_Pl_noteResult_50 rfl (lv_at hl 2 rfl) ?_
  have ⟨h8, hE⟩ := ck_at hE
  refine va_iast hx hb hK hP hD hS 7 0 rfl rfl h8 d_Pl_noteResult_51 (fun H locs hP hD hS => ?_)
  have hP : va_P g.1 classes (w_op_9_6316 g a_lat a_co a_op a_ki a_tg a_fi a_se a_oc a_cp a_pl a_bs a_rr a_hr a_lw a_lr a_lt a_lm a_tc a_rc r_op r_ki r_tg (upd r_bs v2.toNatClampNeg ((r_bs v2.toNatClampNeg) + (1 : Int32))) (upd r_hr v2.toNatClampNeg (1 : Int32)) (upd r_lw y5.toNatClampNeg v2) (upd r_lm y7.toNatClampNeg v2) (upd r_rc v1.toNatClampNeg v2)) H := hP
  have hD : va_D A (w_op_9_6316 g a_lat a_co a_op a_ki a_tg a_fi a_se a_oc a_cp a_pl a_bs a_rr a_hr a_lw a_lr a_lt a_lm a_tc a_rc r_op r_ki r_tg (upd r_bs v2.toNatClampNeg ((r_bs v2.toNatClampNeg) + (1 : Int32))) (upd r_hr v2.toNatClampNeg (1 : Int32)) (upd r_lw y5.toNatClampNeg v2) (upd r_lm y7.toNatClampNeg v2) (upd r_rc v1.toNatClampNeg v2)) := hD
  have hE := Option.some.inj hE
  rw [hE]
  exact W.vret hx hb hr (fun t ht hW => ⟨⟨rfl, by rw [ht]; exact hP, va_K.moved hW.alike hK, hD⟩, hS.F ht⟩) hS.2.2 d_Pl_noteResult_52 hlocks
abbrev rm_Pl_planOne : Room := { frames := 4, cells := 0, slots := 0, locals := 87 }
set_option maxHeartbeats 4000000 in
set_option maxRecDepth 100000 in
theorem c_Pl_planOne (l : Launch) (g : GT) (a_lat : Nat) (a_co : Nat) (a_ta : Nat) (a_gu : Nat) (a_so : Nat) (a_cn : Nat) (a_de : Nat) (a_op : Nat) (a_ki : Nat) (a_tg : Nat) (a_fi : Nat) (a_se : Nat) (a_oc : Nat) (a_cp : Nat) (a_pl : Nat) (a_bs : Nat) (a_rr : Nat) (a_hr : Nat) (a_lw : Nat) (a_lr : Nat) (a_lt : Nat) (a_lm : Nat) (a_tc : Nat) (a_rc : Nat) (r_lat : Nat → Int32) (r_co : Nat → Int32) (r_op : Nat → Int32) (r_ki : Nat → Int32) (r_tg : Nat → Int32) (r_fi : Nat → Int32) (r_se : Nat → Int32) (r_bs : Nat → Int32) (r_rr : Nat → Int32) (r_hr : Nat → Int32) (r_lw : Nat → Int32) (r_lr : Nat → Int32) (r_lt : Nat → Int32) (r_lm : Nat → Int32) (r_tc : Nat → Int32) (r_rc : Nat → Int32) (v1 : Int32) (y : Int32 × (Nat → Int32) × (Nat → Int32) × (Nat → Int32) × (Nat → Int32) × (Nat → Int32) × (Nat → Int32) × (Nat → Int32) × (Nat → Int32) × (Nat → Int32)) (hy : some y = f_Pl_planOne r_lat r_co r_op r_ki r_tg r_fi r_se r_bs r_rr r_hr r_lw r_lr r_lt r_lm r_tc r_rc v1) : Ct l y_Pl_planOne (.code y_Pl_planOne b_Pl_planOne 4 (some .int)) rm_Pl_planOne g [.ref a_pl, .int v1] (w_lat_17_6570 g a_lat a_co a_ta a_gu a_so a_cn a_de a_op a_ki a_tg a_fi a_se a_oc a_cp a_pl a_bs a_rr a_hr a_lw a_lr a_lt a_lm a_tc a_rc r_lat r_co r_op r_ki r_tg r_fi r_se r_bs r_rr r_hr r_lw r_lr r_lt r_lm r_tc r_rc) (w_lat_17_6570 g a_lat a_co a_ta a_gu a_so a_cn a_de a_op a_ki a_tg a_fi a_se a_oc a_cp a_pl a_bs a_rr a_hr a_lw a_lr a_lt a_lm a_tc a_rc r_lat r_co r_op r_ki r_tg r_fi r_se y.2.1 y.2.2.1 y.2.2.2.1 y.2.2.2.2.1 y.2.2.2.2.2.1 y.2.2.2.2.2.2.1 y.2.2.2.2.2.2.2.1 y.2.2.2.2.2.2.2.2.1 y.2.2.2.2.2.2.2.2.2) (some (.int y.1)) := by
  refine ct_in (C := "MoveDesk$Planner") rfl (by decide) (Nat.le_of_ble_eq_true rfl) (fun p e s m below meth c A ls M hP hD hS hl => ?_)
  obtain ⟨hx, hb, hr, hml, hown, hts, hlocks, hA, hK, hG⟩ := id M
  have hl : lv_has ls 4 [(0, .ref a_pl), (1, .int v1)] := hl
  have hE := hy
  rw [f_Pl_planOne] at hE
  refine lv_aload_n hx hb d_Pl_planOne_0 rfl (lv_at hl 0 rfl) ?_
  refine lv_iload_n hx hb d_Pl_planOne_1 rfl (lv_at hl 1 rfl) ?_
  obtain ⟨y1, hy1, hE⟩ := bd_at hE
  refine kV (C := "MoveDesk$Planner") (index := 70) (As := [.int v1]) (rest := []) (ws2 := (w_lat_17_6570 g a_lat a_co a_ta a_gu a_so a_cn a_de a_op a_ki a_tg a_fi a_se a_oc a_cp a_pl a_bs a_rr a_hr a_lw a_lr a_lt a_lm a_tc a_rc r_lat r_co r_op r_ki r_tg r_fi r_se r_bs r_rr r_hr r_lw r_lr r_lt r_lm r_tc r_rc)) M hP hD hS hl.1 (c_Pl_triggerCycle l g a_lat a_co a_ta a_gu a_so a_cn a_de a_op a_ki a_tg a_fi a_se a_oc a_cp a_pl a_bs a_rr a_hr a_lw a_lr a_lt a_lm a_tc a_rc r_lat r_co r_op r_ki r_fi r_se r_bs r_rr r_lw r_lt r_lm v1 y1 hy1) m_611 m_613 s_14 m_7 m_614 hd_Pl_triggerCycle rfl rfl rfl ⟨by decide, by decide⟩ ⟨by decide, by decide⟩ 5 6 rfl rfl rfl [0, 1, 2, 3, 5, 6, 7, 8, 9, 11, 13, 14] [4, 10, 12, 15, 16] [5, 6, 7, 8, 0, 9, 10, 11, 12, 13, 1, 14, 2, 15, 16, 3, 4] rfl rfl rfl rfl (by decide) rfl rfl rfl (Nat.le_of_ble_eq_true rfl) d_Pl_planOne_2 (fun H locs hP hD hS => ?_)
  refine W.eq (g2 := F0 m 5 ls [.int y1]) rfl ?_
  refine lv_istore_n (lv' := [(2, .int y1), (0, .ref a_pl), (1, .int v1)]) hx hb d_Pl_planOne_5 rfl hl (by decide) rfl (fun ls hl => ?_)
  refine lv_iload_n hx hb d_Pl_planOne_6 rfl (lv_at hl 0 rfl) ?_
  refine lv_iconst (v := (-1)) hx hb d_Pl_planOne_7 (by decide) ?_
  refine lv_icmp_ne (tgt := 13) hx hb d_Pl_planOne_8 (by decide) (fun c2 => ?_) (fun c2 => ?_)
  · have hE := it_f hE c2
    refine lv_aload_n hx hb d_Pl_planOne_13 rfl (lv_at hl 1 rfl) ?_
    refine lv_iload_n hx hb d_Pl_planOne_14 rfl (lv_at hl 2 rfl) ?_
    refine lv_iload_n hx hb d_Pl_planOne_15 rfl (lv_at hl 0 rfl) ?_
    obtain ⟨y3, hy3, hE⟩ := bd_at hE
    refine kV (C := "MoveDesk$Planner") (index := 73) (As := [.int v1, .int y1]) (rest := []) (ws2 := (w_lat_17_6570 g a_lat a_co a_ta a_gu a_so a_cn a_de a_op a_ki a_tg a_fi a_se a_oc a_cp a_pl a_bs a_rr a_hr a_lw a_lr a_lt a_lm a_tc a_rc r_lat r_co r_op r_ki r_tg r_fi r_se y3.1 y3.2.1 r_hr r_lw y3.2.2.1 y3.2.2.2.1 r_lm y3.2.2.2.2 r_rc)) M hP hD hS hl.1 (c_Pl_noteTrigger l g a_lat a_co a_op a_ki a_tg a_fi a_se a_oc a_cp a_pl a_bs a_rr a_hr a_lw a_lr a_lt a_lm a_tc a_rc r_op r_ki r_fi r_se r_bs r_rr r_lr r_lt r_tc v1 y1 y3 hy3) m_652 m_654 s_16 m_7 m_655 hd_Pl_noteTrigger rfl rfl rfl ⟨by decide, by decide⟩ ⟨by decide, by decide⟩ 5 4 rfl rfl rfl [2, 3, 5, 6, 7, 8, 9, 12, 13, 15] [0, 1, 4, 10, 11, 14, 16] [0, 1, 7, 8, 2, 9, 10, 11, 12, 13, 3, 4, 14, 15, 5, 16, 6] rfl rfl rfl rfl (by decide) rfl rfl rfl (Nat.le_of_ble_eq_true rfl) d_Pl_planOne_16 (fun H locs hP hD hS => ?_)
    refine W.eq (g2 := F0 m 19 ls []) rfl ?_
    refine lv_aload_n hx hb d_Pl_planOne_19 rfl (lv_at hl 1 rfl) ?_
    refine va_get (D := g.1) (ci := 5) (v := .ref a_op) (C := "MoveDesk$Planner") (T := F_Pl) (N := 12) hx hb hts i_Pl hown hK hP 7 rfl rfl 1 (by decide) (hts _ m_187) (fun _ h9 => h9) rfl d_Pl_planOne_20 ?_
    refine lv_iload_n hx hb d_Pl_planOne_23 rfl (lv_at hl 2 rfl) ?_
    obtain ⟨y4, hy4, hE⟩ := bd_at hE
    refine kV (C := "MoveDesk$Operations") (index := 77) (As := [.int v1]) (rest := []) (ws2 := (w_lat_17_6570 g a_lat a_co a_ta a_gu a_so a_cn a_de a_op a_ki a_tg a_fi a_se a_oc a_cp a_pl a_bs a_rr a_hr a_lw a_lr a_lt a_lm a_tc a_rc r_lat r_co r_op r_ki r_tg r_fi r_se y3.1 y3.2.1 r_hr r_lw y3.2.2.1 y3.2.2.2.1 r_lm y3.2.2.2.2 r_rc)) M hP hD hS hl.1 (c_Op_isStore l g a_op a_ki a_tg a_fi a_se a_oc a_cp r_op r_ki v1 y4 hy4) m_647 m_648 m_649 m_6 m_650 hd_Op_isStore rfl rfl rfl ⟨by decide, by decide⟩ ⟨by decide, by decide⟩ 4 0 rfl rfl rfl [2, 3] [0, 1, 4, 5, 6, 7, 8, 9, 10, 11, 12, 13, 14, 15, 16] [0, 1, 15, 16, 2, 3, 4, 5, 6, 7, 8, 9, 10, 11, 12, 13, 14] rfl rfl rfl rfl (by decide) rfl rfl rfl (Nat.le_of_ble_eq_true rfl) d_Pl_planOne_24 (fun H locs hP hD hS => ?_)
    refine W.eq (g2 := F0 m 27 ls [.int y4]) rfl ?_
    refine lv_if_eq (tgt := 32) hx hb d_Pl_planOne_27 (by decide) (fun c5 => ?_) (fun c5 => ?_)
    · have hE := it_t hE c5
      refine lv_aload_n hx hb d_Pl_planOne_32 rfl (lv_at hl 1 rfl) ?_
      refine lv_iload_n hx hb d_Pl_planOne_33 rfl (lv_at hl 2 rfl) ?_
      refine lv_iload_n hx hb d_Pl_planOne_34 rfl (lv_at hl 0 rfl) ?_
      obtain ⟨y6, hy6, hE⟩ := bd_at hE
      refine kV (C := "MoveDesk$Planner") (index := 81) (As := [.int v1, .int y1]) (rest := []) (ws2 := (w_lat_17_6570 g a_lat a_co a_ta a_gu a_so a_cn a_de a_op a_ki a_tg a_fi a_se a_oc a_cp a_pl a_bs a_rr a_hr a_lw a_lr a_lt a_lm a_tc a_rc r_lat r_co r_op r_ki r_tg r_fi r_se y3.1 y3.2.1 r_hr r_lw y3.2.2.1 y3.2.2.2.1 r_lm y3.2.2.2.2 r_rc)) M hP hD hS hl.1 (c_Pl_resultCycle l g a_lat a_co a_ta a_gu a_so a_cn a_de a_op a_ki a_tg a_fi a_se a_oc a_cp a_pl a_bs a_rr a_hr a_lw a_lr a_lt a_lm a_tc a_rc r_lat r_co r_op r_ki r_tg y3.1 r_hr r_lw y3.2.2.1 v1 y1 y6 hy6) m_656 m_658 s_17 m_7 m_659 hd_Pl_resultCycle rfl rfl rfl ⟨by decide, by decide⟩ ⟨by decide, by decide⟩ 5 5 rfl rfl rfl [0, 1, 2, 3, 4, 7, 8, 10, 11, 12] [5, 6, 9, 13, 14, 15, 16] [7, 8, 9, 10, 11, 0, 1, 12, 13, 2, 14, 15, 16, 3, 4, 5, 6] rfl rfl rfl rfl (by decide) rfl rfl rfl (Nat.le_of_ble_eq_true rfl) d_Pl_planOne_35 (fun H locs hP hD hS => ?_)
      refine W.eq (g2 := F0 m 38 ls [.int y6]) rfl ?_
      refine lv_istore_n (lv' := [(3, .int y6), (2, .int y1), (0, .ref a_pl), (1, .int v1)]) hx hb d_Pl_planOne_38 rfl hl (by decide) rfl (fun ls hl => ?_)
      refine lv_iload_n hx hb d_Pl_planOne_39 rfl (lv_at hl 0 rfl) ?_
      refine lv_iconst (v := (-1)) hx hb d_Pl_planOne_40 (by decide) ?_
      refine lv_icmp_eq (tgt := 50) hx hb d_Pl_planOne_41 (by decide) (fun c7 => ?_) (fun c7 => ?_)
      · have hE := it_t hE c7
        refine lv_iload_n hx hb d_Pl_planOne_50 rfl (lv_at hl 0 rfl) ?_
        have hE := Option.some.inj hE
        rw [hE]
        exact W.iret (v := y6) hx hb hr (fun t ht hW => ⟨⟨rfl, by rw [ht]; exact hP, va_K.moved hW.alike hK, hD⟩, hS.F ht⟩) hS.2.2 d_Pl_planOne_51 hlocks
      · have hE := it_f hE c7
        refine lv_aload_n hx hb d_Pl_planOne_44 rfl (lv_at hl 2 rfl) ?_
        refine lv_iload_n hx hb d_Pl_planOne_45 rfl (lv_at hl 3 rfl) ?_
        refine lv_iload_n hx hb d_Pl_planOne_46 rfl (lv_at hl 0 rfl) ?_
        obtain ⟨y8, hy8, hE⟩ := bd_at hE
        refine kV (C := "MoveDesk$Planner") (index := 84) (As := [.int v1, .int y6]) (rest := []) (ws2 := (w_lat_17_6570 g a_lat a_co a_ta a_gu a_so a_cn a_de a_op a_ki a_tg a_fi a_se a_oc a_cp a_pl a_bs a_rr a_hr a_lw a_lr a_lt a_lm a_tc a_rc r_lat r_co r_op r_ki r_tg r_fi r_se y8.1 y3.2.1 y8.2.1 y8.2.2.1 y3.2.2.1 y3.2.2.2.1 y8.2.2.2.1 y3.2.2.2.2 y8.2.2.2.2)) M hP hD hS hl.1 (c_Pl_noteResult l g a_lat a_co a_op a_ki a_tg a_fi a_se a_oc a_cp a_pl a_bs a_rr a_hr a_lw a_lr a_lt a_lm a_tc a_rc r_op r_ki r_tg y3.1 r_hr r_lw r_lm r_rc v1 y6 y8 hy8) m_664 m_666 s_18 m_7 m_667 hd_Pl_noteResult rfl rfl rfl ⟨by decide, by decide⟩ ⟨by decide, by decide⟩ 5 3 rfl rfl rfl [2, 3, 4, 7, 8, 10, 11, 14, 16] [0, 1, 5, 6, 9, 12, 13, 15] [0, 1, 8, 9, 10, 2, 3, 11, 12, 4, 13, 14, 5, 6, 15, 7, 16] rfl rfl rfl rfl (by decide) rfl rfl rfl (Nat.le_of_ble_eq_true rfl) d_Pl_planOne_47 (fun H locs hP hD hS => ?_)
        refine W.eq (g2 := F0 m 50 ls []) rfl ?_
        refine lv_iload_n hx hb d_Pl_planOne_50 rfl (lv_at hl 0 rfl) ?_
        have hE := Option.some.inj hE
        rw [hE]
        exact W.iret (v := y6) hx hb hr (fun t ht hW => ⟨⟨rfl, by rw [ht]; exact hP, va_K.moved hW.alike hK, hD⟩, hS.F ht⟩) hS.2.2 d_Pl_planOne_51 hlocks
    · have hE := it_f hE c5
      refine lv_iload_n hx hb d_Pl_planOne_30 rfl (lv_at hl 0 rfl) ?_
      have hE := Option.some.inj hE
      rw [hE]
      exact W.iret (v := y1) hx hb hr (fun t ht hW => ⟨⟨rfl, by rw [ht]; exact hP, va_K.moved hW.alike hK, hD⟩, hS.F ht⟩) hS.2.2 d_Pl_planOne_31 hlocks
  · have hE := it_t hE c2
    refine lv_iconst (v := (-1)) hx hb d_Pl_planOne_11 (by decide) ?_
    have hE := Option.some.inj hE
    rw [hE]
    exact W.iret (v := (-1)) hx hb hr (fun t ht hW => ⟨⟨rfl, by rw [ht]; exact hP, va_K.moved hW.alike hK, hD⟩, hS.F ht⟩) hS.2.2 d_Pl_planOne_12 hlocks
abbrev rm_Pl_plan : Room := { frames := 5, cells := 0, slots := 0, locals := 110 }
set_option maxHeartbeats 4000000 in
set_option maxRecDepth 100000 in
theorem wl_Pl_plan_8 {p : Program} {l : Launch} {e : Env} {s : State} {m : MethodId} {args : Array Value} {below : List Frame} {meth : Method} {c : Code} {A : Nat → Prop} {g : GT} {a_lat : Nat} {a_co : Nat} {a_ta : Nat} {a_gu : Nat} {a_so : Nat} {a_cn : Nat} {a_de : Nat} {a_op : Nat} {a_ki : Nat} {a_tg : Nat} {a_fi : Nat} {a_se : Nat} {a_oc : Nat} {a_cp : Nat} {a_pl : Nat} {a_bs : Nat} {a_rr : Nat} {a_hr : Nat} {a_lw : Nat} {a_lr : Nat} {a_lt : Nat} {a_lm : Nat} {a_tc : Nat} {a_rc : Nat} {y : Int32 × (Nat → Int32) × (Nat → Int32) × (Nat → Int32) × (Nat → Int32) × (Nat → Int32) × (Nat → Int32) × (Nat → Int32) × (Nat → Int32) × (Nat → Int32)} (M : MX p s m args meth c b_Pl_plan 4 (some .int) "MoveDesk$Planner" g A) : ∀ n : Nat, ∀ (r_lat : Nat → Int32) (r_co : Nat → Int32) (r_op : Nat → Int32) (r_ki : Nat → Int32) (r_tg : Nat → Int32) (r_fi : Nat → Int32) (r_se : Nat → Int32) (r_bs : Nat → Int32) (r_rr : Nat → Int32) (r_hr : Nat → Int32) (r_lw : Nat → Int32) (r_lr : Nat → Int32) (r_lt : Nat → Int32) (r_lm : Nat → Int32) (r_tc : Nat → Int32) (r_rc : Nat → Int32) (v1 : Int32) (v2 : Int32) (H : Heap) (locs : List Loc) (ls : Array Slot), some y = (f_Pl_plan_8 n) r_lat r_co r_op r_ki r_tg r_fi r_se r_bs r_rr r_hr r_lw r_lr r_lt r_lm r_tc r_rc v1 v2 → va_P g.1 classes (w_lat_17_6570 g a_lat a_co a_ta a_gu a_so a_cn a_de a_op a_ki a_tg a_fi a_se a_oc a_cp a_pl a_bs a_rr a_hr a_lw a_lr a_lt a_lm a_tc a_rc r_lat r_co r_op r_ki r_tg r_fi r_se r_bs r_rr r_hr r_lw r_lr r_lt r_lm r_tc r_rc) H → va_D A (w_lat_17_6570 g a_lat a_co a_ta a_gu a_so a_cn a_de a_op a_ki a_tg a_fi a_se a_oc a_cp a_pl a_bs a_rr a_hr a_lw a_lr a_lt a_lm a_tc a_rc r_lat r_co r_op r_ki r_tg r_fi r_se r_bs r_rr r_hr r_lw r_lr r_lt r_lm r_tc r_rc) → va_S A s.heap H locs → lv_has ls 4 [(0, .ref a_pl), (1, .int v1), (2, .int v2)] → W p l e rm_Pl_plan s m args below meth c H locs 0 0 (MQ below (QW g (some (.int y.1)) (w_lat_17_6570 g a_lat a_co a_ta a_gu a_so a_cn a_de a_op a_ki a_tg a_fi a_se a_oc a_cp a_pl a_bs a_rr a_hr a_lw a_lr a_lt a_lm a_tc a_rc r_lat r_co r_op r_ki r_tg r_fi r_se y.2.1 y.2.2.1 y.2.2.2.1 y.2.2.2.2.1 y.2.2.2.2.2.1 y.2.2.2.2.2.2.1 y.2.2.2.2.2.2.2.1 y.2.2.2.2.2.2.2.2.1 y.2.2.2.2.2.2.2.2.2) A) args s 0 0 A) (F0 m 8 ls []) := by
  obtain ⟨hx, hb, hr, hml, hown, hts, hlocks, hA, hK, hG⟩ := id M
  intro n
  induction n with
  | zero =>
    intro r_lat r_co r_op r_ki r_tg r_fi r_se r_bs r_rr r_hr r_lw r_lr r_lt r_lm r_tc r_rc v1 v2 H locs ls hE hP hD hS hl
    rw [f_Pl_plan_8] at hE
    cases hE
  | succ n ih =>
    intro r_lat r_co r_op r_ki r_tg r_fi r_se r_bs r_rr r_hr r_lw r_lr r_lt r_lm r_tc r_rc v1 v2 H locs ls hE hP hD hS hl
    rw [f_Pl_plan_8] at hE
    refine lv_iload_n hx hb d_Pl_plan_8 rfl (lv_at hl 2 rfl) ?_
    refine lv_aload_n hx hb d_Pl_plan_9 rfl (lv_at hl 0 rfl) ?_
    refine va_get (D := g.1) (ci := 5) (v := .ref a_op) (C := "MoveDesk$Planner") (T := F_Pl) (N := 12) hx hb hts i_Pl hown hK hP 7 rfl rfl 1 (by decide) (hts _ m_187) (fun _ h9 => h9) rfl d_Pl_plan_10 ?_
    obtain ⟨y1, hy1, hE⟩ := bd_at hE
    refine kV (C := "MoveDesk$Operations") (index := 54) (As := []) (rest := [.int v2]) (ws2 := (w_lat_17_6570 g a_lat a_co a_ta a_gu a_so a_cn a_de a_op a_ki a_tg a_fi a_se a_oc a_cp a_pl a_bs a_rr a_hr a_lw a_lr a_lt a_lm a_tc a_rc r_lat r_co r_op r_ki r_tg r_fi r_se r_bs r_rr r_hr r_lw r_lr r_lt r_lm r_tc r_rc)) M hP hD hS hl.1 (c_Op_count l g a_op a_ki a_tg a_fi a_se a_oc a_cp r_op  y1 hy1) m_606 m_568 m_569 m_6 m_570 hd_Op_count rfl rfl rfl ⟨by decide, by decide⟩ ⟨by decide, by decide⟩ 4 0 rfl rfl rfl [2] [0, 1, 3, 4, 5, 6, 7, 8, 9, 10, 11, 12, 13, 14, 15, 16] [0, 1, 16, 2, 3, 4, 5, 6, 7, 8, 9, 10, 11, 12, 13, 14, 15] rfl rfl rfl rfl (by decide) rfl rfl rfl (Nat.le_of_ble_eq_true rfl) d_Pl_plan_13 (fun H locs hP hD hS => ?_)
    refine W.eq (g2 := F0 m 16 ls [.int y1, .int v2]) rfl ?_
    refine lv_icmp_ge (tgt := 46) hx hb d_Pl_plan_16 (by decide) (fun c2 => ?_) (fun c2 => ?_)
    · have hE := it_t hE c2
      refine lv_iload_n hx hb d_Pl_plan_46 rfl (lv_at hl 1 rfl) ?_
      refine lv_bipush (v := 63) hx hb d_Pl_plan_47 (by decide) ?_
      refine lv_icmp_gt (tgt := 56) hx hb d_Pl_plan_49 (by decide) (fun c3 => ?_) (fun c3 => ?_)
      · have hE := it_t hE c3
        refine lv_iconst (v := (-1)) hx hb d_Pl_plan_56 (by decide) ?_
        have hE := Option.some.inj hE
        rw [hE]
        exact W.iret (v := (-1)) hx hb hr (fun t ht hW => ⟨⟨rfl, by rw [ht]; exact hP, va_K.moved hW.alike hK, hD⟩, hS.F ht⟩) hS.2.2 d_Pl_plan_57 hlocks
      · have hE := it_f hE c3
        refine lv_iload_n hx hb d_Pl_plan_52 rfl (lv_at hl 1 rfl) ?_
        refine lv_goto (tgt := 57) hx hb d_Pl_plan_53 (by decide) ?_
        have hE := Option.some.inj hE
        rw [hE]
        exact W.iret (v := v1) hx hb hr (fun t ht hW => ⟨⟨rfl, by rw [ht]; exact hP, va_K.moved hW.alike hK, hD⟩, hS.F ht⟩) hS.2.2 d_Pl_plan_57 hlocks
    · have hE := it_f hE c2
      refine lv_aload_n hx hb d_Pl_plan_19 rfl (lv_at hl 0 rfl) ?_
      refine lv_iload_n hx hb d_Pl_plan_20 rfl (lv_at hl 2 rfl) ?_
      obtain ⟨y4, hy4, hE⟩ := bd_at hE
      refine kV (C := "MoveDesk$Planner") (index := 60) (As := [.int v2]) (rest := []) (ws2 := (w_lat_17_6570 g a_lat a_co a_ta a_gu a_so a_cn a_de a_op a_ki a_tg a_fi a_se a_oc a_cp a_pl a_bs a_rr a_hr a_lw a_lr a_lt a_lm a_tc a_rc r_lat r_co r_op r_ki r_tg r_fi r_se y4.2.1 y4.2.2.1 y4.2.2.2.1 y4.2.2.2.2.1 y4.2.2.2.2.2.1 y4.2.2.2.2.2.2.1 y4.2.2.2.2.2.2.2.1 y4.2.2.2.2.2.2.2.2.1 y4.2.2.2.2.2.2.2.2.2)) M hP hD hS hl.1 (c_Pl_planOne l g a_lat a_co a_ta a_gu a_so a_cn a_de a_op a_ki a_tg a_fi a_se a_oc a_cp a_pl a_bs a_rr a_hr a_lw a_lr a_lt a_lm a_tc a_rc r_lat r_co r_op r_ki r_tg r_fi r_se r_bs r_rr r_hr r_lw r_lr r_lt r_lm r_tc r_rc v2 y4 hy4) m_607 m_609 s_13 m_7 m_610 hd_Pl_planOne rfl rfl rfl ⟨by decide, by decide⟩ ⟨by decide, by decide⟩ 5 7 rfl rfl rfl [0, 1, 2, 3, 4, 5, 6, 7, 8, 9, 10, 11, 12, 13, 14, 15, 16] [] [0, 1, 2, 3, 4, 5, 6, 7, 8, 9, 10, 11, 12, 13, 14, 15, 16] rfl rfl rfl rfl (by decide) rfl rfl rfl (Nat.le_of_ble_eq_true rfl) d_Pl_plan_21 (fun H locs hP hD hS => ?_)
      refine W.eq (g2 := F0 m 24 ls [.int y4.1]) rfl ?_
      refine lv_istore_n (lv' := [(3, .int y4.1), (0, .ref a_pl), (1, .int v1), (2, .int v2)]) hx hb d_Pl_plan_24 rfl hl (by decide) rfl (fun ls hl => ?_)
      refine lv_iload_n hx hb d_Pl_plan_25 rfl (lv_at hl 0 rfl) ?_
      refine lv_iconst (v := (-1)) hx hb d_Pl_plan_26 (by decide) ?_
      refine lv_icmp_ne (tgt := 32) hx hb d_Pl_plan_27 (by decide) (fun c5 => ?_) (fun c5 => ?_)
      · have hE := it_f hE c5
        refine lv_iload_n hx hb d_Pl_plan_32 rfl (lv_at hl 2 rfl) ?_
        refine lv_iload_n hx hb d_Pl_plan_33 rfl (lv_at hl 0 rfl) ?_
        refine lv_iconst (v := 1) hx hb d_Pl_plan_34 (by decide) ?_
        refine lv_iadd hx hb d_Pl_plan_35 ?_
        refine va_mmax hx hb (hml.trans hl.1.symm) hown (hts _ m_646) (hts _ m_31) (hts _ m_2) (hts _ m_32) (by decide) (Nat.le_of_ble_eq_true rfl) (by decide) (by decide) d_Pl_plan_36 ?_
        refine lv_topi (fun x6 ex6 => ?_)
        have hE := nm_at hE ex6
        refine lv_istore_n (lv' := [(1, .int x6), (3, .int y4.1), (0, .ref a_pl), (2, .int v2)]) hx hb d_Pl_plan_39 rfl hl (by decide) rfl (fun ls hl => ?_)
        obtain ⟨x7, ex7⟩ : ∃ z : Int32, z = v2 + 1 := ⟨_, rfl⟩
        have hE := nm_at hE ex7
        refine lv_iinc (v := x7) (lv' := [(2, .int x7), (1, .int x6), (3, .int y4.1), (0, .ref a_pl)]) hx hb d_Pl_plan_40 hl (k := 3) rfl (by rw [ex7]; rfl) (by decide) rfl (fun ls hl => ?_)
        refine lv_goto (tgt := 8) hx hb d_Pl_plan_43 (by decide) ?_
        exact ih _ _ _ _ _ _ _ _ _ _ _ _ _ _ _ _ _ _ _ _ _ hE hP hD hS (lv_sub hl [3, 1, 0] rfl)
      · have hE := it_t hE c5
        refine lv_iconst (v := (-1)) hx hb d_Pl_plan_30 (by decide) ?_
        have hE := Option.some.inj hE
        rw [hE]
        exact W.iret (v := (-1)) hx hb hr (fun t ht hW => ⟨⟨rfl, by rw [ht]; exact hP, va_K.moved hW.alike hK, hD⟩, hS.F ht⟩) hS.2.2 d_Pl_plan_31 hlocks
set_option maxHeartbeats 4000000 in
set_option maxRecDepth 100000 in
theorem c_Pl_plan (l : Launch) (g : GT) (a_lat : Nat) (a_co : Nat) (a_ta : Nat) (a_gu : Nat) (a_so : Nat) (a_cn : Nat) (a_de : Nat) (a_op : Nat) (a_ki : Nat) (a_tg : Nat) (a_fi : Nat) (a_se : Nat) (a_oc : Nat) (a_cp : Nat) (a_pl : Nat) (a_bs : Nat) (a_rr : Nat) (a_hr : Nat) (a_lw : Nat) (a_lr : Nat) (a_lt : Nat) (a_lm : Nat) (a_tc : Nat) (a_rc : Nat) (r_lat : Nat → Int32) (r_co : Nat → Int32) (r_op : Nat → Int32) (r_ki : Nat → Int32) (r_tg : Nat → Int32) (r_fi : Nat → Int32) (r_se : Nat → Int32) (r_bs : Nat → Int32) (r_rr : Nat → Int32) (r_hr : Nat → Int32) (r_lw : Nat → Int32) (r_lr : Nat → Int32) (r_lt : Nat → Int32) (r_lm : Nat → Int32) (r_tc : Nat → Int32) (r_rc : Nat → Int32)  (y : Int32 × (Nat → Int32) × (Nat → Int32) × (Nat → Int32) × (Nat → Int32) × (Nat → Int32) × (Nat → Int32) × (Nat → Int32) × (Nat → Int32) × (Nat → Int32)) (hy : some y = f_Pl_plan r_lat r_co r_op r_ki r_tg r_fi r_se r_bs r_rr r_hr r_lw r_lr r_lt r_lm r_tc r_rc) : Ct l y_Pl_plan (.code y_Pl_plan b_Pl_plan 4 (some .int)) rm_Pl_plan g [.ref a_pl] (w_lat_17_6570 g a_lat a_co a_ta a_gu a_so a_cn a_de a_op a_ki a_tg a_fi a_se a_oc a_cp a_pl a_bs a_rr a_hr a_lw a_lr a_lt a_lm a_tc a_rc r_lat r_co r_op r_ki r_tg r_fi r_se r_bs r_rr r_hr r_lw r_lr r_lt r_lm r_tc r_rc) (w_lat_17_6570 g a_lat a_co a_ta a_gu a_so a_cn a_de a_op a_ki a_tg a_fi a_se a_oc a_cp a_pl a_bs a_rr a_hr a_lw a_lr a_lt a_lm a_tc a_rc r_lat r_co r_op r_ki r_tg r_fi r_se y.2.1 y.2.2.1 y.2.2.2.1 y.2.2.2.2.1 y.2.2.2.2.2.1 y.2.2.2.2.2.2.1 y.2.2.2.2.2.2.2.1 y.2.2.2.2.2.2.2.2.1 y.2.2.2.2.2.2.2.2.2) (some (.int y.1)) := by
  refine ct_in (C := "MoveDesk$Planner") rfl (by decide) (Nat.le_of_ble_eq_true rfl) (fun p e s m below meth c A ls M hP hD hS hl => ?_)
  obtain ⟨hx, hb, hr, hml, hown, hts, hlocks, hA, hK, hG⟩ := id M
  have hl : lv_has ls 4 [(0, .ref a_pl)] := hl
  have hE := hy
  rw [f_Pl_plan] at hE
  refine lv_aload_n hx hb d_Pl_plan_0 rfl (lv_at hl 0 rfl) ?_
  obtain ⟨y1, hy1, hE⟩ := bd_at hE
  refine kV (C := "MoveDesk$Planner") (index := 51) (As := []) (rest := []) (ws2 := (w_lat_17_6570 g a_lat a_co a_ta a_gu a_so a_cn a_de a_op a_ki a_tg a_fi a_se a_oc a_cp a_pl a_bs a_rr a_hr a_lw a_lr a_lt a_lm a_tc a_rc r_lat r_co r_op r_ki r_tg r_fi r_se y1.1 y1.2.1 y1.2.2.1 y1.2.2.2.1 y1.2.2.2.2.1 y1.2.2.2.2.2.1 y1.2.2.2.2.2.2 r_tc r_rc)) M hP hD hS hl.1 (c_Pl_start l g a_lat a_co a_op a_pl a_bs a_rr a_hr a_lw a_lr a_lt a_lm a_tc a_rc r_bs r_rr r_hr r_lw r_lr r_lt r_lm  y1 hy1) m_602 m_604 s_12 m_7 m_605 hd_Pl_start rfl rfl rfl ⟨by decide, by decide⟩ ⟨by decide, by decide⟩ 5 0 rfl rfl rfl [7, 8, 9, 10, 11, 12, 13, 14] [0, 1, 2, 3, 4, 5, 6, 15, 16] [0, 1, 2, 3, 4, 5, 6, 9, 10, 11, 12, 13, 14, 15, 16, 7, 8] rfl rfl rfl rfl (by decide) rfl rfl rfl (Nat.le_of_ble_eq_true rfl) d_Pl_plan_1 (fun H locs hP hD hS => ?_)
  refine W.eq (g2 := F0 m 4 ls []) rfl ?_
  refine lv_iconst (v := 0) hx hb d_Pl_plan_4 (by decide) ?_
  refine lv_istore_n (lv' := [(1, .int 0), (0, .ref a_pl)]) hx hb d_Pl_plan_5 rfl hl (by decide) rfl (fun ls hl => ?_)
  refine lv_iconst (v := 0) hx hb d_Pl_plan_6 (by decide) ?_
  refine lv_istore_n (lv' := [(2, .int 0), (1, .int 0), (0, .ref a_pl)]) hx hb d_Pl_plan_7 rfl hl (by decide) rfl (fun ls hl => ?_)
  exact wl_Pl_plan_8 M 5000 _ _ _ _ _ _ _ _ _ _ _ _ _ _ _ _ _ _ _ _ _ hE hP hD hS (lv_sub hl [2, 1, 0] rfl)
abbrev rm_Pl_writeOne : Room := { frames := 2, cells := 0, slots := 0, locals := 52 }
set_option maxHeartbeats 4000000 in
set_option maxRecDepth 100000 in
theorem wl_Pl_writeOne_70 {p : Program} {l : Launch} {e : Env} {s : State} {m : MethodId} {args : Array Value} {below : List Frame} {meth : Method} {c : Code} {A : Nat → Prop} {g : GT} {a_lat : Nat} {a_co : Nat} {a_ta : Nat} {a_gu : Nat} {a_so : Nat} {a_cn : Nat} {a_de : Nat} {a_op : Nat} {a_ki : Nat} {a_tg : Nat} {a_fi : Nat} {a_se : Nat} {a_oc : Nat} {a_cp : Nat} {a_pl : Nat} {a_bs : Nat} {a_rr : Nat} {a_hr : Nat} {a_lw : Nat} {a_lr : Nat} {a_lt : Nat} {a_lm : Nat} {a_tc : Nat} {a_rc : Nat} {y : (Nat → Int32) × (Nat → Int32) × (Nat → Int32) × (Nat → Int32) × (Nat → Int32)} (M : MX p s m args meth c b_Pl_writeOne 6 none "MoveDesk$Planner" g A) : ∀ (r_co : Nat → Int32) (r_ta : Nat → Int32) (r_gu : Nat → Int32) (r_so : Nat → Int32) (r_cn : Nat → Int32) (r_de : Nat → Int32) (r_op : Nat → Int32) (r_ki : Nat → Int32) (r_tg : Nat → Int32) (r_fi : Nat → Int32) (r_se : Nat → Int32) (r_oc : Nat → Int32) (r_tc : Nat → Int32) (r_rc : Nat → Int32) (v1 : Int32) (v2 : Int32) (v4 : Int32) (v5 : Int32) (H : Heap) (locs : List Loc) (ls : Array Slot), some y = f_Pl_writeOne_70 r_co r_ta r_gu r_so r_cn r_de r_op r_ki r_tg r_fi r_se r_oc r_tc r_rc v1 v2 v4 v5 → va_P g.1 classes (w_co_15_87f5 g a_lat a_co a_ta a_gu a_so a_cn a_de a_op a_ki a_tg a_fi a_se a_oc a_cp a_pl a_bs a_rr a_hr a_lw a_lr a_lt a_lm a_tc a_rc r_co r_ta r_gu r_so r_cn r_de r_op r_ki r_tg r_fi r_se r_oc r_tc r_rc) H → va_D A (w_co_15_87f5 g a_lat a_co a_ta a_gu a_so a_cn a_de a_op a_ki a_tg a_fi a_se a_oc a_cp a_pl a_bs a_rr a_hr a_lw a_lr a_lt a_lm a_tc a_rc r_co r_ta r_gu r_so r_cn r_de r_op r_ki r_tg r_fi r_se r_oc r_tc r_rc) → va_S A s.heap H locs → lv_has ls 6 [(0, .ref a_pl), (1, .int v1), (2, .int v2), (4, .int v4), (5, .int v5)] → W p l e rm_Pl_writeOne s m args below meth c H locs 0 0 (MQ below (QW g none (w_co_15_87f5 g a_lat a_co a_ta a_gu a_so a_cn a_de a_op a_ki a_tg a_fi a_se a_oc a_cp a_pl a_bs a_rr a_hr a_lw a_lr a_lt a_lm a_tc a_rc r_co y.1 y.2.1 y.2.2.1 y.2.2.2.1 y.2.2.2.2 r_op r_ki r_tg r_fi r_se r_oc r_tc r_rc) A) args s 0 0 A) (F0 m 70 ls []) := by
  obtain ⟨hx, hb, hr, hml, hown, hts, hlocks, hA, hK, hG⟩ := id M
  intro r_co r_ta r_gu r_so r_cn r_de r_op r_ki r_tg r_fi r_se r_oc r_tc r_rc v1 v2 v4 v5 H locs ls hE hP hD hS hl
  rw [f_Pl_writeOne_70] at hE
  refine lv_aload_n hx hb d_Pl_writeOne_70 rfl (lv_at hl 0 rfl) ?_
  refine va_get (D := g.1) (ci := 5) (v := .ref a_co) (C := "MoveDesk$Planner") (T := F_Pl) (N := 12) hx hb hts i_Pl hown hK hP 12 rfl rfl 0 (by decide) (hts _ m_186) (fun _ h9 => h9) rfl d_Pl_writeOne_71 ?_
  refine lv_iload hx hb d_Pl_writeOne_74 (lv_at hl 4 rfl) ?_
  refine lv_iload hx hb d_Pl_writeOne_76 (lv_at hl 3 rfl) ?_
  refine lv_aload_n hx hb d_Pl_writeOne_78 rfl (lv_at hl 0 rfl) ?_
  refine va_get (D := g.1) (ci := 5) (v := .ref a_op) (C := "MoveDesk$Planner") (T := F_Pl) (N := 12) hx hb hts i_Pl hown hK hP 12 rfl rfl 1 (by decide) (hts _ m_187) (fun _ h9 => h9) rfl d_Pl_writeOne_79 ?_
  refine lv_iload_n hx hb d_Pl_writeOne_82 rfl (lv_at hl 1 rfl) ?_
  refine lv_iload hx hb d_Pl_writeOne_83 (lv_at hl 3 rfl) ?_
  obtain ⟨y1, hy1, hE⟩ := bd_at hE
  refine kV (C := "MoveDesk$Operations") (index := 129) (As := [.int v1, .int v4]) (rest := [.int v4, .int v5, .ref a_co]) (ws2 := (w_co_15_87f5 g a_lat a_co a_ta a_gu a_so a_cn a_de a_op a_ki a_tg a_fi a_se a_oc a_cp a_pl a_bs a_rr a_hr a_lw a_lr a_lt a_lm a_tc a_rc r_co r_ta r_gu r_so r_cn r_de r_op r_ki r_tg r_fi r_se r_oc r_tc r_rc)) M hP hD hS hl.1 (c_Op_constantFor l g a_op a_ki a_tg a_fi a_se a_oc a_cp r_op r_oc v1 v4 y1 hy1) m_694 m_695 m_696 m_6 m_697 hd_Op_constantFor rfl rfl rfl ⟨by decide, by decide⟩ ⟨by decide, by decide⟩ 4 0 rfl rfl rfl [6, 11] [0, 1, 2, 3, 4, 5, 7, 8, 9, 10, 12, 13, 14] [0, 1, 2, 3, 4, 5, 13, 6, 7, 8, 9, 14, 10, 11, 12] rfl rfl rfl rfl (by decide) rfl rfl rfl (Nat.le_of_ble_eq_true rfl) d_Pl_writeOne_85 (fun H locs hP hD hS => ?_)
  refine W.eq (g2 := F0 m 88 ls [.int y1, .int v4, .int v5, .ref a_co]) rfl ?_
  refine lv_aload_n hx hb d_Pl_writeOne_88 rfl (lv_at hl 0 rfl) ?_
  refine va_get (D := g.1) (ci := 5) (v := .ref a_op) (C := "MoveDesk$Planner") (T := F_Pl) (N := 12) hx hb hts i_Pl hown hK hP 12 rfl rfl 1 (by decide) (hts _ m_187) (fun _ h9 => h9) rfl d_Pl_writeOne_89 ?_
  refine lv_iload_n hx hb d_Pl_writeOne_92 rfl (lv_at hl 1 rfl) ?_
  obtain ⟨y2, hy2, hE⟩ := bd_at hE
  refine kV (C := "MoveDesk$Operations") (index := 132) (As := [.int v1]) (rest := [.int y1, .int v4, .int v5, .ref a_co]) (ws2 := (w_co_15_87f5 g a_lat a_co a_ta a_gu a_so a_cn a_de a_op a_ki a_tg a_fi a_se a_oc a_cp a_pl a_bs a_rr a_hr a_lw a_lr a_lt a_lm a_tc a_rc r_co r_ta r_gu r_so r_cn r_de r_op r_ki r_tg r_fi r_se r_oc r_tc r_rc)) M hP hD hS hl.1 (c_Op_trigger l g a_op a_ki a_tg a_fi a_se a_oc a_cp r_op r_ki v1 y2 hy2) m_703 m_704 m_705 m_6 m_706 hd_Op_trigger rfl rfl rfl ⟨by decide, by decide⟩ ⟨by decide, by decide⟩ 4 0 rfl rfl rfl [6, 7] [0, 1, 2, 3, 4, 5, 8, 9, 10, 11, 12, 13, 14] [0, 1, 2, 3, 4, 5, 13, 14, 6, 7, 8, 9, 10, 11, 12] rfl rfl rfl rfl (by decide) rfl rfl rfl (Nat.le_of_ble_eq_true rfl) d_Pl_writeOne_93 (fun H locs hP hD hS => ?_)
  refine W.eq (g2 := F0 m 96 ls [.int y2, .int y1, .int v4, .int v5, .ref a_co]) rfl ?_
  obtain ⟨y3, hy3, hE⟩ := bd_at hE
  refine kV (C := "MoveDesk$Code") (index := 119) (As := [.int v5, .int v4, .int y1, .int y2]) (rest := []) (ws2 := (w_co_15_87f5 g a_lat a_co a_ta a_gu a_so a_cn a_de a_op a_ki a_tg a_fi a_se a_oc a_cp a_pl a_bs a_rr a_hr a_lw a_lr a_lt a_lm a_tc a_rc r_co y3.1 y3.2.1 y3.2.2.1 y3.2.2.2.1 y3.2.2.2.2 r_op r_ki r_tg r_fi r_se r_oc r_tc r_rc)) M hP hD hS hl.1 (c_Co_putOnLowestBus l g a_co a_ta a_gu a_so a_cn a_de r_co r_ta r_gu r_so r_cn r_de v5 v4 y1 y2 y3 hy3) m_698 m_699 m_700 m_3 m_701 hd_Co_putOnLowestBus rfl rfl rfl ⟨by decide, by decide⟩ ⟨by decide, by decide⟩ 1 0 rfl rfl rfl [0, 1, 2, 3, 4, 5] [6, 7, 8, 9, 10, 11, 12, 13, 14] [9, 10, 11, 12, 13, 14, 0, 1, 2, 3, 4, 5, 6, 7, 8] rfl rfl rfl rfl (by decide) rfl rfl rfl (Nat.le_of_ble_eq_true rfl) d_Pl_writeOne_96 (fun H locs hP hD hS => ?_)
  refine W.eq (g2 := F0 m 99 ls []) rfl ?_
  refine lv_aload_n hx hb d_Pl_writeOne_99 rfl (lv_at hl 0 rfl) ?_
  refine va_get (D := g.1) (ci := 5) (v := .ref a_op) (C := "MoveDesk$Planner") (T := F_Pl) (N := 12) hx hb hts i_Pl hown hK hP 12 rfl rfl 1 (by decide) (hts _ m_187) (fun _ h9 => h9) rfl d_Pl_writeOne_100 ?_
  refine lv_iload_n hx hb d_Pl_writeOne_103 rfl (lv_at hl 1 rfl) ?_
  obtain ⟨y4, hy4, hE⟩ := bd_at hE
  refine kV (C := "MoveDesk$Operations") (index := 77) (As := [.int v1]) (rest := []) (ws2 := (w_co_15_87f5 g a_lat a_co a_ta a_gu a_so a_cn a_de a_op a_ki a_tg a_fi a_se a_oc a_cp a_pl a_bs a_rr a_hr a_lw a_lr a_lt a_lm a_tc a_rc r_co y3.1 y3.2.1 y3.2.2.1 y3.2.2.2.1 y3.2.2.2.2 r_op r_ki r_tg r_fi r_se r_oc r_tc r_rc)) M hP hD hS hl.1 (c_Op_isStore l g a_op a_ki a_tg a_fi a_se a_oc a_cp r_op r_ki v1 y4 hy4) m_647 m_648 m_649 m_6 m_650 hd_Op_isStore rfl rfl rfl ⟨by decide, by decide⟩ ⟨by decide, by decide⟩ 4 0 rfl rfl rfl [6, 7] [0, 1, 2, 3, 4, 5, 8, 9, 10, 11, 12, 13, 14] [0, 1, 2, 3, 4, 5, 13, 14, 6, 7, 8, 9, 10, 11, 12] rfl rfl rfl rfl (by decide) rfl rfl rfl (Nat.le_of_ble_eq_true rfl) d_Pl_writeOne_104 (fun H locs hP hD hS => ?_)
  refine W.eq (g2 := F0 m 107 ls [.int y4]) rfl ?_
  refine lv_if_ne (tgt := 136) hx hb d_Pl_writeOne_107 (by decide) (fun c5 => ?_) (fun c5 => ?_)
  · have hE := it_f hE c5
    have hE := Option.some.inj hE
    rw [hE]
    exact W.vret hx hb hr (fun t ht hW => ⟨⟨rfl, by rw [ht]; exact hP, va_K.moved hW.alike hK, hD⟩, hS.F ht⟩) hS.2.2 d_Pl_writeOne_136 hlocks
  · have hE := it_t hE c5
    refine lv_aload_n hx hb d_Pl_writeOne_110 rfl (lv_at hl 0 rfl) ?_
    refine va_get (D := g.1) (ci := 5) (v := .ref a_co) (C := "MoveDesk$Planner") (T := F_Pl) (N := 12) hx hb hts i_Pl hown hK hP 12 rfl rfl 0 (by decide) (hts _ m_186) (fun _ h9 => h9) rfl d_Pl_writeOne_111 ?_
    refine lv_aload_n hx hb d_Pl_writeOne_114 rfl (lv_at hl 0 rfl) ?_
    refine va_get (D := g.1) (ci := 5) (v := .ref a_rc) (C := "MoveDesk$Planner") (T := F_Pl) (N := 12) hx hb hts i_Pl hown hK hP 12 rfl rfl 11 (by decide) (hts _ m_197) (fun _ h9 => h9) rfl d_Pl_writeOne_115 ?_
    refine lv_iload_n hx hb d_Pl_writeOne_118 rfl (lv_at hl 1 rfl) ?_
    have ⟨h6, hE⟩ := ck_at hE
    refine va_iald hx hb hK hP 14 0 rfl rfl h6 d_Pl_writeOne_119 ?_
    refine lv_bipush (v := 8) hx hb d_Pl_writeOne_120 (by decide) ?_
    refine lv_iload_n hx hb d_Pl_writeOne_122 rfl (lv_at hl 2 rfl) ?_
    refine lv_iadd hx hb d_Pl_writeOne_123 ?_
    refine lv_iconst (v := 0) hx hb d_Pl_writeOne_124 (by decide) ?_
    refine lv_aload_n hx hb d_Pl_writeOne_125 rfl (lv_at hl 0 rfl) ?_
    refine va_get (D := g.1) (ci := 5) (v := .ref a_op) (C := "MoveDesk$Planner") (T := F_Pl) (N := 12) hx hb hts i_Pl hown hK hP 12 rfl rfl 1 (by decide) (hts _ m_187) (fun _ h9 => h9) rfl d_Pl_writeOne_126 ?_
    refine lv_iload_n hx hb d_Pl_writeOne_129 rfl (lv_at hl 1 rfl) ?_
    obtain ⟨y7, hy7, hE⟩ := bd_at hE
    refine kV (C := "MoveDesk$Operations") (index := 109) (As := [.int v1]) (rest := [.int 0, .int ((8 : Int32) + v2), .int (r_rc v1.toNatClampNeg), .ref a_co]) (ws2 := (w_co_15_87f5 g a_lat a_co a_ta a_gu a_so a_cn a_de a_op a_ki a_tg a_fi a_se a_oc a_cp a_pl a_bs a_rr a_hr a_lw a_lr a_lt a_lm a_tc a_rc r_co y3.1 y3.2.1 y3.2.2.1 y3.2.2.2.1 y3.2.2.2.2 r_op r_ki r_tg r_fi r_se r_oc r_tc r_rc)) M hP hD hS hl.1 (c_Op_target l g a_op a_ki a_tg a_fi a_se a_oc a_cp r_op r_tg v1 y7 hy7) m_660 m_661 m_662 m_6 m_663 hd_Op_target rfl rfl rfl ⟨by decide, by decide⟩ ⟨by decide, by decide⟩ 4 0 rfl rfl rfl [6, 8] [0, 1, 2, 3, 4, 5, 7, 9, 10, 11, 12, 13, 14] [0, 1, 2, 3, 4, 5, 13, 6, 14, 7, 8, 9, 10, 11, 12] rfl rfl rfl rfl (by decide) rfl rfl rfl (Nat.le_of_ble_eq_true rfl) d_Pl_writeOne_130 (fun H locs hP hD hS => ?_)
    refine W.eq (g2 := F0 m 133 ls [.int y7, .int 0, .int ((8 : Int32) + v2), .int (r_rc v1.toNatClampNeg), .ref a_co]) rfl ?_
    obtain ⟨y8, hy8, hE⟩ := bd_at hE
    refine kV (C := "MoveDesk$Code") (index := 119) (As := [.int (r_rc v1.toNatClampNeg), .int ((8 : Int32) + v2), .int 0, .int y7]) (rest := []) (ws2 := (w_co_15_87f5 g a_lat a_co a_ta a_gu a_so a_cn a_de a_op a_ki a_tg a_fi a_se a_oc a_cp a_pl a_bs a_rr a_hr a_lw a_lr a_lt a_lm a_tc a_rc r_co y8.1 y8.2.1 y8.2.2.1 y8.2.2.2.1 y8.2.2.2.2 r_op r_ki r_tg r_fi r_se r_oc r_tc r_rc)) M hP hD hS hl.1 (c_Co_putOnLowestBus l g a_co a_ta a_gu a_so a_cn a_de r_co y3.1 y3.2.1 y3.2.2.1 y3.2.2.2.1 y3.2.2.2.2 (r_rc v1.toNatClampNeg) ((8 : Int32) + v2) (0 : Int32) y7 y8 hy8) m_698 m_699 m_700 m_3 m_701 hd_Co_putOnLowestBus rfl rfl rfl ⟨by decide, by decide⟩ ⟨by decide, by decide⟩ 1 0 rfl rfl rfl [0, 1, 2, 3, 4, 5] [6, 7, 8, 9, 10, 11, 12, 13, 14] [9, 10, 11, 12, 13, 14, 0, 1, 2, 3, 4, 5, 6, 7, 8] rfl rfl rfl rfl (by decide) rfl rfl rfl (Nat.le_of_ble_eq_true rfl) d_Pl_writeOne_133 (fun H locs hP hD hS => ?_)
    refine W.eq (g2 := F0 m 136 ls []) rfl ?_
    have hE := Option.some.inj hE
    rw [hE]
    exact W.vret hx hb hr (fun t ht hW => ⟨⟨rfl, by rw [ht]; exact hP, va_K.moved hW.alike hK, hD⟩, hS.F ht⟩) hS.2.2 d_Pl_writeOne_136 hlocks
set_option maxHeartbeats 4000000 in
set_option maxRecDepth 100000 in
theorem c_Pl_writeOne (l : Launch) (g : GT) (a_lat : Nat) (a_co : Nat) (a_ta : Nat) (a_gu : Nat) (a_so : Nat) (a_cn : Nat) (a_de : Nat) (a_op : Nat) (a_ki : Nat) (a_tg : Nat) (a_fi : Nat) (a_se : Nat) (a_oc : Nat) (a_cp : Nat) (a_pl : Nat) (a_bs : Nat) (a_rr : Nat) (a_hr : Nat) (a_lw : Nat) (a_lr : Nat) (a_lt : Nat) (a_lm : Nat) (a_tc : Nat) (a_rc : Nat) (r_co : Nat → Int32) (r_ta : Nat → Int32) (r_gu : Nat → Int32) (r_so : Nat → Int32) (r_cn : Nat → Int32) (r_de : Nat → Int32) (r_op : Nat → Int32) (r_ki : Nat → Int32) (r_tg : Nat → Int32) (r_fi : Nat → Int32) (r_se : Nat → Int32) (r_oc : Nat → Int32) (r_tc : Nat → Int32) (r_rc : Nat → Int32) (v1 : Int32) (y : (Nat → Int32) × (Nat → Int32) × (Nat → Int32) × (Nat → Int32) × (Nat → Int32)) (hy : some y = f_Pl_writeOne r_co r_ta r_gu r_so r_cn r_de r_op r_ki r_tg r_fi r_se r_oc r_tc r_rc v1) : Ct l y_Pl_writeOne (.code y_Pl_writeOne b_Pl_writeOne 6 none) rm_Pl_writeOne g [.ref a_pl, .int v1] (w_co_15_87f5 g a_lat a_co a_ta a_gu a_so a_cn a_de a_op a_ki a_tg a_fi a_se a_oc a_cp a_pl a_bs a_rr a_hr a_lw a_lr a_lt a_lm a_tc a_rc r_co r_ta r_gu r_so r_cn r_de r_op r_ki r_tg r_fi r_se r_oc r_tc r_rc) (w_co_15_87f5 g a_lat a_co a_ta a_gu a_so a_cn a_de a_op a_ki a_tg a_fi a_se a_oc a_cp a_pl a_bs a_rr a_hr a_lw a_lr a_lt a_lm a_tc a_rc r_co y.1 y.2.1 y.2.2.1 y.2.2.2.1 y.2.2.2.2 r_op r_ki r_tg r_fi r_se r_oc r_tc r_rc) none := by
  refine ct_in (C := "MoveDesk$Planner") rfl (by decide) (Nat.le_of_ble_eq_true rfl) (fun p e s m below meth c A ls M hP hD hS hl => ?_)
  obtain ⟨hx, hb, hr, hml, hown, hts, hlocks, hA, hK, hG⟩ := id M
  have hl : lv_has ls 6 [(0, .ref a_pl), (1, .int v1)] := hl
  have hE := hy
  rw [f_Pl_writeOne] at hE
  refine lv_aload_n hx hb d_Pl_writeOne_0 rfl (lv_at hl 0 rfl) ?_
  refine va_get (D := g.1) (ci := 5) (v := .ref a_op) (C := "MoveDesk$Planner") (T := F_Pl) (N := 12) hx hb hts i_Pl hown hK hP 12 rfl rfl 1 (by decide) (hts _ m_187) (fun _ h9 => h9) rfl d_Pl_writeOne_1 ?_
  refine lv_iload_n hx hb d_Pl_writeOne_4 rfl (lv_at hl 1 rfl) ?_
  obtain ⟨y1, hy1, hE⟩ := bd_at hE
  refine kV (C := "MoveDesk$Operations") (index := 106) (As := [.int v1]) (rest := []) (ws2 := (w_co_15_87f5 g a_lat a_co a_ta a_gu a_so a_cn a_de a_op a_ki a_tg a_fi a_se a_oc a_cp a_pl a_bs a_rr a_hr a_lw a_lr a_lt a_lm a_tc a_rc r_co r_ta r_gu r_so r_cn r_de r_op r_ki r_tg r_fi r_se r_oc r_tc r_rc)) M hP hD hS hl.1 (c_Op_unit l g a_op a_ki a_tg a_fi a_se a_oc a_cp r_op r_ki v1 y1 hy1) m_642 m_643 m_644 m_6 m_645 hd_Op_unit rfl rfl rfl ⟨by decide, by decide⟩ ⟨by decide, by decide⟩ 4 0 rfl rfl rfl [6, 7] [0, 1, 2, 3, 4, 5, 8, 9, 10, 11, 12, 13, 14] [0, 1, 2, 3, 4, 5, 13, 14, 6, 7, 8, 9, 10, 11, 12] rfl rfl rfl rfl (by decide) rfl rfl rfl (Nat.le_of_ble_eq_true rfl) d_Pl_writeOne_5 (fun H locs hP hD hS => ?_)
  refine W.eq (g2 := F0 m 8 ls [.int y1]) rfl ?_
  refine lv_istore_n (lv' := [(2, .int y1), (0, .ref a_pl), (1, .int v1)]) hx hb d_Pl_writeOne_8 rfl hl (by decide) rfl (fun ls hl => ?_)
  refine lv_aload_n hx hb d_Pl_writeOne_9 rfl (lv_at hl 1 rfl) ?_
  refine va_get (D := g.1) (ci := 5) (v := .ref a_op) (C := "MoveDesk$Planner") (T := F_Pl) (N := 12) hx hb hts i_Pl hown hK hP 12 rfl rfl 1 (by decide) (hts _ m_187) (fun _ h9 => h9) rfl d_Pl_writeOne_10 ?_
  refine lv_iload_n hx hb d_Pl_writeOne_13 rfl (lv_at hl 2 rfl) ?_
  obtain ⟨y2, hy2, hE⟩ := bd_at hE
  refine kV (C := "MoveDesk$Operations") (index := 123) (As := [.int v1]) (rest := []) (ws2 := (w_co_15_87f5 g a_lat a_co a_ta a_gu a_so a_cn a_de a_op a_ki a_tg a_fi a_se a_oc a_cp a_pl a_bs a_rr a_hr a_lw a_lr a_lt a_lm a_tc a_rc r_co r_ta r_gu r_so r_cn r_de r_op r_ki r_tg r_fi r_se r_oc r_tc r_rc)) M hP hD hS hl.1 (c_Op_firstSource l g a_op a_ki a_tg a_fi a_se a_oc a_cp r_op r_fi v1 y2 hy2) m_692 m_620 m_621 m_6 m_622 hd_Op_firstSource rfl rfl rfl ⟨by decide, by decide⟩ ⟨by decide, by decide⟩ 4 0 rfl rfl rfl [6, 9] [0, 1, 2, 3, 4, 5, 7, 8, 10, 11, 12, 13, 14] [0, 1, 2, 3, 4, 5, 13, 6, 7, 14, 8, 9, 10, 11, 12] rfl rfl rfl rfl (by decide) rfl rfl rfl (Nat.le_of_ble_eq_true rfl) d_Pl_writeOne_14 (fun H locs hP hD hS => ?_)
  refine W.eq (g2 := F0 m 17 ls [.int y2]) rfl ?_
  refine lv_istore_n (lv' := [(3, .int y2), (2, .int y1), (0, .ref a_pl), (1, .int v1)]) hx hb d_Pl_writeOne_17 rfl hl (by decide) rfl (fun ls hl => ?_)
  refine lv_aload_n hx hb d_Pl_writeOne_18 rfl (lv_at hl 2 rfl) ?_
  refine va_get (D := g.1) (ci := 5) (v := .ref a_op) (C := "MoveDesk$Planner") (T := F_Pl) (N := 12) hx hb hts i_Pl hown hK hP 12 rfl rfl 1 (by decide) (hts _ m_187) (fun _ h9 => h9) rfl d_Pl_writeOne_19 ?_
  refine lv_iload_n hx hb d_Pl_writeOne_22 rfl (lv_at hl 3 rfl) ?_
  obtain ⟨y3, hy3, hE⟩ := bd_at hE
  refine kV (C := "MoveDesk$Operations") (index := 126) (As := [.int v1]) (rest := []) (ws2 := (w_co_15_87f5 g a_lat a_co a_ta a_gu a_so a_cn a_de a_op a_ki a_tg a_fi a_se a_oc a_cp a_pl a_bs a_rr a_hr a_lw a_lr a_lt a_lm a_tc a_rc r_co r_ta r_gu r_so r_cn r_de r_op r_ki r_tg r_fi r_se r_oc r_tc r_rc)) M hP hD hS hl.1 (c_Op_triggerSource l g a_op a_ki a_tg a_fi a_se a_oc a_cp r_op r_ki r_fi r_se v1 y3 hy3) m_693 m_630 m_631 m_6 m_632 hd_Op_triggerSource rfl rfl rfl ⟨by decide, by decide⟩ ⟨by decide, by decide⟩ 4 0 rfl rfl rfl [6, 7, 9, 10] [0, 1, 2, 3, 4, 5, 8, 11, 12, 13, 14] [0, 1, 2, 3, 4, 5, 11, 12, 6, 13, 14, 7, 8, 9, 10] rfl rfl rfl rfl (by decide) rfl rfl rfl (Nat.le_of_ble_eq_true rfl) d_Pl_writeOne_23 (fun H locs hP hD hS => ?_)
  refine W.eq (g2 := F0 m 26 ls [.int y3]) rfl ?_
  refine lv_istore (lv' := [(4, .int y3), (3, .int y2), (2, .int y1), (0, .ref a_pl), (1, .int v1)]) hx hb d_Pl_writeOne_26 hl (by decide) rfl (fun ls hl => ?_)
  refine lv_aload_n hx hb d_Pl_writeOne_28 rfl (lv_at hl 3 rfl) ?_
  refine va_get (D := g.1) (ci := 5) (v := .ref a_tc) (C := "MoveDesk$Planner") (T := F_Pl) (N := 12) hx hb hts i_Pl hown hK hP 12 rfl rfl 10 (by decide) (hts _ m_196) (fun _ h9 => h9) rfl d_Pl_writeOne_29 ?_
  refine lv_iload_n hx hb d_Pl_writeOne_32 rfl (lv_at hl 4 rfl) ?_
  have ⟨h4, hE⟩ := ck_at hE
  refine va_iald hx hb hK hP 13 0 rfl rfl h4 d_Pl_writeOne_33 ?_
  refine lv_topi (fun x5 ex5 => ?_)
  have hE := nm_at hE ex5
  refine lv_istore (lv' := [(5, .int x5), (4, .int y3), (3, .int y2), (2, .int y1), (0, .ref a_pl), (1, .int v1)]) hx hb d_Pl_writeOne_34 hl (by decide) rfl (fun ls hl => ?_)
  refine lv_aload_n hx hb d_Pl_writeOne_36 rfl (lv_at hl 4 rfl) ?_
  refine va_get (D := g.1) (ci := 5) (v := .ref a_op) (C := "MoveDesk$Planner") (T := F_Pl) (N := 12) hx hb hts i_Pl hown hK hP 12 rfl rfl 1 (by decide) (hts _ m_187) (fun _ h9 => h9) rfl d_Pl_writeOne_37 ?_
  refine lv_iload_n hx hb d_Pl_writeOne_40 rfl (lv_at hl 5 rfl) ?_
  obtain ⟨y6, hy6, hE⟩ := bd_at hE
  refine kV (C := "MoveDesk$Operations") (index := 95) (As := [.int v1]) (rest := []) (ws2 := (w_co_15_87f5 g a_lat a_co a_ta a_gu a_so a_cn a_de a_op a_ki a_tg a_fi a_se a_oc a_cp a_pl a_bs a_rr a_hr a_lw a_lr a_lt a_lm a_tc a_rc r_co r_ta r_gu r_so r_cn r_de r_op r_ki r_tg r_fi r_se r_oc r_tc r_rc)) M hP hD hS hl.1 (c_Op_isLoad l g a_op a_ki a_tg a_fi a_se a_oc a_cp r_op r_ki v1 y6 hy6) m_637 m_634 m_635 m_6 m_636 hd_Op_isLoad rfl rfl rfl ⟨by decide, by decide⟩ ⟨by decide, by decide⟩ 4 0 rfl rfl rfl [6, 7] [0, 1, 2, 3, 4, 5, 8, 9, 10, 11, 12, 13, 14] [0, 1, 2, 3, 4, 5, 13, 14, 6, 7, 8, 9, 10, 11, 12] rfl rfl rfl rfl (by decide) rfl rfl rfl (Nat.le_of_ble_eq_true rfl) d_Pl_writeOne_41 (fun H locs hP hD hS => ?_)
  refine W.eq (g2 := F0 m 44 ls [.int y6]) rfl ?_
  refine lv_if_ne (tgt := 70) hx hb d_Pl_writeOne_44 (by decide) (fun c7 => ?_) (fun c7 => ?_)
  · have hE := it_f hE c7
    exact wl_Pl_writeOne_70 M _ _ _ _ _ _ _ _ _ _ _ _ _ _ _ _ _ _ _ _ _ hE hP hD hS (lv_sub hl [4, 5, 3, 1, 0] rfl)
  · have hE := it_t hE c7
    refine lv_aload_n hx hb d_Pl_writeOne_47 rfl (lv_at hl 4 rfl) ?_
    refine va_get (D := g.1) (ci := 5) (v := .ref a_co) (C := "MoveDesk$Planner") (T := F_Pl) (N := 12) hx hb hts i_Pl hown hK hP 12 rfl rfl 0 (by decide) (hts _ m_186) (fun _ h9 => h9) rfl d_Pl_writeOne_48 ?_
    refine lv_iload hx hb d_Pl_writeOne_51 (lv_at hl 0 rfl) ?_
    refine lv_iload_n hx hb d_Pl_writeOne_53 rfl (lv_at hl 2 rfl) ?_
    refine lv_aload_n hx hb d_Pl_writeOne_54 rfl (lv_at hl 4 rfl) ?_
    refine va_get (D := g.1) (ci := 5) (v := .ref a_op) (C := "MoveDesk$Planner") (T := F_Pl) (N := 12) hx hb hts i_Pl hown hK hP 12 rfl rfl 1 (by decide) (hts _ m_187) (fun _ h9 => h9) rfl d_Pl_writeOne_55 ?_
    refine lv_iload_n hx hb d_Pl_writeOne_58 rfl (lv_at hl 5 rfl) ?_
    refine lv_iload_n hx hb d_Pl_writeOne_59 rfl (lv_at hl 2 rfl) ?_
    obtain ⟨y8, hy8, hE⟩ := bd_at hE
    refine kV (C := "MoveDesk$Operations") (index := 129) (As := [.int v1, .int y2]) (rest := [.int y2, .int x5, .ref a_co]) (ws2 := (w_co_15_87f5 g a_lat a_co a_ta a_gu a_so a_cn a_de a_op a_ki a_tg a_fi a_se a_oc a_cp a_pl a_bs a_rr a_hr a_lw a_lr a_lt a_lm a_tc a_rc r_co r_ta r_gu r_so r_cn r_de r_op r_ki r_tg r_fi r_se r_oc r_tc r_rc)) M hP hD hS hl.1 (c_Op_constantFor l g a_op a_ki a_tg a_fi a_se a_oc a_cp r_op r_oc v1 y2 y8 hy8) m_694 m_695 m_696 m_6 m_697 hd_Op_constantFor rfl rfl rfl ⟨by decide, by decide⟩ ⟨by decide, by decide⟩ 4 0 rfl rfl rfl [6, 11] [0, 1, 2, 3, 4, 5, 7, 8, 9, 10, 12, 13, 14] [0, 1, 2, 3, 4, 5, 13, 6, 7, 8, 9, 14, 10, 11, 12] rfl rfl rfl rfl (by decide) rfl rfl rfl (Nat.le_of_ble_eq_true rfl) d_Pl_writeOne_60 (fun H locs hP hD hS => ?_)
    refine W.eq (g2 := F0 m 63 ls [.int y8, .int y2, .int x5, .ref a_co]) rfl ?_
    refine lv_bipush (v := 8) hx hb d_Pl_writeOne_63 (by decide) ?_
    refine lv_iload_n hx hb d_Pl_writeOne_65 rfl (lv_at hl 3 rfl) ?_
    refine lv_iadd hx hb d_Pl_writeOne_66 ?_
    obtain ⟨y9, hy9, hE⟩ := bd_at hE
    refine kV (C := "MoveDesk$Code") (index := 119) (As := [.int x5, .int y2, .int y8, .int ((8 : Int32) + y1)]) (rest := []) (ws2 := (w_co_15_87f5 g a_lat a_co a_ta a_gu a_so a_cn a_de a_op a_ki a_tg a_fi a_se a_oc a_cp a_pl a_bs a_rr a_hr a_lw a_lr a_lt a_lm a_tc a_rc r_co y9.1 y9.2.1 y9.2.2.1 y9.2.2.2.1 y9.2.2.2.2 r_op r_ki r_tg r_fi r_se r_oc r_tc r_rc)) M hP hD hS hl.1 (c_Co_putOnLowestBus l g a_co a_ta a_gu a_so a_cn a_de r_co r_ta r_gu r_so r_cn r_de x5 y2 y8 ((8 : Int32) + y1) y9 hy9) m_698 m_699 m_700 m_3 m_701 hd_Co_putOnLowestBus rfl rfl rfl ⟨by decide, by decide⟩ ⟨by decide, by decide⟩ 1 0 rfl rfl rfl [0, 1, 2, 3, 4, 5] [6, 7, 8, 9, 10, 11, 12, 13, 14] [9, 10, 11, 12, 13, 14, 0, 1, 2, 3, 4, 5, 6, 7, 8] rfl rfl rfl rfl (by decide) rfl rfl rfl (Nat.le_of_ble_eq_true rfl) d_Pl_writeOne_67 (fun H locs hP hD hS => ?_)
    refine W.eq (g2 := F0 m 70 ls []) rfl ?_
    exact wl_Pl_writeOne_70 M _ _ _ _ _ _ _ _ _ _ _ _ _ _ _ _ _ _ _ _ _ hE hP hD hS (lv_sub hl [4, 5, 3, 1, 0] rfl)
abbrev rm_Pl_write : Room := { frames := 3, cells := 0, slots := 0, locals := 77 }
set_option maxHeartbeats 4000000 in
set_option maxRecDepth 100000 in
theorem wl_Pl_write_9 {p : Program} {l : Launch} {e : Env} {s : State} {m : MethodId} {args : Array Value} {below : List Frame} {meth : Method} {c : Code} {A : Nat → Prop} {g : GT} {a_lat : Nat} {a_co : Nat} {a_ta : Nat} {a_gu : Nat} {a_so : Nat} {a_cn : Nat} {a_de : Nat} {a_op : Nat} {a_ki : Nat} {a_tg : Nat} {a_fi : Nat} {a_se : Nat} {a_oc : Nat} {a_cp : Nat} {a_pl : Nat} {a_bs : Nat} {a_rr : Nat} {a_hr : Nat} {a_lw : Nat} {a_lr : Nat} {a_lt : Nat} {a_lm : Nat} {a_tc : Nat} {a_rc : Nat} {y : (Nat → Int32) × (Nat → Int32) × (Nat → Int32) × (Nat → Int32) × (Nat → Int32)} (M : MX p s m args meth c b_Pl_write 3 none "MoveDesk$Planner" g A) : ∀ n : Nat, ∀ (r_co : Nat → Int32) (r_ta : Nat → Int32) (r_gu : Nat → Int32) (r_so : Nat → Int32) (r_cn : Nat → Int32) (r_de : Nat → Int32) (r_op : Nat → Int32) (r_ki : Nat → Int32) (r_tg : Nat → Int32) (r_fi : Nat → Int32) (r_se : Nat → Int32) (r_oc : Nat → Int32) (r_tc : Nat → Int32) (r_rc : Nat → Int32) (v1 : Int32) (v2 : Int32) (H : Heap) (locs : List Loc) (ls : Array Slot), some y = (f_Pl_write_9 n) r_co r_ta r_gu r_so r_cn r_de r_op r_ki r_tg r_fi r_se r_oc r_tc r_rc v1 v2 → va_P g.1 classes (w_co_15_87f5 g a_lat a_co a_ta a_gu a_so a_cn a_de a_op a_ki a_tg a_fi a_se a_oc a_cp a_pl a_bs a_rr a_hr a_lw a_lr a_lt a_lm a_tc a_rc r_co r_ta r_gu r_so r_cn r_de r_op r_ki r_tg r_fi r_se r_oc r_tc r_rc) H → va_D A (w_co_15_87f5 g a_lat a_co a_ta a_gu a_so a_cn a_de a_op a_ki a_tg a_fi a_se a_oc a_cp a_pl a_bs a_rr a_hr a_lw a_lr a_lt a_lm a_tc a_rc r_co r_ta r_gu r_so r_cn r_de r_op r_ki r_tg r_fi r_se r_oc r_tc r_rc) → va_S A s.heap H locs → lv_has ls 3 [(0, .ref a_pl), (1, .int v1), (2, .int v2)] → W p l e rm_Pl_write s m args below meth c H locs 0 0 (MQ below (QW g none (w_co_15_87f5 g a_lat a_co a_ta a_gu a_so a_cn a_de a_op a_ki a_tg a_fi a_se a_oc a_cp a_pl a_bs a_rr a_hr a_lw a_lr a_lt a_lm a_tc a_rc r_co y.1 y.2.1 y.2.2.1 y.2.2.2.1 y.2.2.2.2 r_op r_ki r_tg r_fi r_se r_oc r_tc r_rc) A) args s 0 0 A) (F0 m 9 ls []) := by
  obtain ⟨hx, hb, hr, hml, hown, hts, hlocks, hA, hK, hG⟩ := id M
  intro n
  induction n with
  | zero =>
    intro r_co r_ta r_gu r_so r_cn r_de r_op r_ki r_tg r_fi r_se r_oc r_tc r_rc v1 v2 H locs ls hE hP hD hS hl
    rw [f_Pl_write_9] at hE
    cases hE
  | succ n ih =>
    intro r_co r_ta r_gu r_so r_cn r_de r_op r_ki r_tg r_fi r_se r_oc r_tc r_rc v1 v2 H locs ls hE hP hD hS hl
    rw [f_Pl_write_9] at hE
    refine lv_iload_n hx hb d_Pl_write_9 rfl (lv_at hl 2 rfl) ?_
    refine lv_aload_n hx hb d_Pl_write_10 rfl (lv_at hl 0 rfl) ?_
    refine va_get (D := g.1) (ci := 5) (v := .ref a_op) (C := "MoveDesk$Planner") (T := F_Pl) (N := 12) hx hb hts i_Pl hown hK hP 12 rfl rfl 1 (by decide) (hts _ m_187) (fun _ h9 => h9) rfl d_Pl_write_11 ?_
    obtain ⟨y1, hy1, hE⟩ := bd_at hE
    refine kV (C := "MoveDesk$Operations") (index := 54) (As := []) (rest := [.int v2]) (ws2 := (w_co_15_87f5 g a_lat a_co a_ta a_gu a_so a_cn a_de a_op a_ki a_tg a_fi a_se a_oc a_cp a_pl a_bs a_rr a_hr a_lw a_lr a_lt a_lm a_tc a_rc r_co r_ta r_gu r_so r_cn r_de r_op r_ki r_tg r_fi r_se r_oc r_tc r_rc)) M hP hD hS hl.1 (c_Op_count l g a_op a_ki a_tg a_fi a_se a_oc a_cp r_op  y1 hy1) m_606 m_568 m_569 m_6 m_570 hd_Op_count rfl rfl rfl ⟨by decide, by decide⟩ ⟨by decide, by decide⟩ 4 0 rfl rfl rfl [6] [0, 1, 2, 3, 4, 5, 7, 8, 9, 10, 11, 12, 13, 14] [0, 1, 2, 3, 4, 5, 14, 6, 7, 8, 9, 10, 11, 12, 13] rfl rfl rfl rfl (by decide) rfl rfl rfl (Nat.le_of_ble_eq_true rfl) d_Pl_write_14 (fun H locs hP hD hS => ?_)
    refine W.eq (g2 := F0 m 17 ls [.int y1, .int v2]) rfl ?_
    refine lv_icmp_ge (tgt := 31) hx hb d_Pl_write_17 (by decide) (fun c2 => ?_) (fun c2 => ?_)
    · have hE := it_t hE c2
      refine lv_aload_n hx hb d_Pl_write_31 rfl (lv_at hl 0 rfl) ?_
      refine va_get (D := g.1) (ci := 5) (v := .ref a_co) (C := "MoveDesk$Planner") (T := F_Pl) (N := 12) hx hb hts i_Pl hown hK hP 12 rfl rfl 0 (by decide) (hts _ m_186) (fun _ h9 => h9) rfl d_Pl_write_32 ?_
      refine lv_iload_n hx hb d_Pl_write_35 rfl (lv_at hl 1 rfl) ?_
      refine lv_bipush (v := 11) hx hb d_Pl_write_36 (by decide) ?_
      refine lv_iconst (v := 0) hx hb d_Pl_write_38 (by decide) ?_
      refine lv_bipush (v := 25) hx hb d_Pl_write_39 (by decide) ?_
      obtain ⟨y3, hy3, hE⟩ := bd_at hE
      refine kV (C := "MoveDesk$Code") (index := 119) (As := [.int v1, .int 11, .int 0, .int 25]) (rest := []) (ws2 := (w_co_15_87f5 g a_lat a_co a_ta a_gu a_so a_cn a_de a_op a_ki a_tg a_fi a_se a_oc a_cp a_pl a_bs a_rr a_hr a_lw a_lr a_lt a_lm a_tc a_rc r_co y3.1 y3.2.1 y3.2.2.1 y3.2.2.2.1 y3.2.2.2.2 r_op r_ki r_tg r_fi r_se r_oc r_tc r_rc)) M hP hD hS hl.1 (c_Co_putOnLowestBus l g a_co a_ta a_gu a_so a_cn a_de r_co r_ta r_gu r_so r_cn r_de v1 (11 : Int32) (0 : Int32) (25 : Int32) y3 hy3) m_698 m_699 m_700 m_3 m_701 hd_Co_putOnLowestBus rfl rfl rfl ⟨by decide, by decide⟩ ⟨by decide, by decide⟩ 1 0 rfl rfl rfl [0, 1, 2, 3, 4, 5] [6, 7, 8, 9, 10, 11, 12, 13, 14] [9, 10, 11, 12, 13, 14, 0, 1, 2, 3, 4, 5, 6, 7, 8] rfl rfl rfl rfl (by decide) rfl rfl rfl (Nat.le_of_ble_eq_true rfl) d_Pl_write_41 (fun H locs hP hD hS => ?_)
      refine W.eq (g2 := F0 m 44 ls []) rfl ?_
      have hE := Option.some.inj hE
      rw [hE]
      exact W.vret hx hb hr (fun t ht hW => ⟨⟨rfl, by rw [ht]; exact hP, va_K.moved hW.alike hK, hD⟩, hS.F ht⟩) hS.2.2 d_Pl_write_44 hlocks
    · have hE := it_f hE c2
      refine lv_aload_n hx hb d_Pl_write_20 rfl (lv_at hl 0 rfl) ?_
      refine lv_iload_n hx hb d_Pl_write_21 rfl (lv_at hl 2 rfl) ?_
      obtain ⟨y4, hy4, hE⟩ := bd_at hE
      refine kV (C := "MoveDesk$Planner") (index := 115) (As := [.int v2]) (rest := []) (ws2 := (w_co_15_87f5 g a_lat a_co a_ta a_gu a_so a_cn a_de a_op a_ki a_tg a_fi a_se a_oc a_cp a_pl a_bs a_rr a_hr a_lw a_lr a_lt a_lm a_tc a_rc r_co y4.1 y4.2.1 y4.2.2.1 y4.2.2.2.1 y4.2.2.2.2 r_op r_ki r_tg r_fi r_se r_oc r_tc r_rc)) M hP hD hS hl.1 (c_Pl_writeOne l g a_lat a_co a_ta a_gu a_so a_cn a_de a_op a_ki a_tg a_fi a_se a_oc a_cp a_pl a_bs a_rr a_hr a_lw a_lr a_lt a_lm a_tc a_rc r_co r_ta r_gu r_so r_cn r_de r_op r_ki r_tg r_fi r_se r_oc r_tc r_rc v2 y4 hy4) m_688 m_690 s_19 m_7 m_691 hd_Pl_writeOne rfl rfl rfl ⟨by decide, by decide⟩ ⟨by decide, by decide⟩ 5 12 rfl rfl rfl [0, 1, 2, 3, 4, 5, 6, 7, 8, 9, 10, 11, 12, 13, 14] [] [0, 1, 2, 3, 4, 5, 6, 7, 8, 9, 10, 11, 12, 13, 14] rfl rfl rfl rfl (by decide) rfl rfl rfl (Nat.le_of_ble_eq_true rfl) d_Pl_write_22 (fun H locs hP hD hS => ?_)
      refine W.eq (g2 := F0 m 25 ls []) rfl ?_
      obtain ⟨x5, ex5⟩ : ∃ z : Int32, z = v2 + 1 := ⟨_, rfl⟩
      have hE := nm_at hE ex5
      refine lv_iinc (v := x5) (lv' := [(2, .int x5), (0, .ref a_pl), (1, .int v1)]) hx hb d_Pl_write_25 hl (k := 2) rfl (by rw [ex5]; rfl) (by decide) rfl (fun ls hl => ?_)
      refine lv_goto (tgt := 9) hx hb d_Pl_write_28 (by decide) ?_
      exact ih _ _ _ _ _ _ _ _ _ _ _ _ _ _ _ _ _ _ _ hE hP hD hS (lv_sub hl [1, 2, 0] rfl)
set_option maxHeartbeats 4000000 in
set_option maxRecDepth 100000 in
theorem c_Pl_write (l : Launch) (g : GT) (a_lat : Nat) (a_co : Nat) (a_ta : Nat) (a_gu : Nat) (a_so : Nat) (a_cn : Nat) (a_de : Nat) (a_op : Nat) (a_ki : Nat) (a_tg : Nat) (a_fi : Nat) (a_se : Nat) (a_oc : Nat) (a_cp : Nat) (a_pl : Nat) (a_bs : Nat) (a_rr : Nat) (a_hr : Nat) (a_lw : Nat) (a_lr : Nat) (a_lt : Nat) (a_lm : Nat) (a_tc : Nat) (a_rc : Nat) (r_co : Nat → Int32) (r_ta : Nat → Int32) (r_gu : Nat → Int32) (r_so : Nat → Int32) (r_cn : Nat → Int32) (r_de : Nat → Int32) (r_op : Nat → Int32) (r_ki : Nat → Int32) (r_tg : Nat → Int32) (r_fi : Nat → Int32) (r_se : Nat → Int32) (r_oc : Nat → Int32) (r_tc : Nat → Int32) (r_rc : Nat → Int32) (v1 : Int32) (y : (Nat → Int32) × (Nat → Int32) × (Nat → Int32) × (Nat → Int32) × (Nat → Int32)) (hy : some y = f_Pl_write r_co r_ta r_gu r_so r_cn r_de r_op r_ki r_tg r_fi r_se r_oc r_tc r_rc v1) : Ct l y_Pl_write (.code y_Pl_write b_Pl_write 3 none) rm_Pl_write g [.ref a_pl, .int v1] (w_co_15_87f5 g a_lat a_co a_ta a_gu a_so a_cn a_de a_op a_ki a_tg a_fi a_se a_oc a_cp a_pl a_bs a_rr a_hr a_lw a_lr a_lt a_lm a_tc a_rc r_co r_ta r_gu r_so r_cn r_de r_op r_ki r_tg r_fi r_se r_oc r_tc r_rc) (w_co_15_87f5 g a_lat a_co a_ta a_gu a_so a_cn a_de a_op a_ki a_tg a_fi a_se a_oc a_cp a_pl a_bs a_rr a_hr a_lw a_lr a_lt a_lm a_tc a_rc r_co y.1 y.2.1 y.2.2.1 y.2.2.2.1 y.2.2.2.2 r_op r_ki r_tg r_fi r_se r_oc r_tc r_rc) none := by
  refine ct_in (C := "MoveDesk$Planner") rfl (by decide) (Nat.le_of_ble_eq_true rfl) (fun p e s m below meth c A ls M hP hD hS hl => ?_)
  obtain ⟨hx, hb, hr, hml, hown, hts, hlocks, hA, hK, hG⟩ := id M
  have hl : lv_has ls 3 [(0, .ref a_pl), (1, .int v1)] := hl
  have hE := hy
  rw [f_Pl_write] at hE
  refine lv_aload_n hx hb d_Pl_write_0 rfl (lv_at hl 0 rfl) ?_
  refine va_get (D := g.1) (ci := 5) (v := .ref a_co) (C := "MoveDesk$Planner") (T := F_Pl) (N := 12) hx hb hts i_Pl hown hK hP 12 rfl rfl 0 (by decide) (hts _ m_186) (fun _ h9 => h9) rfl d_Pl_write_1 ?_
  obtain ⟨y1, hy1, hE⟩ := bd_at hE
  refine kV (C := "MoveDesk$Code") (index := 112) (As := []) (rest := []) (ws2 := (w_co_15_87f5 g a_lat a_co a_ta a_gu a_so a_cn a_de a_op a_ki a_tg a_fi a_se a_oc a_cp a_pl a_bs a_rr a_hr a_lw a_lr a_lt a_lm a_tc a_rc r_co y1 r_gu r_so r_cn r_de r_op r_ki r_tg r_fi r_se r_oc r_tc r_rc)) M hP hD hS hl.1 (c_Co_erase l g a_co a_ta a_gu a_so a_cn a_de r_co r_ta  y1 hy1) m_687 m_326 m_327 m_3 m_328 hd_Co_erase rfl rfl rfl ⟨by decide, by decide⟩ ⟨by decide, by decide⟩ 1 0 rfl rfl rfl [0, 1] [2, 3, 4, 5, 6, 7, 8, 9, 10, 11, 12, 13, 14] [13, 14, 0, 1, 2, 3, 4, 5, 6, 7, 8, 9, 10, 11, 12] rfl rfl rfl rfl (by decide) rfl rfl rfl (Nat.le_of_ble_eq_true rfl) d_Pl_write_4 (fun H locs hP hD hS => ?_)
  refine W.eq (g2 := F0 m 7 ls []) rfl ?_
  refine lv_iconst (v := 0) hx hb d_Pl_write_7 (by decide) ?_
  refine lv_istore_n (lv' := [(2, .int 0), (0, .ref a_pl), (1, .int v1)]) hx hb d_Pl_write_8 rfl hl (by decide) rfl (fun ls hl => ?_)
  exact wl_Pl_write_9 M 5000 _ _ _ _ _ _ _ _ _ _ _ _ _ _ _ _ _ _ _ hE hP hD hS (lv_sub hl [1, 2, 0] rfl)
