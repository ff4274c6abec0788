theorem s_29 : (.selects "MoveDesk$Operations" ⟨"MoveDesk$Operations", "perform", "(I)V"⟩ ⟨"MoveDesk$Operations", "perform", "(I)V"⟩ : Cond) ∈ bw := ms 29 (by decide +kernel) rfl
theorem s_30 : (.selects "MoveDesk$Operations" ⟨"MoveDesk$Operations", "valueOf", "(II)I"⟩ ⟨"MoveDesk$Operations", "valueOf", "(II)I"⟩ : Cond) ∈ bw := ms 30 (by decide +kernel) rfl
theorem m_6 : (.initialized "MoveDesk$Operations" : Cond) ∈ bw := mw 6 (by decide +kernel) rfl
theorem m_18 : (.initialized "java/lang/System" : Cond) ∈ bw := mw 18 (by decide +kernel) rfl
theorem m_158 : (.fieldLink "MoveDesk$Operations" 9 "MoveDesk$Operations" "kinds" "[I" : Cond) ∈ bw := mw 158 (by decide +kernel) rfl
theorem m_159 : (.fieldLink "MoveDesk$Operations" 15 "MoveDesk$Operations" "targets" "[I" : Cond) ∈ bw := mw 159 (by decide +kernel) rfl
theorem m_160 : (.fieldLink "MoveDesk$Operations" 18 "MoveDesk$Operations" "firsts" "[I" : Cond) ∈ bw := mw 160 (by decide +kernel) rfl
theorem m_161 : (.fieldLink "MoveDesk$Operations" 21 "MoveDesk$Operations" "seconds" "[I" : Cond) ∈ bw := mw 161 (by decide +kernel) rfl
theorem m_162 : (.fieldLink "MoveDesk$Operations" 24 "MoveDesk$Operations" "constants" "[I" : Cond) ∈ bw := mw 162 (by decide +kernel) rfl
theorem m_163 : (.fieldLink "MoveDesk$Operations" 27 "MoveDesk$Operations" "copy" "[I" : Cond) ∈ bw := mw 163 (by decide +kernel) rfl
theorem m_164 : (.fieldLink "MoveDesk$Operations" 34 "MoveDesk$Operations" "count" "I" : Cond) ∈ bw := mw 164 (by decide +kernel) rfl
theorem m_619 : (.methodLink "MoveDesk$Operations" 46 ⟨"MoveDesk$Operations", "firstSource", "(I)I"⟩ : Cond) ∈ bw := mw 619 (by decide +kernel) rfl
theorem m_620 : (.instanceMethod ⟨"MoveDesk$Operations", "firstSource", "(I)I"⟩ : Cond) ∈ bw := mw 620 (by decide +kernel) rfl
theorem m_621 : (.selects "MoveDesk$Operations" ⟨"MoveDesk$Operations", "firstSource", "(I)I"⟩ ⟨"MoveDesk$Operations", "firstSource", "(I)I"⟩ : Cond) ∈ bw := mw 621 (by decide +kernel) rfl
theorem m_622 : (.code ⟨"MoveDesk$Operations", "firstSource", "(I)I"⟩ prog_6_method_11_code 2 (some .int) : Cond) ∈ bw := mw 622 (by decide +kernel) rfl
theorem m_623 : (.methodLink "MoveDesk$Operations" 38 ⟨"MoveDesk$Operations", "sourceOf", "(I)I"⟩ : Cond) ∈ bw := mw 623 (by decide +kernel) rfl
theorem m_624 : (.static ⟨"MoveDesk$Operations", "sourceOf", "(I)I"⟩ : Cond) ∈ bw := mw 624 (by decide +kernel) rfl
theorem m_625 : (.code ⟨"MoveDesk$Operations", "sourceOf", "(I)I"⟩ prog_6_method_15_code 1 (some .int) : Cond) ∈ bw := mw 625 (by decide +kernel) rfl
theorem m_626 : (.methodLink "MoveDesk$Operations" 49 ⟨"MoveDesk$Operations", "registerBit", "(I)I"⟩ : Cond) ∈ bw := mw 626 (by decide +kernel) rfl
theorem m_627 : (.static ⟨"MoveDesk$Operations", "registerBit", "(I)I"⟩ : Cond) ∈ bw := mw 627 (by decide +kernel) rfl
theorem m_628 : (.code ⟨"MoveDesk$Operations", "registerBit", "(I)I"⟩ prog_6_method_16_code 1 (some .int) : Cond) ∈ bw := mw 628 (by decide +kernel) rfl
theorem m_629 : (.methodLink "MoveDesk$Operations" 52 ⟨"MoveDesk$Operations", "triggerSource", "(I)I"⟩ : Cond) ∈ bw := mw 629 (by decide +kernel) rfl
theorem m_630 : (.instanceMethod ⟨"MoveDesk$Operations", "triggerSource", "(I)I"⟩ : Cond) ∈ bw := mw 630 (by decide +kernel) rfl
theorem m_631 : (.selects "MoveDesk$Operations" ⟨"MoveDesk$Operations", "triggerSource", "(I)I"⟩ ⟨"MoveDesk$Operations", "triggerSource", "(I)I"⟩ : Cond) ∈ bw := mw 631 (by decide +kernel) rfl
theorem m_632 : (.code ⟨"MoveDesk$Operations", "triggerSource", "(I)I"⟩ prog_6_method_12_code 2 (some .int) : Cond) ∈ bw := mw 632 (by decide +kernel) rfl
theorem m_633 : (.methodLink "MoveDesk$Operations" 42 ⟨"MoveDesk$Operations", "isLoad", "(I)Z"⟩ : Cond) ∈ bw := mw 633 (by decide +kernel) rfl
theorem m_634 : (.instanceMethod ⟨"MoveDesk$Operations", "isLoad", "(I)Z"⟩ : Cond) ∈ bw := mw 634 (by decide +kernel) rfl
theorem m_635 : (.selects "MoveDesk$Operations" ⟨"MoveDesk$Operations", "isLoad", "(I)Z"⟩ ⟨"MoveDesk$Operations", "isLoad", "(I)Z"⟩ : Cond) ∈ bw := mw 635 (by decide +kernel) rfl
theorem m_636 : (.code ⟨"MoveDesk$Operations", "isLoad", "(I)Z"⟩ prog_6_method_8_code 2 (some .boolean) : Cond) ∈ bw := mw 636 (by decide +kernel) rfl
theorem m_799 : (.methodLink "MoveDesk$Operations" 55 ⟨"java/lang/System", "arraycopy", "(Ljava/lang/Object;ILjava/lang/Object;II)V"⟩ : Cond) ∈ bw := mw 799 (by decide +kernel) rfl
theorem m_800 : (.static ⟨"java/lang/System", "arraycopy", "(Ljava/lang/Object;ILjava/lang/Object;II)V"⟩ : Cond) ∈ bw := mw 800 (by decide +kernel) rfl
theorem m_801 : (.native ⟨"java/lang/System", "arraycopy", "(Ljava/lang/Object;ILjava/lang/Object;II)V"⟩ : Cond) ∈ bw := mw 801 (by decide +kernel) rfl
theorem m_802 : (.methodLink "MoveDesk$Operations" 61 ⟨"MoveDesk$Operations", "perform", "(I)V"⟩ : Cond) ∈ bw := mw 802 (by decide +kernel) rfl
theorem m_804 : (.instanceMethod ⟨"MoveDesk$Operations", "perform", "(I)V"⟩ : Cond) ∈ bw := mw 804 (by decide +kernel) rfl
theorem m_805 : (.code ⟨"MoveDesk$Operations", "perform", "(I)V"⟩ prog_6_method_18_code 4 none : Cond) ∈ bw := mw 805 (by decide +kernel) rfl
theorem m_806 : (.methodLink "MoveDesk$Operations" 65 ⟨"MoveDesk$Operations", "valueOf", "(II)I"⟩ : Cond) ∈ bw := mw 806 (by decide +kernel) rfl
theorem m_808 : (.instanceMethod ⟨"MoveDesk$Operations", "valueOf", "(II)I"⟩ : Cond) ∈ bw := mw 808 (by decide +kernel) rfl
theorem m_809 : (.code ⟨"MoveDesk$Operations", "valueOf", "(II)I"⟩ prog_6_method_19_code 3 (some .int) : Cond) ∈ bw := mw 809 (by decide +kernel) rfl
abbrev w_op (g : GT) (a_op : Nat) (a_ki : Nat) (a_tg : Nat) (a_fi : Nat) (a_se : Nat) (a_oc : Nat) (a_cp : Nat) (r_op : Nat → Int32) : va_W := [kO a_op 4 [.ref a_ki, .ref a_tg, .ref a_fi, .ref a_se, .ref a_oc, .ref a_cp, .int (r_op 6)]]
abbrev b_Op_mayBe : ByteArray := prog_6_method_2_code
abbrev y_Op_mayBe : MethodName := ⟨"MoveDesk$Operations", "mayBe", "(IIII)Z"⟩
theorem hd_Op_mayBe : y_Op_mayBe.cls = "MoveDesk$Operations" ∧ y_Op_mayBe.cls ≠ "java/lang/invoke/MethodHandle" ∧ y_Op_mayBe.cls ≠ "java/lang/invoke/VarHandle" ∧ (parseMethodDescriptor y_Op_mayBe.desc).map (fun d => d.parameters.length) = some 4 := by decide +kernel
theorem d_Op_mayBe_0 : decode b_Op_mayBe 0 = .ok (.iload_n 1, 1) := by decide +kernel
theorem d_Op_mayBe_1 : decode b_Op_mayBe 1 = .ok (.iconst 4, 1) := by decide +kernel
theorem d_Op_mayBe_2 : decode b_Op_mayBe 2 = .ok (.invokestatic 30, 3) := by decide +kernel
theorem d_Op_mayBe_5 : decode b_Op_mayBe 5 = .ok (.ifCond .eq 53, 3) := by decide +kernel
theorem d_Op_mayBe_8 : decode b_Op_mayBe 8 = .ok (.iload_n 2, 1) := by decide +kernel
theorem d_Op_mayBe_9 : decode b_Op_mayBe 9 = .ok (.iload_n 1, 1) := by decide +kernel
theorem d_Op_mayBe_10 : decode b_Op_mayBe 10 = .ok (.iconst 4, 1) := by decide +kernel
theorem d_Op_mayBe_11 : decode b_Op_mayBe 11 = .ok (.if_icmp .ne 7, 3) := by decide +kernel
theorem d_Op_mayBe_14 : decode b_Op_mayBe 14 = .ok (.iconst 0, 1) := by decide +kernel
theorem d_Op_mayBe_15 : decode b_Op_mayBe 15 = .ok (.goto 5, 3) := by decide +kernel
theorem d_Op_mayBe_18 : decode b_Op_mayBe 18 = .ok (.bipush 7, 2) := by decide +kernel
theorem d_Op_mayBe_20 : decode b_Op_mayBe 20 = .ok (.invokestatic 30, 3) := by decide +kernel
theorem d_Op_mayBe_23 : decode b_Op_mayBe 23 = .ok (.ifCond .eq 35, 3) := by decide +kernel
theorem d_Op_mayBe_26 : decode b_Op_mayBe 26 = .ok (.iload_n 3, 1) := by decide +kernel
theorem d_Op_mayBe_27 : decode b_Op_mayBe 27 = .ok (.bipush 8, 2) := by decide +kernel
theorem d_Op_mayBe_29 : decode b_Op_mayBe 29 = .ok (.invokestatic 30, 3) := by decide +kernel
theorem d_Op_mayBe_32 : decode b_Op_mayBe 32 = .ok (.ifCond .eq 26, 3) := by decide +kernel
theorem d_Op_mayBe_35 : decode b_Op_mayBe 35 = .ok (.iload 4, 2) := by decide +kernel
theorem d_Op_mayBe_37 : decode b_Op_mayBe 37 = .ok (.iload_n 1, 1) := by decide +kernel
theorem d_Op_mayBe_38 : decode b_Op_mayBe 38 = .ok (.iconst 3, 1) := by decide +kernel
theorem d_Op_mayBe_39 : decode b_Op_mayBe 39 = .ok (.if_icmp .ne 7, 3) := by decide +kernel
theorem d_Op_mayBe_42 : decode b_Op_mayBe 42 = .ok (.iconst 0, 1) := by decide +kernel
theorem d_Op_mayBe_43 : decode b_Op_mayBe 43 = .ok (.goto 5, 3) := by decide +kernel
theorem d_Op_mayBe_46 : decode b_Op_mayBe 46 = .ok (.bipush 8, 2) := by decide +kernel
theorem d_Op_mayBe_48 : decode b_Op_mayBe 48 = .ok (.invokestatic 30, 3) := by decide +kernel
theorem d_Op_mayBe_51 : decode b_Op_mayBe 51 = .ok (.ifCond .eq 7, 3) := by decide +kernel
theorem d_Op_mayBe_54 : decode b_Op_mayBe 54 = .ok (.iconst 1, 1) := by decide +kernel
theorem d_Op_mayBe_55 : decode b_Op_mayBe 55 = .ok (.goto 4, 3) := by decide +kernel
theorem d_Op_mayBe_58 : decode b_Op_mayBe 58 = .ok (.iconst 0, 1) := by decide +kernel
theorem d_Op_mayBe_59 : decode b_Op_mayBe 59 = .ok (.ireturn, 1) := by decide +kernel
abbrev b_Op_count : ByteArray := prog_6_method_3_code
abbrev y_Op_count : MethodName := ⟨"MoveDesk$Operations", "count", "()I"⟩
theorem hd_Op_count : y_Op_count.cls = "MoveDesk$Operations" ∧ y_Op_count.cls ≠ "java/lang/invoke/MethodHandle" ∧ y_Op_count.cls ≠ "java/lang/invoke/VarHandle" ∧ (parseMethodDescriptor y_Op_count.desc).map (fun d => d.parameters.length) = some 0 := by decide +kernel
theorem d_Op_count_0 : decode b_Op_count 0 = .ok (.aload_n 0, 1) := by decide +kernel
theorem d_Op_count_1 : decode b_Op_count 1 = .ok (.getfield 34, 3) := by decide +kernel
theorem d_Op_count_4 : decode b_Op_count 4 = .ok (.ireturn, 1) := by decide +kernel
abbrev w_op_ki_tg_fi_se_oc (g : GT) (a_op : Nat) (a_ki : Nat) (a_tg : Nat) (a_fi : Nat) (a_se : Nat) (a_oc : Nat) (a_cp : Nat) (r_op : Nat → Int32) (r_ki : Nat → Int32) (r_tg : Nat → Int32) (r_fi : Nat → Int32) (r_se : Nat → Int32) (r_oc : Nat → Int32) : va_W := [kO a_op 4 [.ref a_ki, .ref a_tg, .ref a_fi, .ref a_se, .ref a_oc, .ref a_cp, .int (r_op 6)], kI g a_ki 20 r_ki, kI g a_tg 20 r_tg, kI g a_fi 20 r_fi, kI g a_se 20 r_se, kI g a_oc 20 r_oc]
abbrev b_Op_append : ByteArray := prog_6_method_4_code
abbrev y_Op_append : MethodName := ⟨"MoveDesk$Operations", "append", "(IIIII)V"⟩
theorem hd_Op_append : y_Op_append.cls = "MoveDesk$Operations" ∧ y_Op_append.cls ≠ "java/lang/invoke/MethodHandle" ∧ y_Op_append.cls ≠ "java/lang/invoke/VarHandle" ∧ (parseMethodDescriptor y_Op_append.desc).map (fun d => d.parameters.length) = some 5 := by decide +kernel
theorem d_Op_append_0 : decode b_Op_append 0 = .ok (.aload_n 0, 1) := by decide +kernel
theorem d_Op_append_1 : decode b_Op_append 1 = .ok (.getfield 9, 3) := by decide +kernel
theorem d_Op_append_4 : decode b_Op_append 4 = .ok (.aload_n 0, 1) := by decide +kernel
theorem d_Op_append_5 : decode b_Op_append 5 = .ok (.getfield 34, 3) := by decide +kernel
theorem d_Op_append_8 : decode b_Op_append 8 = .ok (.iload_n 1, 1) := by decide +kernel
theorem d_Op_append_9 : decode b_Op_append 9 = .ok (.iastore, 1) := by decide +kernel
theorem d_Op_append_10 : decode b_Op_append 10 = .ok (.aload_n 0, 1) := by decide +kernel
theorem d_Op_append_11 : decode b_Op_append 11 = .ok (.getfield 15, 3) := by decide +kernel
theorem d_Op_append_14 : decode b_Op_append 14 = .ok (.aload_n 0, 1) := by decide +kernel
theorem d_Op_append_15 : decode b_Op_append 15 = .ok (.getfield 34, 3) := by decide +kernel
theorem d_Op_append_18 : decode b_Op_append 18 = .ok (.iload_n 2, 1) := by decide +kernel
theorem d_Op_append_19 : decode b_Op_append 19 = .ok (.iastore, 1) := by decide +kernel
theorem d_Op_append_20 : decode b_Op_append 20 = .ok (.aload_n 0, 1) := by decide +kernel
theorem d_Op_append_21 : decode b_Op_append 21 = .ok (.getfield 18, 3) := by decide +kernel
theorem d_Op_append_24 : decode b_Op_append 24 = .ok (.aload_n 0, 1) := by decide +kernel
theorem d_Op_append_25 : decode b_Op_append 25 = .ok (.getfield 34, 3) := by decide +kernel
theorem d_Op_append_28 : decode b_Op_append 28 = .ok (.iload_n 3, 1) := by decide +kernel
theorem d_Op_append_29 : decode b_Op_append 29 = .ok (.iastore, 1) := by decide +kernel
theorem d_Op_append_30 : decode b_Op_append 30 = .ok (.aload_n 0, 1) := by decide +kernel
theorem d_Op_append_31 : decode b_Op_append 31 = .ok (.getfield 21, 3) := by decide +kernel
theorem d_Op_append_34 : decode b_Op_append 34 = .ok (.aload_n 0, 1) := by decide +kernel
theorem d_Op_append_35 : decode b_Op_append 35 = .ok (.getfield 34, 3) := by decide +kernel
theorem d_Op_append_38 : decode b_Op_append 38 = .ok (.iload 4, 2) := by decide +kernel
theorem d_Op_append_40 : decode b_Op_append 40 = .ok (.iastore, 1) := by decide +kernel
theorem d_Op_append_41 : decode b_Op_append 41 = .ok (.aload_n 0, 1) := by decide +kernel
theorem d_Op_append_42 : decode b_Op_append 42 = .ok (.getfield 24, 3) := by decide +kernel
theorem d_Op_append_45 : decode b_Op_append 45 = .ok (.aload_n 0, 1) := by decide +kernel
theorem d_Op_append_46 : decode b_Op_append 46 = .ok (.getfield 34, 3) := by decide +kernel
theorem d_Op_append_49 : decode b_Op_append 49 = .ok (.iload 5, 2) := by decide +kernel
theorem d_Op_append_51 : decode b_Op_append 51 = .ok (.iastore, 1) := by decide +kernel
theorem d_Op_append_52 : decode b_Op_append 52 = .ok (.aload_n 0, 1) := by decide +kernel
theorem d_Op_append_53 : decode b_Op_append 53 = .ok (.dup, 1) := by decide +kernel
theorem d_Op_append_54 : decode b_Op_append 54 = .ok (.getfield 34, 3) := by decide +kernel
theorem d_Op_append_57 : decode b_Op_append 57 = .ok (.iconst 1, 1) := by decide +kernel
theorem d_Op_append_58 : decode b_Op_append 58 = .ok (.iadd, 1) := by decide +kernel
theorem d_Op_append_59 : decode b_Op_append 59 = .ok (.putfield 34, 3) := by decide +kernel
theorem d_Op_append_62 : decode b_Op_append 62 = .ok (.return_, 1) := by decide +kernel
abbrev b_Op_drop : ByteArray := prog_6_method_5_code
abbrev y_Op_drop : MethodName := ⟨"MoveDesk$Operations", "drop", "()I"⟩
theorem hd_Op_drop : y_Op_drop.cls = "MoveDesk$Operations" ∧ y_Op_drop.cls ≠ "java/lang/invoke/MethodHandle" ∧ y_Op_drop.cls ≠ "java/lang/invoke/VarHandle" ∧ (parseMethodDescriptor y_Op_drop.desc).map (fun d => d.parameters.length) = some 0 := by decide +kernel
theorem d_Op_drop_0 : decode b_Op_drop 0 = .ok (.aload_n 0, 1) := by decide +kernel
theorem d_Op_drop_1 : decode b_Op_drop 1 = .ok (.getfield 34, 3) := by decide +kernel
theorem d_Op_drop_4 : decode b_Op_drop 4 = .ok (.istore_n 1, 1) := by decide +kernel
theorem d_Op_drop_5 : decode b_Op_drop 5 = .ok (.aload_n 0, 1) := by decide +kernel
theorem d_Op_drop_6 : decode b_Op_drop 6 = .ok (.iconst 0, 1) := by decide +kernel
theorem d_Op_drop_7 : decode b_Op_drop 7 = .ok (.putfield 34, 3) := by decide +kernel
theorem d_Op_drop_10 : decode b_Op_drop 10 = .ok (.iload_n 1, 1) := by decide +kernel
theorem d_Op_drop_11 : decode b_Op_drop 11 = .ok (.ireturn, 1) := by decide +kernel
abbrev w_op_ki (g : GT) (a_op : Nat) (a_ki : Nat) (a_tg : Nat) (a_fi : Nat) (a_se : Nat) (a_oc : Nat) (a_cp : Nat) (r_op : Nat → Int32) (r_ki : Nat → Int32) : va_W := [kO a_op 4 [.ref a_ki, .ref a_tg, .ref a_fi, .ref a_se, .ref a_oc, .ref a_cp, .int (r_op 6)], kI g a_ki 20 r_ki]
abbrev b_Op_unit : ByteArray := prog_6_method_6_code
abbrev y_Op_unit : MethodName := ⟨"MoveDesk$Operations", "unit", "(I)I"⟩
theorem hd_Op_unit : y_Op_unit.cls = "MoveDesk$Operations" ∧ y_Op_unit.cls ≠ "java/lang/invoke/MethodHandle" ∧ y_Op_unit.cls ≠ "java/lang/invoke/VarHandle" ∧ (parseMethodDescriptor y_Op_unit.desc).map (fun d => d.parameters.length) = some 1 := by decide +kernel
theorem d_Op_unit_0 : decode b_Op_unit 0 = .ok (.aload_n 0, 1) := by decide +kernel
theorem d_Op_unit_1 : decode b_Op_unit 1 = .ok (.getfield 9, 3) := by decide +kernel
theorem d_Op_unit_4 : decode b_Op_unit 4 = .ok (.iload_n 1, 1) := by decide +kernel
theorem d_Op_unit_5 : decode b_Op_unit 5 = .ok (.iaload, 1) := by decide +kernel
theorem d_Op_unit_6 : decode b_Op_unit 6 = .ok (.iconst 2, 1) := by decide +kernel
theorem d_Op_unit_7 : decode b_Op_unit 7 = .ok (.if_icmp .ge 5, 3) := by decide +kernel
theorem d_Op_unit_10 : decode b_Op_unit 10 = .ok (.iconst 0, 1) := by decide +kernel
theorem d_Op_unit_11 : decode b_Op_unit 11 = .ok (.ireturn, 1) := by decide +kernel
theorem d_Op_unit_12 : decode b_Op_unit 12 = .ok (.aload_n 0, 1) := by decide +kernel
theorem d_Op_unit_13 : decode b_Op_unit 13 = .ok (.getfield 9, 3) := by decide +kernel
theorem d_Op_unit_16 : decode b_Op_unit 16 = .ok (.iload_n 1, 1) := by decide +kernel
theorem d_Op_unit_17 : decode b_Op_unit 17 = .ok (.iaload, 1) := by decide +kernel
theorem d_Op_unit_18 : decode b_Op_unit 18 = .ok (.iconst 2, 1) := by decide +kernel
theorem d_Op_unit_19 : decode b_Op_unit 19 = .ok (.if_icmp .ne 7, 3) := by decide +kernel
theorem d_Op_unit_22 : decode b_Op_unit 22 = .ok (.iconst 1, 1) := by decide +kernel
theorem d_Op_unit_23 : decode b_Op_unit 23 = .ok (.goto 4, 3) := by decide +kernel
theorem d_Op_unit_26 : decode b_Op_unit 26 = .ok (.iconst 2, 1) := by decide +kernel
theorem d_Op_unit_27 : decode b_Op_unit 27 = .ok (.ireturn, 1) := by decide +kernel
abbrev b_Op_trigger : ByteArray := prog_6_method_7_code
abbrev y_Op_trigger : MethodName := ⟨"MoveDesk$Operations", "trigger", "(I)I"⟩
theorem hd_Op_trigger : y_Op_trigger.cls = "MoveDesk$Operations" ∧ y_Op_trigger.cls ≠ "java/lang/invoke/MethodHandle" ∧ y_Op_trigger.cls ≠ "java/lang/invoke/VarHandle" ∧ (parseMethodDescriptor y_Op_trigger.desc).map (fun d => d.parameters.length) = some 1 := by decide +kernel
theorem d_Op_trigger_0 : decode b_Op_trigger 0 = .ok (.bipush 11, 2) := by decide +kernel
theorem d_Op_trigger_2 : decode b_Op_trigger 2 = .ok (.aload_n 0, 1) := by decide +kernel
theorem d_Op_trigger_3 : decode b_Op_trigger 3 = .ok (.getfield 9, 3) := by decide +kernel
theorem d_Op_trigger_6 : decode b_Op_trigger 6 = .ok (.iload_n 1, 1) := by decide +kernel
theorem d_Op_trigger_7 : decode b_Op_trigger 7 = .ok (.iaload, 1) := by decide +kernel
theorem d_Op_trigger_8 : decode b_Op_trigger 8 = .ok (.iadd, 1) := by decide +kernel
theorem d_Op_trigger_9 : decode b_Op_trigger 9 = .ok (.ireturn, 1) := by decide +kernel
abbrev b_Op_isLoad : ByteArray := prog_6_method_8_code
abbrev y_Op_isLoad : MethodName := ⟨"MoveDesk$Operations", "isLoad", "(I)Z"⟩
theorem hd_Op_isLoad : y_Op_isLoad.cls = "MoveDesk$Operations" ∧ y_Op_isLoad.cls ≠ "java/lang/invoke/MethodHandle" ∧ y_Op_isLoad.cls ≠ "java/lang/invoke/VarHandle" ∧ (parseMethodDescriptor y_Op_isLoad.desc).map (fun d => d.parameters.length) = some 1 := by decide +kernel
theorem d_Op_isLoad_0 : decode b_Op_isLoad 0 = .ok (.aload_n 0, 1) := by decide +kernel
theorem d_Op_isLoad_1 : decode b_Op_isLoad 1 = .ok (.getfield 9, 3) := by decide +kernel
theorem d_Op_isLoad_4 : decode b_Op_isLoad 4 = .ok (.iload_n 1, 1) := by decide +kernel
theorem d_Op_isLoad_5 : decode b_Op_isLoad 5 = .ok (.iaload, 1) := by decide +kernel
theorem d_Op_isLoad_6 : decode b_Op_isLoad 6 = .ok (.iconst 3, 1) := by decide +kernel
theorem d_Op_isLoad_7 : decode b_Op_isLoad 7 = .ok (.if_icmp .ne 7, 3) := by decide +kernel
theorem d_Op_isLoad_10 : decode b_Op_isLoad 10 = .ok (.iconst 1, 1) := by decide +kernel
theorem d_Op_isLoad_11 : decode b_Op_isLoad 11 = .ok (.goto 4, 3) := by decide +kernel
theorem d_Op_isLoad_14 : decode b_Op_isLoad 14 = .ok (.iconst 0, 1) := by decide +kernel
theorem d_Op_isLoad_15 : decode b_Op_isLoad 15 = .ok (.ireturn, 1) := by decide +kernel
abbrev b_Op_isStore : ByteArray := prog_6_method_9_code
abbrev y_Op_isStore : MethodName := ⟨"MoveDesk$Operations", "isStore", "(I)Z"⟩
theorem hd_Op_isStore : y_Op_isStore.cls = "MoveDesk$Operations" ∧ y_Op_isStore.cls ≠ "java/lang/invoke/MethodHandle" ∧ y_Op_isStore.cls ≠ "java/lang/invoke/VarHandle" ∧ (parseMethodDescriptor y_Op_isStore.desc).map (fun d => d.parameters.length) = some 1 := by decide +kernel
theorem d_Op_isStore_0 : decode b_Op_isStore 0 = .ok (.aload_n 0, 1) := by decide +kernel
theorem d_Op_isStore_1 : decode b_Op_isStore 1 = .ok (.getfield 9, 3) := by decide +kernel
theorem d_Op_isStore_4 : decode b_Op_isStore 4 = .ok (.iload_n 1, 1) := by decide +kernel
theorem d_Op_isStore_5 : decode b_Op_isStore 5 = .ok (.iaload, 1) := by decide +kernel
theorem d_Op_isStore_6 : decode b_Op_isStore 6 = .ok (.iconst 4, 1) := by decide +kernel
theorem d_Op_isStore_7 : decode b_Op_isStore 7 = .ok (.if_icmp .ne 7, 3) := by decide +kernel
theorem d_Op_isStore_10 : decode b_Op_isStore 10 = .ok (.iconst 1, 1) := by decide +kernel
theorem d_Op_isStore_11 : decode b_Op_isStore 11 = .ok (.goto 4, 3) := by decide +kernel
theorem d_Op_isStore_14 : decode b_Op_isStore 14 = .ok (.iconst 0, 1) := by decide +kernel
theorem d_Op_isStore_15 : decode b_Op_isStore 15 = .ok (.ireturn, 1) := by decide +kernel
abbrev w_op_tg (g : GT) (a_op : Nat) (a_ki : Nat) (a_tg : Nat) (a_fi : Nat) (a_se : Nat) (a_oc : Nat) (a_cp : Nat) (r_op : Nat → Int32) (r_tg : Nat → Int32) : va_W := [kO a_op 4 [.ref a_ki, .ref a_tg, .ref a_fi, .ref a_se, .ref a_oc, .ref a_cp, .int (r_op 6)], kI g a_tg 20 r_tg]
abbrev b_Op_target : ByteArray := prog_6_method_10_code
abbrev y_Op_target : MethodName := ⟨"MoveDesk$Operations", "target", "(I)I"⟩
theorem hd_Op_target : y_Op_target.cls = "MoveDesk$Operations" ∧ y_Op_target.cls ≠ "java/lang/invoke/MethodHandle" ∧ y_Op_target.cls ≠ "java/lang/invoke/VarHandle" ∧ (parseMethodDescriptor y_Op_target.desc).map (fun d => d.parameters.length) = some 1 := by decide +kernel
theorem d_Op_target_0 : decode b_Op_target 0 = .ok (.aload_n 0, 1) := by decide +kernel
theorem d_Op_target_1 : decode b_Op_target 1 = .ok (.getfield 15, 3) := by decide +kernel
theorem d_Op_target_4 : decode b_Op_target 4 = .ok (.iload_n 1, 1) := by decide +kernel
theorem d_Op_target_5 : decode b_Op_target 5 = .ok (.iaload, 1) := by decide +kernel
theorem d_Op_target_6 : decode b_Op_target 6 = .ok (.ireturn, 1) := by decide +kernel
abbrev b_Op_sourceOf : ByteArray := prog_6_method_15_code
abbrev y_Op_sourceOf : MethodName := ⟨"MoveDesk$Operations", "sourceOf", "(I)I"⟩
theorem hs_Op_sourceOf : y_Op_sourceOf.cls ≠ "java/lang/invoke/MethodHandle" ∧ y_Op_sourceOf.cls ≠ "java/lang/invoke/VarHandle" ∧ (parseMethodDescriptor y_Op_sourceOf.desc).map (fun d => d.parameters.length) = some 1 := by decide +kernel
theorem d_Op_sourceOf_0 : decode b_Op_sourceOf 0 = .ok (.iload_n 0, 1) := by decide +kernel
theorem d_Op_sourceOf_1 : decode b_Op_sourceOf 1 = .ok (.bipush 8, 2) := by decide +kernel
theorem d_Op_sourceOf_3 : decode b_Op_sourceOf 3 = .ok (.if_icmp .ne 8, 3) := by decide +kernel
theorem d_Op_sourceOf_6 : decode b_Op_sourceOf 6 = .ok (.bipush 11, 2) := by decide +kernel
theorem d_Op_sourceOf_8 : decode b_Op_sourceOf 8 = .ok (.goto 4, 3) := by decide +kernel
theorem d_Op_sourceOf_11 : decode b_Op_sourceOf 11 = .ok (.iload_n 0, 1) := by decide +kernel
theorem d_Op_sourceOf_12 : decode b_Op_sourceOf 12 = .ok (.ireturn, 1) := by decide +kernel
abbrev w_op_fi (g : GT) (a_op : Nat) (a_ki : Nat) (a_tg : Nat) (a_fi : Nat) (a_se : Nat) (a_oc : Nat) (a_cp : Nat) (r_op : Nat → Int32) (r_fi : Nat → Int32) : va_W := [kO a_op 4 [.ref a_ki, .ref a_tg, .ref a_fi, .ref a_se, .ref a_oc, .ref a_cp, .int (r_op 6)], kI g a_fi 20 r_fi]
abbrev b_Op_firstSource : ByteArray := prog_6_method_11_code
abbrev y_Op_firstSource : MethodName := ⟨"MoveDesk$Operations", "firstSource", "(I)I"⟩
theorem hd_Op_firstSource : y_Op_firstSource.cls = "MoveDesk$Operations" ∧ y_Op_firstSource.cls ≠ "java/lang/invoke/MethodHandle" ∧ y_Op_firstSource.cls ≠ "java/lang/invoke/VarHandle" ∧ (parseMethodDescriptor y_Op_firstSource.desc).map (fun d => d.parameters.length) = some 1 := by decide +kernel
theorem d_Op_firstSource_0 : decode b_Op_firstSource 0 = .ok (.aload_n 0, 1) := by decide +kernel
theorem d_Op_firstSource_1 : decode b_Op_firstSource 1 = .ok (.getfield 18, 3) := by decide +kernel
theorem d_Op_firstSource_4 : decode b_Op_firstSource 4 = .ok (.iload_n 1, 1) := by decide +kernel
theorem d_Op_firstSource_5 : decode b_Op_firstSource 5 = .ok (.iaload, 1) := by decide +kernel
theorem d_Op_firstSource_6 : decode b_Op_firstSource 6 = .ok (.invokestatic 38, 3) := by decide +kernel
theorem d_Op_firstSource_9 : decode b_Op_firstSource 9 = .ok (.ireturn, 1) := by decide +kernel
abbrev w_op_ki_fi_se (g : GT) (a_op : Nat) (a_ki : Nat) (a_tg : Nat) (a_fi : Nat) (a_se : Nat) (a_oc : Nat) (a_cp : Nat) (r_op : Nat → Int32) (r_ki : Nat → Int32) (r_fi : Nat → Int32) (r_se : Nat → Int32) : va_W := [kO a_op 4 [.ref a_ki, .ref a_tg, .ref a_fi, .ref a_se, .ref a_oc, .ref a_cp, .int (r_op 6)], kI g a_ki 20 r_ki, kI g a_fi 20 r_fi, kI g a_se 20 r_se]
abbrev b_Op_triggerSource : ByteArray := prog_6_method_12_code
abbrev y_Op_triggerSource : MethodName := ⟨"MoveDesk$Operations", "triggerSource", "(I)I"⟩
theorem hd_Op_triggerSource : y_Op_triggerSource.cls = "MoveDesk$Operations" ∧ y_Op_triggerSource.cls ≠ "java/lang/invoke/MethodHandle" ∧ y_Op_triggerSource.cls ≠ "java/lang/invoke/VarHandle" ∧ (parseMethodDescriptor y_Op_triggerSource.desc).map (fun d => d.parameters.length) = some 1 := by decide +kernel
theorem d_Op_triggerSource_0 : decode b_Op_triggerSource 0 = .ok (.aload_n 0, 1) := by decide +kernel
theorem d_Op_triggerSource_1 : decode b_Op_triggerSource 1 = .ok (.iload_n 1, 1) := by decide +kernel
theorem d_Op_triggerSource_2 : decode b_Op_triggerSource 2 = .ok (.invokevirtual 42, 3) := by decide +kernel
theorem d_Op_triggerSource_5 : decode b_Op_triggerSource 5 = .ok (.ifCond .eq 12, 3) := by decide +kernel
theorem d_Op_triggerSource_8 : decode b_Op_triggerSource 8 = .ok (.aload_n 0, 1) := by decide +kernel
theorem d_Op_triggerSource_9 : decode b_Op_triggerSource 9 = .ok (.getfield 18, 3) := by decide +kernel
theorem d_Op_triggerSource_12 : decode b_Op_triggerSource 12 = .ok (.iload_n 1, 1) := by decide +kernel
theorem d_Op_triggerSource_13 : decode b_Op_triggerSource 13 = .ok (.iaload, 1) := by decide +kernel
theorem d_Op_triggerSource_14 : decode b_Op_triggerSource 14 = .ok (.goto 9, 3) := by decide +kernel
theorem d_Op_triggerSource_17 : decode b_Op_triggerSource 17 = .ok (.aload_n 0, 1) := by decide +kernel
theorem d_Op_triggerSource_18 : decode b_Op_triggerSource 18 = .ok (.getfield 21, 3) := by decide +kernel
theorem d_Op_triggerSource_21 : decode b_Op_triggerSource 21 = .ok (.iload_n 1, 1) := by decide +kernel
theorem d_Op_triggerSource_22 : decode b_Op_triggerSource 22 = .ok (.iaload, 1) := by decide +kernel
theorem d_Op_triggerSource_23 : decode b_Op_triggerSource 23 = .ok (.invokestatic 38, 3) := by decide +kernel
theorem d_Op_triggerSource_26 : decode b_Op_triggerSource 26 = .ok (.ireturn, 1) := by decide +kernel
abbrev w_op_oc (g : GT) (a_op : Nat) (a_ki : Nat) (a_tg : Nat) (a_fi : Nat) (a_se : Nat) (a_oc : Nat) (a_cp : Nat) (r_op : Nat → Int32) (r_oc : Nat → Int32) : va_W := [kO a_op 4 [.ref a_ki, .ref a_tg, .ref a_fi, .ref a_se, .ref a_oc, .ref a_cp, .int (r_op 6)], kI g a_oc 20 r_oc]
abbrev b_Op_constantFor : ByteArray := prog_6_method_13_code
abbrev y_Op_constantFor : MethodName := ⟨"MoveDesk$Operations", "constantFor", "(II)I"⟩
theorem hd_Op_constantFor : y_Op_constantFor.cls = "MoveDesk$Operations" ∧ y_Op_constantFor.cls ≠ "java/lang/invoke/MethodHandle" ∧ y_Op_constantFor.cls ≠ "java/lang/invoke/VarHandle" ∧ (parseMethodDescriptor y_Op_constantFor.desc).map (fun d => d.parameters.length) = some 2 := by decide +kernel
theorem d_Op_constantFor_0 : decode b_Op_constantFor 0 = .ok (.iload_n 2, 1) := by decide +kernel
theorem d_Op_constantFor_1 : decode b_Op_constantFor 1 = .ok (.bipush 11, 2) := by decide +kernel
theorem d_Op_constantFor_3 : decode b_Op_constantFor 3 = .ok (.if_icmp .ne 12, 3) := by decide +kernel
theorem d_Op_constantFor_6 : decode b_Op_constantFor 6 = .ok (.aload_n 0, 1) := by decide +kernel
theorem d_Op_constantFor_7 : decode b_Op_constantFor 7 = .ok (.getfield 24, 3) := by decide +kernel
theorem d_Op_constantFor_10 : decode b_Op_constantFor 10 = .ok (.iload_n 1, 1) := by decide +kernel
theorem d_Op_constantFor_11 : decode b_Op_constantFor 11 = .ok (.iaload, 1) := by decide +kernel
theorem d_Op_constantFor_12 : decode b_Op_constantFor 12 = .ok (.goto 4, 3) := by decide +kernel
theorem d_Op_constantFor_15 : decode b_Op_constantFor 15 = .ok (.iconst 0, 1) := by decide +kernel
theorem d_Op_constantFor_16 : decode b_Op_constantFor 16 = .ok (.ireturn, 1) := by decide +kernel
abbrev b_Op_registerBit : ByteArray := prog_6_method_16_code
abbrev y_Op_registerBit : MethodName := ⟨"MoveDesk$Operations", "registerBit", "(I)I"⟩
theorem hs_Op_registerBit : y_Op_registerBit.cls ≠ "java/lang/invoke/MethodHandle" ∧ y_Op_registerBit.cls ≠ "java/lang/invoke/VarHandle" ∧ (parseMethodDescriptor y_Op_registerBit.desc).map (fun d => d.parameters.length) = some 1 := by decide +kernel
theorem d_Op_registerBit_0 : decode b_Op_registerBit 0 = .ok (.iload_n 0, 1) := by decide +kernel
theorem d_Op_registerBit_1 : decode b_Op_registerBit 1 = .ok (.bipush 8, 2) := by decide +kernel
theorem d_Op_registerBit_3 : decode b_Op_registerBit 3 = .ok (.if_icmp .ge 9, 3) := by decide +kernel
theorem d_Op_registerBit_6 : decode b_Op_registerBit 6 = .ok (.iconst 1, 1) := by decide +kernel
theorem d_Op_registerBit_7 : decode b_Op_registerBit 7 = .ok (.iload_n 0, 1) := by decide +kernel
theorem d_Op_registerBit_8 : decode b_Op_registerBit 8 = .ok (.ishl, 1) := by decide +kernel
theorem d_Op_registerBit_9 : decode b_Op_registerBit 9 = .ok (.goto 4, 3) := by decide +kernel
theorem d_Op_registerBit_12 : decode b_Op_registerBit 12 = .ok (.iconst 0, 1) := by decide +kernel
theorem d_Op_registerBit_13 : decode b_Op_registerBit 13 = .ok (.ireturn, 1) := by decide +kernel
abbrev b_Op_registersRead : ByteArray := prog_6_method_14_code
abbrev y_Op_registersRead : MethodName := ⟨"MoveDesk$Operations", "registersRead", "(I)I"⟩
theorem hd_Op_registersRead : y_Op_registersRead.cls = "MoveDesk$Operations" ∧ y_Op_registersRead.cls ≠ "java/lang/invoke/MethodHandle" ∧ y_Op_registersRead.cls ≠ "java/lang/invoke/VarHandle" ∧ (parseMethodDescriptor y_Op_registersRead.desc).map (fun d => d.parameters.length) = some 1 := by decide +kernel
theorem d_Op_registersRead_0 : decode b_Op_registersRead 0 = .ok (.aload_n 0, 1) := by decide +kernel
theorem d_Op_registersRead_1 : decode b_Op_registersRead 1 = .ok (.iload_n 1, 1) := by decide +kernel
theorem d_Op_registersRead_2 : decode b_Op_registersRead 2 = .ok (.invokevirtual 46, 3) := by decide +kernel
theorem d_Op_registersRead_5 : decode b_Op_registersRead 5 = .ok (.invokestatic 49, 3) := by decide +kernel
theorem d_Op_registersRead_8 : decode b_Op_registersRead 8 = .ok (.aload_n 0, 1) := by decide +kernel
theorem d_Op_registersRead_9 : decode b_Op_registersRead 9 = .ok (.iload_n 1, 1) := by decide +kernel
theorem d_Op_registersRead_10 : decode b_Op_registersRead 10 = .ok (.invokevirtual 52, 3) := by decide +kernel
theorem d_Op_registersRead_13 : decode b_Op_registersRead 13 = .ok (.invokestatic 49, 3) := by decide +kernel
theorem d_Op_registersRead_16 : decode b_Op_registersRead 16 = .ok (.ior, 1) := by decide +kernel
theorem d_Op_registersRead_17 : decode b_Op_registersRead 17 = .ok (.ireturn, 1) := by decide +kernel
abbrev w_op_cp (g : GT) (a_op : Nat) (a_ki : Nat) (a_tg : Nat) (a_fi : Nat) (a_se : Nat) (a_oc : Nat) (a_cp : Nat) (r_op : Nat → Int32) (r_cp : Nat → Int32) : va_W := [kO a_op 4 [.ref a_ki, .ref a_tg, .ref a_fi, .ref a_se, .ref a_oc, .ref a_cp, .int (r_op 6)], kI g a_cp 72 r_cp]
abbrev b_Op_valueOf : ByteArray := prog_6_method_19_code
abbrev y_Op_valueOf : MethodName := ⟨"MoveDesk$Operations", "valueOf", "(II)I"⟩
theorem hd_Op_valueOf : y_Op_valueOf.cls = "MoveDesk$Operations" ∧ y_Op_valueOf.cls ≠ "java/lang/invoke/MethodHandle" ∧ y_Op_valueOf.cls ≠ "java/lang/invoke/VarHandle" ∧ (parseMethodDescriptor y_Op_valueOf.desc).map (fun d => d.parameters.length) = some 2 := by decide +kernel
theorem d_Op_valueOf_0 : decode b_Op_valueOf 0 = .ok (.iload_n 1, 1) := by decide +kernel
theorem d_Op_valueOf_1 : decode b_Op_valueOf 1 = .ok (.bipush 8, 2) := by decide +kernel
theorem d_Op_valueOf_3 : decode b_Op_valueOf 3 = .ok (.if_icmp .ne 7, 3) := by decide +kernel
theorem d_Op_valueOf_6 : decode b_Op_valueOf 6 = .ok (.iload_n 2, 1) := by decide +kernel
theorem d_Op_valueOf_7 : decode b_Op_valueOf 7 = .ok (.goto 9, 3) := by decide +kernel
theorem d_Op_valueOf_10 : decode b_Op_valueOf 10 = .ok (.aload_n 0, 1) := by decide +kernel
theorem d_Op_valueOf_11 : decode b_Op_valueOf 11 = .ok (.getfield 27, 3) := by decide +kernel
theorem d_Op_valueOf_14 : decode b_Op_valueOf 14 = .ok (.iload_n 1, 1) := by decide +kernel
theorem d_Op_valueOf_15 : decode b_Op_valueOf 15 = .ok (.iaload, 1) := by decide +kernel
theorem d_Op_valueOf_16 : decode b_Op_valueOf 16 = .ok (.ireturn, 1) := by decide +kernel
abbrev w_op_7_27ce (g : GT) (a_op : Nat) (a_ki : Nat) (a_tg : Nat) (a_fi : Nat) (a_se : Nat) (a_oc : Nat) (a_cp : Nat) (r_op : Nat → Int32) (r_ki : Nat → Int32) (r_tg : Nat → Int32) (r_fi : Nat → Int32) (r_se : Nat → Int32) (r_oc : Nat → Int32) (r_cp : Nat → Int32) : va_W := [kO a_op 4 [.ref a_ki, .ref a_tg, .ref a_fi, .ref a_se, .ref a_oc, .ref a_cp, .int (r_op 6)], kI g a_ki 20 r_ki, kI g a_tg 20 r_tg, kI g a_fi 20 r_fi, kI g a_se 20 r_se, kI g a_oc 20 r_oc, kI g a_cp 72 r_cp]
abbrev b_Op_perform : ByteArray := prog_6_method_18_code
abbrev y_Op_perform : MethodName := ⟨"MoveDesk$Operations", "perform", "(I)V"⟩
theorem hd_Op_perform : y_Op_perform.cls = "MoveDesk$Operations" ∧ y_Op_perform.cls ≠ "java/lang/invoke/MethodHandle" ∧ y_Op_perform.cls ≠ "java/lang/invoke/VarHandle" ∧ (parseMethodDescriptor y_Op_perform.desc).map (fun d => d.parameters.length) = some 1 := by decide +kernel
theorem d_Op_perform_0 : decode b_Op_perform 0 = .ok (.aload_n 0, 1) := by decide +kernel
theorem d_Op_perform_1 : decode b_Op_perform 1 = .ok (.aload_n 0, 1) := by decide +kernel
theorem d_Op_perform_2 : decode b_Op_perform 2 = .ok (.getfield 18, 3) := by decide +kernel
theorem d_Op_perform_5 : decode b_Op_perform 5 = .ok (.iload_n 1, 1) := by decide +kernel
theorem d_Op_perform_6 : decode b_Op_perform 6 = .ok (.iaload, 1) := by decide +kernel
theorem d_Op_perform_7 : decode b_Op_perform 7 = .ok (.aload_n 0, 1) := by decide +kernel
theorem d_Op_perform_8 : decode b_Op_perform 8 = .ok (.getfield 24, 3) := by decide +kernel
theorem d_Op_perform_11 : decode b_Op_perform 11 = .ok (.iload_n 1, 1) := by decide +kernel
theorem d_Op_perform_12 : decode b_Op_perform 12 = .ok (.iaload, 1) := by decide +kernel
theorem d_Op_perform_13 : decode b_Op_perform 13 = .ok (.invokevirtual 65, 3) := by decide +kernel
theorem d_Op_perform_16 : decode b_Op_perform 16 = .ok (.istore_n 2, 1) := by decide +kernel
theorem d_Op_perform_17 : decode b_Op_perform 17 = .ok (.aload_n 0, 1) := by decide +kernel
theorem d_Op_perform_18 : decode b_Op_perform 18 = .ok (.aload_n 0, 1) := by decide +kernel
theorem d_Op_perform_19 : decode b_Op_perform 19 = .ok (.getfield 21, 3) := by decide +kernel
theorem d_Op_perform_22 : decode b_Op_perform 22 = .ok (.iload_n 1, 1) := by decide +kernel
theorem d_Op_perform_23 : decode b_Op_perform 23 = .ok (.iaload, 1) := by decide +kernel
theorem d_Op_perform_24 : decode b_Op_perform 24 = .ok (.aload_n 0, 1) := by decide +kernel
theorem d_Op_perform_25 : decode b_Op_perform 25 = .ok (.getfield 24, 3) := by decide +kernel
theorem d_Op_perform_28 : decode b_Op_perform 28 = .ok (.iload_n 1, 1) := by decide +kernel
theorem d_Op_perform_29 : decode b_Op_perform 29 = .ok (.iaload, 1) := by decide +kernel
theorem d_Op_perform_30 : decode b_Op_perform 30 = .ok (.invokevirtual 65, 3) := by decide +kernel
theorem d_Op_perform_33 : decode b_Op_perform 33 = .ok (.istore_n 3, 1) := by decide +kernel
theorem d_Op_perform_34 : decode b_Op_perform 34 = .ok (.aload_n 0, 1) := by decide +kernel
theorem d_Op_perform_35 : decode b_Op_perform 35 = .ok (.getfield 9, 3) := by decide +kernel
theorem d_Op_perform_38 : decode b_Op_perform 38 = .ok (.iload_n 1, 1) := by decide +kernel
theorem d_Op_perform_39 : decode b_Op_perform 39 = .ok (.iaload, 1) := by decide +kernel
theorem d_Op_perform_40 : decode b_Op_perform 40 = .ok (.tableswitch 106 0 3 #[32, 49, 66, 83], 32) := by decide +kernel
theorem d_Op_perform_72 : decode b_Op_perform 72 = .ok (.aload_n 0, 1) := by decide +kernel
theorem d_Op_perform_73 : decode b_Op_perform 73 = .ok (.getfield 27, 3) := by decide +kernel
theorem d_Op_perform_76 : decode b_Op_perform 76 = .ok (.aload_n 0, 1) := by decide +kernel
theorem d_Op_perform_77 : decode b_Op_perform 77 = .ok (.getfield 15, 3) := by decide +kernel
theorem d_Op_perform_80 : decode b_Op_perform 80 = .ok (.iload_n 1, 1) := by decide +kernel
theorem d_Op_perform_81 : decode b_Op_perform 81 = .ok (.iaload, 1) := by decide +kernel
theorem d_Op_perform_82 : decode b_Op_perform 82 = .ok (.iload_n 2, 1) := by decide +kernel
theorem d_Op_perform_83 : decode b_Op_perform 83 = .ok (.iload_n 3, 1) := by decide +kernel
theorem d_Op_perform_84 : decode b_Op_perform 84 = .ok (.iadd, 1) := by decide +kernel
theorem d_Op_perform_85 : decode b_Op_perform 85 = .ok (.iastore, 1) := by decide +kernel
theorem d_Op_perform_86 : decode b_Op_perform 86 = .ok (.goto 70, 3) := by decide +kernel
theorem d_Op_perform_89 : decode b_Op_perform 89 = .ok (.aload_n 0, 1) := by decide +kernel
theorem d_Op_perform_90 : decode b_Op_perform 90 = .ok (.getfield 27, 3) := by decide +kernel
theorem d_Op_perform_93 : decode b_Op_perform 93 = .ok (.aload_n 0, 1) := by decide +kernel
theorem d_Op_perform_94 : decode b_Op_perform 94 = .ok (.getfield 15, 3) := by decide +kernel
theorem d_Op_perform_97 : decode b_Op_perform 97 = .ok (.iload_n 1, 1) := by decide +kernel
theorem d_Op_perform_98 : decode b_Op_perform 98 = .ok (.iaload, 1) := by decide +kernel
theorem d_Op_perform_99 : decode b_Op_perform 99 = .ok (.iload_n 2, 1) := by decide +kernel
theorem d_Op_perform_100 : decode b_Op_perform 100 = .ok (.iload_n 3, 1) := by decide +kernel
theorem d_Op_perform_101 : decode b_Op_perform 101 = .ok (.isub, 1) := by decide +kernel
theorem d_Op_perform_102 : decode b_Op_perform 102 = .ok (.iastore, 1) := by decide +kernel
theorem d_Op_perform_103 : decode b_Op_perform 103 = .ok (.goto 53, 3) := by decide +kernel
theorem d_Op_perform_106 : decode b_Op_perform 106 = .ok (.aload_n 0, 1) := by decide +kernel
theorem d_Op_perform_107 : decode b_Op_perform 107 = .ok (.getfield 27, 3) := by decide +kernel
theorem d_Op_perform_110 : decode b_Op_perform 110 = .ok (.aload_n 0, 1) := by decide +kernel
theorem d_Op_perform_111 : decode b_Op_perform 111 = .ok (.getfield 15, 3) := by decide +kernel
theorem d_Op_perform_114 : decode b_Op_perform 114 = .ok (.iload_n 1, 1) := by decide +kernel
theorem d_Op_perform_115 : decode b_Op_perform 115 = .ok (.iaload, 1) := by decide +kernel
theorem d_Op_perform_116 : decode b_Op_perform 116 = .ok (.iload_n 2, 1) := by decide +kernel
theorem d_Op_perform_117 : decode b_Op_perform 117 = .ok (.iload_n 3, 1) := by decide +kernel
theorem d_Op_perform_118 : decode b_Op_perform 118 = .ok (.imul, 1) := by decide +kernel
theorem d_Op_perform_119 : decode b_Op_perform 119 = .ok (.iastore, 1) := by decide +kernel
theorem d_Op_perform_120 : decode b_Op_perform 120 = .ok (.goto 36, 3) := by decide +kernel
theorem d_Op_perform_123 : decode b_Op_perform 123 = .ok (.aload_n 0, 1) := by decide +kernel
theorem d_Op_perform_124 : decode b_Op_perform 124 = .ok (.getfield 27, 3) := by decide +kernel
theorem d_Op_perform_127 : decode b_Op_perform 127 = .ok (.aload_n 0, 1) := by decide +kernel
theorem d_Op_perform_128 : decode b_Op_perform 128 = .ok (.getfield 15, 3) := by decide +kernel
theorem d_Op_perform_131 : decode b_Op_perform 131 = .ok (.iload_n 1, 1) := by decide +kernel
theorem d_Op_perform_132 : decode b_Op_perform 132 = .ok (.iaload, 1) := by decide +kernel
theorem d_Op_perform_133 : decode b_Op_perform 133 = .ok (.aload_n 0, 1) := by decide +kernel
theorem d_Op_perform_134 : decode b_Op_perform 134 = .ok (.getfield 27, 3) := by decide +kernel
theorem d_Op_perform_137 : decode b_Op_perform 137 = .ok (.iload_n 2, 1) := by decide +kernel
theorem d_Op_perform_138 : decode b_Op_perform 138 = .ok (.invokestatic 69, 3) := by decide +kernel
theorem d_Op_perform_141 : decode b_Op_perform 141 = .ok (.iaload, 1) := by decide +kernel
theorem d_Op_perform_142 : decode b_Op_perform 142 = .ok (.iastore, 1) := by decide +kernel
theorem d_Op_perform_143 : decode b_Op_perform 143 = .ok (.goto 13, 3) := by decide +kernel
theorem d_Op_perform_146 : decode b_Op_perform 146 = .ok (.aload_n 0, 1) := by decide +kernel
theorem d_Op_perform_147 : decode b_Op_perform 147 = .ok (.getfield 27, 3) := by decide +kernel
theorem d_Op_perform_150 : decode b_Op_perform 150 = .ok (.iload_n 2, 1) := by decide +kernel
theorem d_Op_perform_151 : decode b_Op_perform 151 = .ok (.invokestatic 69, 3) := by decide +kernel
theorem d_Op_perform_154 : decode b_Op_perform 154 = .ok (.iload_n 3, 1) := by decide +kernel
theorem d_Op_perform_155 : decode b_Op_perform 155 = .ok (.iastore, 1) := by decide +kernel
theorem d_Op_perform_156 : decode b_Op_perform 156 = .ok (.return_, 1) := by decide +kernel
abbrev w_wo_8_9193 (g : GT) (a_wo : Nat) (a_op : Nat) (a_ki : Nat) (a_tg : Nat) (a_fi : Nat) (a_se : Nat) (a_oc : Nat) (a_cp : Nat) (r_wo : Nat → Int32) (r_op : Nat → Int32) (r_ki : Nat → Int32) (r_tg : Nat → Int32) (r_fi : Nat → Int32) (r_se : Nat → Int32) (r_oc : Nat → Int32) (r_cp : Nat → Int32) : va_W := [kI g a_wo 72 r_wo, kO a_op 4 [.ref a_ki, .ref a_tg, .ref a_fi, .ref a_se, .ref a_oc, .ref a_cp, .int (r_op 6)], kI g a_ki 20 r_ki, kI g a_tg 20 r_tg, kI g a_fi 20 r_fi, kI g a_se 20 r_se, kI g a_oc 20 r_oc, kI g a_cp 72 r_cp]
abbrev b_Op_valueBehind : ByteArray := prog_6_method_17_code
abbrev y_Op_valueBehind : MethodName := ⟨"MoveDesk$Operations", "valueBehind", "([II)I"⟩
theorem hd_Op_valueBehind : y_Op_valueBehind.cls = "MoveDesk$Operations" ∧ y_Op_valueBehind.cls ≠ "java/lang/invoke/MethodHandle" ∧ y_Op_valueBehind.cls ≠ "java/lang/invoke/VarHandle" ∧ (parseMethodDescriptor y_Op_valueBehind.desc).map (fun d => d.parameters.length) = some 2 := by decide +kernel
theorem d_Op_valueBehind_0 : decode b_Op_valueBehind 0 = .ok (.aload_n 1, 1) := by decide +kernel
theorem d_Op_valueBehind_1 : decode b_Op_valueBehind 1 = .ok (.iconst 0, 1) := by decide +kernel
theorem d_Op_valueBehind_2 : decode b_Op_valueBehind 2 = .ok (.aload_n 0, 1) := by decide +kernel
theorem d_Op_valueBehind_3 : decode b_Op_valueBehind 3 = .ok (.getfield 27, 3) := by decide +kernel
theorem d_Op_valueBehind_6 : decode b_Op_valueBehind 6 = .ok (.iconst 0, 1) := by decide +kernel
theorem d_Op_valueBehind_7 : decode b_Op_valueBehind 7 = .ok (.bipush 72, 2) := by decide +kernel
theorem d_Op_valueBehind_9 : decode b_Op_valueBehind 9 = .ok (.invokestatic 55, 3) := by decide +kernel
theorem d_Op_valueBehind_12 : decode b_Op_valueBehind 12 = .ok (.iconst 0, 1) := by decide +kernel
theorem d_Op_valueBehind_13 : decode b_Op_valueBehind 13 = .ok (.istore_n 3, 1) := by decide +kernel
theorem d_Op_valueBehind_14 : decode b_Op_valueBehind 14 = .ok (.iload_n 3, 1) := by decide +kernel
theorem d_Op_valueBehind_15 : decode b_Op_valueBehind 15 = .ok (.aload_n 0, 1) := by decide +kernel
theorem d_Op_valueBehind_16 : decode b_Op_valueBehind 16 = .ok (.getfield 34, 3) := by decide +kernel
theorem d_Op_valueBehind_19 : decode b_Op_valueBehind 19 = .ok (.if_icmp .ge 14, 3) := by decide +kernel
theorem d_Op_valueBehind_22 : decode b_Op_valueBehind 22 = .ok (.aload_n 0, 1) := by decide +kernel
theorem d_Op_valueBehind_23 : decode b_Op_valueBehind 23 = .ok (.iload_n 3, 1) := by decide +kernel
theorem d_Op_valueBehind_24 : decode b_Op_valueBehind 24 = .ok (.invokevirtual 61, 3) := by decide +kernel
theorem d_Op_valueBehind_27 : decode b_Op_valueBehind 27 = .ok (.iinc 3 1, 3) := by decide +kernel
theorem d_Op_valueBehind_30 : decode b_Op_valueBehind 30 = .ok (.goto (-16), 3) := by decide +kernel
theorem d_Op_valueBehind_33 : decode b_Op_valueBehind 33 = .ok (.aload_n 0, 1) := by decide +kernel
theorem d_Op_valueBehind_34 : decode b_Op_valueBehind 34 = .ok (.getfield 27, 3) := by decide +kernel
theorem d_Op_valueBehind_37 : decode b_Op_valueBehind 37 = .ok (.iload_n 2, 1) := by decide +kernel
theorem d_Op_valueBehind_38 : decode b_Op_valueBehind 38 = .ok (.iaload, 1) := by decide +kernel
theorem d_Op_valueBehind_39 : decode b_Op_valueBehind 39 = .ok (.ireturn, 1) := by decide +kernel
def f_Op_mayBe_54 (r_op : Nat → Int32)  : Option (Int32) :=
  some (1)
def f_Op_mayBe_26 (r_op : Nat → Int32) (v1 : Int32) (v3 : Int32) (v4 : Int32) : Option (Int32) :=
  (f_Md_isWithin v3 (8 : Int32)).bind fun y1 =>
  if y1 = 0 then
    some (0)
  else
    if v1 = (3 : Int32) then
      (f_Md_isWithin v4 (0 : Int32)).bind fun y6 =>
      if y6 = 0 then
        some (0)
      else
        f_Op_mayBe_54 r_op
    else
      (f_Md_isWithin v4 (8 : Int32)).bind fun y4 =>
      if y4 = 0 then
        some (0)
      else
        f_Op_mayBe_54 r_op
def f_Op_mayBe (r_op : Nat → Int32) (v1 : Int32) (v2 : Int32) (v3 : Int32) (v4 : Int32) : Option (Int32) :=
  (f_Md_isWithin v1 (4 : Int32)).bind fun y1 =>
  if y1 = 0 then
    some (0)
  else
    if v1 = (4 : Int32) then
      (f_Md_isWithin v2 (0 : Int32)).bind fun y6 =>
      if y6 = 0 then
        some (0)
      else
        f_Op_mayBe_26 r_op v1 v3 v4
    else
      (f_Md_isWithin v2 (7 : Int32)).bind fun y4 =>
      if y4 = 0 then
        some (0)
      else
        f_Op_mayBe_26 r_op v1 v3 v4
def f_Op_count (r_op : Nat → Int32)  : Option (Int32) :=
  some ((r_op 6))
def f_Op_append (r_op : Nat → Int32) (r_ki : Nat → Int32) (r_tg : Nat → Int32) (r_fi : Nat → Int32) (r_se : Nat → Int32) (r_oc : Nat → Int32) (v1 : Int32) (v2 : Int32) (v3 : Int32) (v4 : Int32) (v5 : Int32) : Option ((Nat → Int32) × (Nat → Int32) × (Nat → Int32) × (Nat → Int32) × (Nat → Int32) × (Nat → Int32)) :=
  ck (r_op 6) 20 <|
  ck (r_op 6) 20 <|
  ck (r_op 6) 20 <|
  ck (r_op 6) 20 <|
  ck (r_op 6) 20 <|
  nm ((r_op 6) + (1 : Int32) : Int32) fun x6 =>
  some (upd r_op 6 x6, upd r_ki (r_op 6).toNatClampNeg v1, upd r_tg (r_op 6).toNatClampNeg v2, upd r_fi (r_op 6).toNatClampNeg v3, upd r_se (r_op 6).toNatClampNeg v4, upd r_oc (r_op 6).toNatClampNeg v5)
def f_Op_drop (r_op : Nat → Int32)  : Option (Int32 × (Nat → Int32)) :=
  nm ((r_op 6) : Int32) fun x1 =>
  some (x1, upd r_op 6 0)
def f_Op_unit (r_op : Nat → Int32) (r_ki : Nat → Int32) (v1 : Int32) : Option (Int32) :=
  ck v1 20 <|
  if (2 : Int32) ≤ r_ki v1.toNatClampNeg then
    ck v1 20 <|
    if r_ki v1.toNatClampNeg = (2 : Int32) then
      some (1)
    else
      some (2)
  else
    some (0)
def f_Op_trigger (r_op : Nat → Int32) (r_ki : Nat → Int32) (v1 : Int32) : Option (Int32) :=
  ck v1 20 <|
  some ((11 : Int32) + (r_ki v1.toNatClampNeg))
def f_Op_isLoad (r_op : Nat → Int32) (r_ki : Nat → Int32) (v1 : Int32) : Option (Int32) :=
  ck v1 20 <|
  if r_ki v1.toNatClampNeg = (3 : Int32) then
    some (1)
  else
    some (0)
def f_Op_isStore (r_op : Nat → Int32) (r_ki : Nat → Int32) (v1 : Int32) : Option (Int32) :=
  ck v1 20 <|
  if r_ki v1.toNatClampNeg = (4 : Int32) then
    some (1)
  else
    some (0)
def f_Op_target (r_op : Nat → Int32) (r_tg : Nat → Int32) (v1 : Int32) : Option (Int32) :=
  ck v1 20 <|
  some (r_tg v1.toNatClampNeg)
def f_Op_sourceOf  (v0 : Int32) : Option (Int32) :=
  if v0 = (8 : Int32) then
    some (11)
  else
    some (v0)
def f_Op_firstSource (r_op : Nat → Int32) (r_fi : Nat → Int32) (v1 : Int32) : Option (Int32) :=
  ck v1 20 <|
  (f_Op_sourceOf (r_fi v1.toNatClampNeg)).bind fun y2 =>
  some (y2)
def f_Op_triggerSource (r_op : Nat → Int32) (r_ki : Nat → Int32) (r_fi : Nat → Int32) (r_se : Nat → Int32) (v1 : Int32) : Option (Int32) :=
  (f_Op_isLoad r_op r_ki v1).bind fun y1 =>
  if y1 = 0 then
    ck v1 20 <|
    (f_Op_sourceOf (r_se v1.toNatClampNeg)).bind fun y4 =>
    some (y4)
  else
    ck v1 20 <|
    (f_Op_sourceOf (r_fi v1.toNatClampNeg)).bind fun y6 =>
    some (y6)
def f_Op_constantFor (r_op : Nat → Int32) (r_oc : Nat → Int32) (v1 : Int32) (v2 : Int32) : Option (Int32) :=
  if v2 = (11 : Int32) then
    ck v1 20 <|
    some (r_oc v1.toNatClampNeg)
  else
    some (0)
def f_Op_registerBit  (v0 : Int32) : Option (Int32) :=
  if (8 : Int32) ≤ v0 then
    some (0)
  else
    some ((1 : Int32) <<< (v0 &&& 31))
def f_Op_registersRead (r_op : Nat → Int32) (r_ki : Nat → Int32) (r_fi : Nat → Int32) (r_se : Nat → Int32) (v1 : Int32) : Option (Int32) :=
  (f_Op_firstSource r_op r_fi v1).bind fun y1 =>
  (f_Op_registerBit y1).bind fun y2 =>
  (f_Op_triggerSource r_op r_ki r_fi r_se v1).bind fun y3 =>
  (f_Op_registerBit y3).bind fun y4 =>
  some (y2 ||| y4)
def f_Op_valueOf (r_op : Nat → Int32) (r_cp : Nat → Int32) (v1 : Int32) (v2 : Int32) : Option (Int32) :=
  if v1 = (8 : Int32) then
    some (v2)
  else
    ck v1 72 <|
    some (r_cp v1.toNatClampNeg)
def f_Op_perform (r_op : Nat → Int32) (r_ki : Nat → Int32) (r_tg : Nat → Int32) (r_fi : Nat → Int32) (r_se : Nat → Int32) (r_oc : Nat → Int32) (r_cp : Nat → Int32) (v1 : Int32) : Option ((Nat → Int32)) :=
  ck v1 20 <|
  ck v1 20 <|
  (f_Op_valueOf r_op r_cp (r_fi v1.toNatClampNeg) (r_oc v1.toNatClampNeg)).bind fun y3 =>
  ck v1 20 <|
  ck v1 20 <|
  (f_Op_valueOf r_op r_cp (r_se v1.toNatClampNeg) (r_oc v1.toNatClampNeg)).bind fun y6 =>
  ck v1 20 <|
  nm (r_ki v1.toNatClampNeg : Int32) fun x8 =>
  if x8 = 0 then
    ck v1 20 <|
    ck (r_tg v1.toNatClampNeg) 72 <|
    some (upd r_cp (r_tg v1.toNatClampNeg).toNatClampNeg (y3 + y6))
  else
    if x8 = 1 then
      ck v1 20 <|
      ck (r_tg v1.toNatClampNeg) 72 <|
      some (upd r_cp (r_tg v1.toNatClampNeg).toNatClampNeg (y3 - y6))
    else
      if x8 = 2 then
        ck v1 20 <|
        ck (r_tg v1.toNatClampNeg) 72 <|
        some (upd r_cp (r_tg v1.toNatClampNeg).toNatClampNeg (y3 * y6))
      else
        if x8 = 3 then
          ck v1 20 <|
          (f_Md_memoryPlace y3).bind fun y20 =>
          ck y20 72 <|
          ck (r_tg v1.toNatClampNeg) 72 <|
          some (upd r_cp (r_tg v1.toNatClampNeg).toNatClampNeg (r_cp y20.toNatClampNeg))
        else
          (f_Md_memoryPlace y3).bind fun y23 =>
          ck y23 72 <|
          some (upd r_cp y23.toNatClampNeg y6)
def f_Op_valueBehind_14 : Nat → (Nat → Int32) → (Nat → Int32) → (Nat → Int32) → (Nat → Int32) → (Nat → Int32) → (Nat → Int32) → (Nat → Int32) → (Nat → Int32) → Int32 → Int32 → Option (Int32 × (Nat → Int32))
  | 0, _, _, _, _, _, _, _, _, _, _ => none
  | n + 1, r_wo, r_op, r_ki, r_tg, r_fi, r_se, r_oc, r_cp, v2, v3 =>
    if (r_op 6) ≤ v3 then
      ck v2 72 <|
      some (r_cp v2.toNatClampNeg, r_cp)
    else
      (f_Op_perform r_op r_ki r_tg r_fi r_se r_oc r_cp v3).bind fun y3 =>
      nm (v3 + 1) fun x4 =>
      f_Op_valueBehind_14 n r_wo r_op r_ki r_tg r_fi r_se r_oc y3 v2 x4
def f_Op_valueBehind (r_wo : Nat → Int32) (r_op : Nat → Int32) (r_ki : Nat → Int32) (r_tg : Nat → Int32) (r_fi : Nat → Int32) (r_se : Nat → Int32) (r_oc : Nat → Int32) (r_cp : Nat → Int32) (v2 : Int32) : Option (Int32 × (Nat → Int32)) :=
  f_Op_valueBehind_14 5000 r_wo r_op r_ki r_tg r_fi r_se r_oc (va_cpy r_wo r_cp (0 : Int32).toNatClampNeg (0 : Int32).toNatClampNeg (72 : Int32).toNatClampNeg) v2 0
abbrev rm_Op_mayBe : Room := { frames := 1, cells := 0, slots := 0, locals := 21 }
set_option maxHeartbeats 4000000 in
set_option maxRecDepth 100000 in
theorem wl_Op_mayBe_54 {p : Program} {l : Launch} {e : Env} {s : State} {m : MethodId} {args : Array Value} {below : List Frame} {meth : Method} {c : Code} {A : Nat → Prop} {g : GT} {a_op : Nat} {a_ki : Nat} {a_tg : Nat} {a_fi : Nat} {a_se : Nat} {a_oc : Nat} {a_cp : Nat} {y : Int32} (M : MX p s m args meth c b_Op_mayBe 5 (some .boolean) "MoveDesk$Operations" g A) : ∀ (r_op : Nat → Int32)  (H : Heap) (locs : List Loc) (ls : Array Slot), some y = f_Op_mayBe_54 r_op → va_P g.1 classes (w_op g a_op a_ki a_tg a_fi a_se a_oc a_cp r_op) H → va_D A (w_op g a_op a_ki a_tg a_fi a_se a_oc a_cp r_op) → va_S A s.heap H locs → lv_has ls 5 [] → W p l e rm_Op_mayBe s m args below meth c H locs 0 0 (MQ below (QW g (some (.int y)) (w_op g a_op a_ki a_tg a_fi a_se a_oc a_cp r_op) A) args s 0 0 A) (F0 m 54 ls []) := by
  obtain ⟨hx, hb, hr, hml, hown, hts, hlocks, hA, hK, hG⟩ := id M
  intro r_op H locs ls hE hP hD hS hl
  rw [f_Op_mayBe_54] at hE
  refine lv_iconst (v := 1) hx hb d_Op_mayBe_54 (by decide) ?_
  refine lv_goto (tgt := 59) hx hb d_Op_mayBe_55 (by decide) ?_
  have hE := Option.some.inj hE
  rw [hE]
  exact W.zret (v := 1) (ty := .boolean) hx hb hr rfl (fun t ht hW => ⟨⟨rfl, by rw [ht]; exact hP, va_K.moved hW.alike hK, hD⟩, hS.F ht⟩) hS.2.2 d_Op_mayBe_59 hlocks
set_option maxHeartbeats 4000000 in
set_option maxRecDepth 100000 in
theorem wl_Op_mayBe_26 {p : Program} {l : Launch} {e : Env} {s : State} {m : MethodId} {args : Array Value} {below : List Frame} {meth : Method} {c : Code} {A : Nat → Prop} {g : GT} {a_op : Nat} {a_ki : Nat} {a_tg : Nat} {a_fi : Nat} {a_se : Nat} {a_oc : Nat} {a_cp : Nat} {y : Int32} (M : MX p s m args meth c b_Op_mayBe 5 (some .boolean) "MoveDesk$Operations" g A) : ∀ (r_op : Nat → Int32) (v1 : Int32) (v3 : Int32) (v4 : Int32) (H : Heap) (locs : List Loc) (ls : Array Slot), some y = f_Op_mayBe_26 r_op v1 v3 v4 → va_P g.1 classes (w_op g a_op a_ki a_tg a_fi a_se a_oc a_cp r_op) H → va_D A (w_op g a_op a_ki a_tg a_fi a_se a_oc a_cp r_op) → va_S A s.heap H locs → lv_has ls 5 [(1, .int v1), (3, .int v3), (4, .int v4)] → W p l e rm_Op_mayBe s m args below meth c H locs 0 0 (MQ below (QW g (some (.int y)) (w_op g a_op a_ki a_tg a_fi a_se a_oc a_cp r_op) A) args s 0 0 A) (F0 m 26 ls []) := by
  obtain ⟨hx, hb, hr, hml, hown, hts, hlocks, hA, hK, hG⟩ := id M
  intro r_op v1 v3 v4 H locs ls hE hP hD hS hl
  rw [f_Op_mayBe_26] at hE
  refine lv_iload_n hx hb d_Op_mayBe_26 rfl (lv_at hl 1 rfl) ?_
  refine lv_bipush (v := 8) hx hb d_Op_mayBe_27 (by decide) ?_
  obtain ⟨y1, hy1, hE⟩ := bd_at hE
  refine kSN (index := 30) (As := [.int v3, .int 8]) (rest := []) (ws2 := (w_op g a_op a_ki a_tg a_fi a_se a_oc a_cp r_op)) M hP hD hS hl.1 (c_Md_isWithin l g   v3 (8 : Int32) y1 hy1) nw_566 m_521 m_1 m_522 hs_Md_isWithin rfl rfl rfl ⟨by decide, by decide⟩ ⟨by decide, by decide⟩ [] [0] [0] rfl rfl rfl rfl (by decide) rfl rfl rfl (Nat.le_of_ble_eq_true rfl) d_Op_mayBe_29 (fun H locs hP hD hS => ?_)
  refine W.eq (g2 := F0 m 32 ls [.int y1]) rfl ?_
  refine lv_if_eq (tgt := 58) hx hb d_Op_mayBe_32 (by decide) (fun c2 => ?_) (fun c2 => ?_)
  · have hE := it_t hE c2
    refine lv_iconst (v := 0) hx hb d_Op_mayBe_58 (by decide) ?_
    have hE := Option.some.inj hE
    rw [hE]
    exact W.zret (v := 0) (ty := .boolean) hx hb hr rfl (fun t ht hW => ⟨⟨rfl, by rw [ht]; exact hP, va_K.moved hW.alike hK, hD⟩, hS.F ht⟩) hS.2.2 d_Op_mayBe_59 hlocks
  · have hE := it_f hE c2
    refine lv_iload hx hb d_Op_mayBe_35 (lv_at hl 2 rfl) ?_
    refine lv_iload_n hx hb d_Op_mayBe_37 rfl (lv_at hl 0 rfl) ?_
    refine lv_iconst (v := 3) hx hb d_Op_mayBe_38 (by decide) ?_
    refine lv_icmp_ne (tgt := 46) hx hb d_Op_mayBe_39 (by decide) (fun c3 => ?_) (fun c3 => ?_)
    · have hE := it_f hE c3
      refine lv_bipush (v := 8) hx hb d_Op_mayBe_46 (by decide) ?_
      obtain ⟨y4, hy4, hE⟩ := bd_at hE
      refine kSN (index := 30) (As := [.int v4, .int 8]) (rest := []) (ws2 := (w_op g a_op a_ki a_tg a_fi a_se a_oc a_cp r_op)) M hP hD hS hl.1 (c_Md_isWithin l g   v4 (8 : Int32) y4 hy4) nw_566 m_521 m_1 m_522 hs_Md_isWithin rfl rfl rfl ⟨by decide, by decide⟩ ⟨by decide, by decide⟩ [] [0] [0] rfl rfl rfl rfl (by decide) rfl rfl rfl (Nat.le_of_ble_eq_true rfl) d_Op_mayBe_48 (fun H locs hP hD hS => ?_)
      refine W.eq (g2 := F0 m 51 ls [.int y4]) rfl ?_
      refine lv_if_eq (tgt := 58) hx hb d_Op_mayBe_51 (by decide) (fun c5 => ?_) (fun c5 => ?_)
      · have hE := it_t hE c5
        refine lv_iconst (v := 0) hx hb d_Op_mayBe_58 (by decide) ?_
        have hE := Option.some.inj hE
        rw [hE]
        exact W.zret (v := 0) (ty := .boolean) hx hb hr rfl (fun t ht hW => ⟨⟨rfl, by rw [ht]; exact hP, va_K.moved hW.alike hK, hD⟩, hS.F ht⟩) hS.2.2 d_Op_mayBe_59 hlocks
      · have hE := it_f hE c5
        exact wl_Op_mayBe_54 M _ _ _ _ hE hP hD hS (lv_sub hl [] rfl)
    · have hE := it_t hE c3
      refine lv_iconst (v := 0) hx hb d_Op_mayBe_42 (by decide) ?_
      refine lv_goto (tgt := 48) hx hb d_Op_mayBe_43 (by decide) ?_
      obtain ⟨y6, hy6, hE⟩ := bd_at hE
      refine kSN (index := 30) (As := [.int v4, .int 0]) (rest := []) (ws2 := (w_op g a_op a_ki a_tg a_fi a_se a_oc a_cp r_op)) M hP hD hS hl.1 (c_Md_isWithin l g   v4 (0 : Int32) y6 hy6) nw_566 m_521 m_1 m_522 hs_Md_isWithin rfl rfl rfl ⟨by decide, by decide⟩ ⟨by decide, by decide⟩ [] [0] [0] rfl rfl rfl rfl (by decide) rfl rfl rfl (Nat.le_of_ble_eq_true rfl) d_Op_mayBe_48 (fun H locs hP hD hS => ?_)
      refine W.eq (g2 := F0 m 51 ls [.int y6]) rfl ?_
      refine lv_if_eq (tgt := 58) hx hb d_Op_mayBe_51 (by decide) (fun c7 => ?_) (fun c7 => ?_)
      · have hE := it_t hE c7
        refine lv_iconst (v := 0) hx hb d_Op_mayBe_58 (by decide) ?_
        have hE := Option.some.inj hE
        rw [hE]
        exact W.zret (v := 0) (ty := .boolean) hx hb hr rfl (fun t ht hW => ⟨⟨rfl, by rw [ht]; exact hP, va_K.moved hW.alike hK, hD⟩, hS.F ht⟩) hS.2.2 d_Op_mayBe_59 hlocks
      · have hE := it_f hE c7
        exact wl_Op_mayBe_54 M _ _ _ _ hE hP hD hS (lv_sub hl [] rfl)
set_option maxHeartbeats 4000000 in
set_option maxRecDepth 100000 in
theorem c_Op_mayBe (l : Launch) (g : GT) (a_op : Nat) (a_ki : Nat) (a_tg : Nat) (a_fi : Nat) (a_se : Nat) (a_oc : Nat) (a_cp : Nat) (r_op : Nat → Int32) (v1 : Int32) (v2 : Int32) (v3 : Int32) (v4 : Int32) (y : Int32) (hy : some y = f_Op_mayBe r_op v1 v2 v3 v4) : Ct l y_Op_mayBe (.code y_Op_mayBe b_Op_mayBe 5 (some .boolean)) rm_Op_mayBe g [.ref a_op, .int v1, .int v2, .int v3, .int v4] (w_op g a_op a_ki a_tg a_fi a_se a_oc a_cp r_op) (w_op g a_op a_ki a_tg a_fi a_se a_oc a_cp r_op) (some (.int y)) := by
  refine ct_in (C := "MoveDesk$Operations") rfl (by decide) (Nat.le_of_ble_eq_true rfl) (fun p e s m below meth c A ls M hP hD hS hl => ?_)
  obtain ⟨hx, hb, hr, hml, hown, hts, hlocks, hA, hK, hG⟩ := id M
  have hl : lv_has ls 5 [(0, .ref a_op), (1, .int v1), (2, .int v2), (3, .int v3), (4, .int v4)] := hl
  have hE := hy
  rw [f_Op_mayBe] at hE
  refine lv_iload_n hx hb d_Op_mayBe_0 rfl (lv_at hl 1 rfl) ?_
  refine lv_iconst (v := 4) hx hb d_Op_mayBe_1 (by decide) ?_
  obtain ⟨y1, hy1, hE⟩ := bd_at hE
  refine kSN (index := 30) (As := [.int v1, .int 4]) (rest := []) (ws2 := (w_op g a_op a_ki a_tg a_fi a_se a_oc a_cp r_op)) M hP hD hS hl.1 (c_Md_isWithin l g   v1 (4 : Int32) y1 hy1) nw_566 m_521 m_1 m_522 hs_Md_isWithin rfl rfl rfl ⟨by decide, by decide⟩ ⟨by decide, by decide⟩ [] [0] [0] rfl rfl rfl rfl (by decide) rfl rfl rfl (Nat.le_of_ble_eq_true rfl) d_Op_mayBe_2 (fun H locs hP hD hS => ?_)
  refine W.eq (g2 := F0 m 5 ls [.int y1]) rfl ?_
  refine lv_if_eq (tgt := 58) hx hb d_Op_mayBe_5 (by decide) (fun c2 => ?_) (fun c2 => ?_)
  · have hE := it_t hE c2
    refine lv_iconst (v := 0) hx hb d_Op_mayBe_58 (by decide) ?_
    have hE := Option.some.inj hE
    rw [hE]
    exact W.zret (v := 0) (ty := .boolean) hx hb hr rfl (fun t ht hW => ⟨⟨rfl, by rw [ht]; exact hP, va_K.moved hW.alike hK, hD⟩, hS.F ht⟩) hS.2.2 d_Op_mayBe_59 hlocks
  · have hE := it_f hE c2
    refine lv_iload_n hx hb d_Op_mayBe_8 rfl (lv_at hl 2 rfl) ?_
    refine lv_iload_n hx hb d_Op_mayBe_9 rfl (lv_at hl 1 rfl) ?_
    refine lv_iconst (v := 4) hx hb d_Op_mayBe_10 (by decide) ?_
    refine lv_icmp_ne (tgt := 18) hx hb d_Op_mayBe_11 (by decide) (fun c3 => ?_) (fun c3 => ?_)
    · have hE := it_f hE c3
      refine lv_bipush (v := 7) hx hb d_Op_mayBe_18 (by decide) ?_
      obtain ⟨y4, hy4, hE⟩ := bd_at hE
      refine kSN (index := 30) (As := [.int v2, .int 7]) (rest := []) (ws2 := (w_op g a_op a_ki a_tg a_fi a_se a_oc a_cp r_op)) M hP hD hS hl.1 (c_Md_isWithin l g   v2 (7 : Int32) y4 hy4) nw_566 m_521 m_1 m_522 hs_Md_isWithin rfl rfl rfl ⟨by decide, by decide⟩ ⟨by decide, by decide⟩ [] [0] [0] rfl rfl rfl rfl (by decide) rfl rfl rfl (Nat.le_of_ble_eq_true rfl) d_Op_mayBe_20 (fun H locs hP hD hS => ?_)
      refine W.eq (g2 := F0 m 23 ls [.int y4]) rfl ?_
      refine lv_if_eq (tgt := 58) hx hb d_Op_mayBe_23 (by decide) (fun c5 => ?_) (fun c5 => ?_)
      · have hE := it_t hE c5
        refine lv_iconst (v := 0) hx hb d_Op_mayBe_58 (by decide) ?_
        have hE := Option.some.inj hE
        rw [hE]
        exact W.zret (v := 0) (ty := .boolean) hx hb hr rfl (fun t ht hW => ⟨⟨rfl, by rw [ht]; exact hP, va_K.moved hW.alike hK, hD⟩, hS.F ht⟩) hS.2.2 d_Op_mayBe_59 hlocks
      · have hE := it_f hE c5
        exact wl_Op_mayBe_26 M _ _ _ _ _ _ _ hE hP hD hS (lv_sub hl [1, 3, 4] rfl)
    · have hE := it_t hE c3
      refine lv_iconst (v := 0) hx hb d_Op_mayBe_14 (by decide) ?_
      refine lv_goto (tgt := 20) hx hb d_Op_mayBe_15 (by decide) ?_
      obtain ⟨y6, hy6, hE⟩ := bd_at hE
      refine kSN (index := 30) (As := [.int v2, .int 0]) (rest := []) (ws2 := (w_op g a_op a_ki a_tg a_fi a_se a_oc a_cp r_op)) M hP hD hS hl.1 (c_Md_isWithin l g   v2 (0 : Int32) y6 hy6) nw_566 m_521 m_1 m_522 hs_Md_isWithin rfl rfl rfl ⟨by decide, by decide⟩ ⟨by decide, by decide⟩ [] [0] [0] rfl rfl rfl rfl (by decide) rfl rfl rfl (Nat.le_of_ble_eq_true rfl) d_Op_mayBe_20 (fun H locs hP hD hS => ?_)
      refine W.eq (g2 := F0 m 23 ls [.int y6]) rfl ?_
      refine lv_if_eq (tgt := 58) hx hb d_Op_mayBe_23 (by decide) (fun c7 => ?_) (fun c7 => ?_)
      · have hE := it_t hE c7
        refine lv_iconst (v := 0) hx hb d_Op_mayBe_58 (by decide) ?_
        have hE := Option.some.inj hE
        rw [hE]
        exact W.zret (v := 0) (ty := .boolean) hx hb hr rfl (fun t ht hW => ⟨⟨rfl, by rw [ht]; exact hP, va_K.moved hW.alike hK, hD⟩, hS.F ht⟩) hS.2.2 d_Op_mayBe_59 hlocks
      · have hE := it_f hE c7
        exact wl_Op_mayBe_26 M _ _ _ _ _ _ _ hE hP hD hS (lv_sub hl [1, 3, 4] rfl)
abbrev rm_Op_count : Room := { frames := 0, cells := 0, slots := 0, locals := 0 }
set_option maxHeartbeats 4000000 in
set_option maxRecDepth 100000 in
theorem c_Op_count (l : Launch) (g : GT) (a_op : Nat) (a_ki : Nat) (a_tg : Nat) (a_fi : Nat) (a_se : Nat) (a_oc : Nat) (a_cp : Nat) (r_op : Nat → Int32)  (y : Int32) (hy : some y = f_Op_count r_op) : Ct l y_Op_count (.code y_Op_count b_Op_count 1 (some .int)) rm_Op_count g [.ref a_op] (w_op g a_op a_ki a_tg a_fi a_se a_oc a_cp r_op) (w_op g a_op a_ki a_tg a_fi a_se a_oc a_cp r_op) (some (.int y)) := by
  refine ct_in (C := "MoveDesk$Operations") rfl (by decide) (Nat.le_of_ble_eq_true rfl) (fun p e s m below meth c A ls M hP hD hS hl => ?_)
  obtain ⟨hx, hb, hr, hml, hown, hts, hlocks, hA, hK, hG⟩ := id M
  have hl : lv_has ls 1 [(0, .ref a_op)] := hl
  have hE := hy
  rw [f_Op_count] at hE
  refine lv_aload_n hx hb d_Op_count_0 rfl (lv_at hl 0 rfl) ?_
  refine va_get (D := g.1) (ci := 4) (v := .int (r_op 6)) (C := "MoveDesk$Operations") (T := F_Op) (N := 7) hx hb hts i_Op hown hK hP 0 rfl rfl 6 (by decide) (hts _ m_164) (fun _ h9 => h9) rfl d_Op_count_1 ?_
  have hE := Option.some.inj hE
  rw [hE]
  exact W.iret (v := (r_op 6)) hx hb hr (fun t ht hW => ⟨⟨rfl, by rw [ht]; exact hP, va_K.moved hW.alike hK, hD⟩, hS.F ht⟩) hS.2.2 d_Op_count_4 hlocks
abbrev rm_Op_append : Room := { frames := 0, cells := 0, slots := 0, locals := 0 }
set_option maxHeartbeats 4000000 in
set_option maxRecDepth 100000 in
theorem c_Op_append (l : Launch) (g : GT) (a_op : Nat) (a_ki : Nat) (a_tg : Nat) (a_fi : Nat) (a_se : Nat) (a_oc : Nat) (a_cp : Nat) (r_op : Nat → Int32) (r_ki : Nat → Int32) (r_tg : Nat → Int32) (r_fi : Nat → Int32) (r_se : Nat → Int32) (r_oc : Nat → Int32) (v1 : Int32) (v2 : Int32) (v3 : Int32) (v4 : Int32) (v5 : Int32) (y : (Nat → Int32) × (Nat → Int32) × (Nat → Int32) × (Nat → Int32) × (Nat → Int32) × (Nat → Int32)) (hy : some y = f_Op_append r_op r_ki r_tg r_fi r_se r_oc v1 v2 v3 v4 v5) : Ct l y_Op_append (.code y_Op_append b_Op_append 6 none) rm_Op_append g [.ref a_op, .int v1, .int v2, .int v3, .int v4, .int v5] (w_op_ki_tg_fi_se_oc g a_op a_ki a_tg a_fi a_se a_oc a_cp r_op r_ki r_tg r_fi r_se r_oc) (w_op_ki_tg_fi_se_oc g a_op a_ki a_tg a_fi a_se a_oc a_cp y.1 y.2.1 y.2.2.1 y.2.2.2.1 y.2.2.2.2.1 y.2.2.2.2.2) none := by
  refine ct_in (C := "MoveDesk$Operations") rfl (by decide) (Nat.le_of_ble_eq_true rfl) (fun p e s m below meth c A ls M hP hD hS hl => ?_)
  obtain ⟨hx, hb, hr, hml, hown, hts, hlocks, hA, hK, hG⟩ := id M
  have hl : lv_has ls 6 [(0, .ref a_op), (1, .int v1), (2, .int v2), (3, .int v3), (4, .int v4), (5, .int v5)] := hl
  have hE := hy
  rw [f_Op_append] at hE
  refine lv_aload_n hx hb d_Op_append_0 rfl (lv_at hl 0 rfl) ?_
  refine va_get (D := g.1) (ci := 4) (v := .ref a_ki) (C := "MoveDesk$Operations") (T := F_Op) (N := 7) hx hb hts i_Op hown hK hP 0 rfl rfl 0 (by decide) (hts _ m_158) (fun _ h9 => h9) rfl d_Op_append_1 ?_
  refine lv_aload_n hx hb d_Op_append_4 rfl (lv_at hl 0 rfl) ?_
  refine va_get (D := g.1) (ci := 4) (v := .int (r_op 6)) (C := "MoveDesk$Operations") (T := F_Op) (N := 7) hx hb hts i_Op hown hK hP 0 rfl rfl 6 (by decide) (hts _ m_164) (fun _ h9 => h9) rfl d_Op_append_5 ?_
  refine lv_iload_n hx hb d_Op_append_8 rfl (lv_at hl 1 rfl) ?_
  have ⟨h1, hE⟩ := ck_at hE
  refine va_iast hx hb hK hP hD hS 1 0 rfl rfl h1 d_Op_append_9 (fun H locs hP hD hS => ?_)
  have hP : va_P g.1 classes (w_op_ki_tg_fi_se_oc g a_op a_ki a_tg a_fi a_se a_oc a_cp r_op (upd r_ki (r_op 6).toNatClampNeg v1) r_tg r_fi r_se r_oc) H := hP
  have hD : va_D A (w_op_ki_tg_fi_se_oc g a_op a_ki a_tg a_fi a_se a_oc a_cp r_op (upd r_ki (r_op 6).toNatClampNeg v1) r_tg r_fi r_se r_oc) := hD
  refine lv_aload_n hx hb d_Op_append_10 rfl (lv_at hl 0 rfl) ?_
  refine va_get (D := g.1) (ci := 4) (v := .ref a_tg) (C := "MoveDesk$Operations") (T := F_Op) (N := 7) hx hb hts i_Op hown hK hP 0 rfl rfl 1 (by decide) (hts _ m_159) (fun _ h9 => h9) rfl d_Op_append_11 ?_
  refine lv_aload_n hx hb d_Op_append_14 rfl (lv_at hl 0 rfl) ?_
  refine va_get (D := g.1) (ci := 4) (v := .int (r_op 6)) (C := "MoveDesk$Operations") (T := F_Op) (N := 7) hx hb hts i_Op hown hK hP 0 rfl rfl 6 (by decide) (hts _ m_164) (fun _ h9 => h9) rfl d_Op_append_15 ?_
  refine lv_iload_n hx hb d_Op_append_18 rfl (lv_at hl 2 rfl) ?_
  have ⟨h2, hE⟩ := ck_at hE
  refine va_iast hx hb hK hP hD hS 2 0 rfl rfl h2 d_Op_append_19 (fun H locs hP hD hS => ?_)
  have hP : va_P g.1 classes (w_op_ki_tg_fi_se_oc g a_op a_ki a_tg a_fi a_se a_oc a_cp r_op (upd r_ki (r_op 6).toNatClampNeg v1) (upd r_tg (r_op 6).toNatClampNeg v2) r_fi r_se r_oc) H := hP
  have hD : va_D A (w_op_ki_tg_fi_se_oc g a_op a_ki a_tg a_fi a_se a_oc a_cp r_op (upd r_ki (r_op 6).toNatClampNeg v1) (upd r_tg (r_op 6).toNatClampNeg v2) r_fi r_se r_oc) := hD
  refine lv_aload_n hx hb d_Op_append_20 rfl (lv_at hl 0 rfl) ?_
  refine va_get (D := g.1) (ci := 4) (v := .ref a_fi) (C := "MoveDesk$Operations") (T := F_Op) (N := 7) hx hb hts i_Op hown hK hP 0 rfl rfl 2 (by decide) (hts _ m_160) (fun _ h9 => h9) rfl d_Op_append_21 ?_
  refine lv_aload_n hx hb d_Op_append_24 rfl (lv_at hl 0 rfl) ?_
  refine va_get (D := g.1) (ci := 4) (v := .int (r_op 6)) (C := "MoveDesk$Operations") (T := F_Op) (N := 7) hx hb hts i_Op hown hK hP 0 rfl rfl 6 (by decide) (hts _ m_164) (fun _ h9 => h9) rfl d_Op_append_25 ?_
  refine lv_iload_n hx hb d_Op_append_28 rfl (lv_at hl 3 rfl) ?_
  have ⟨h3, hE⟩ := ck_at hE
  refine va_iast hx hb hK hP hD hS 3 0 rfl rfl h3 d_Op_append_29 (fun H locs hP hD hS => ?_)
  have hP : va_P g.1 classes (w_op_ki_tg_fi_se_oc g a_op a_ki a_tg a_fi a_se a_oc a_cp r_op (upd r_ki (r_op 6).toNatClampNeg v1) (upd r_tg (r_op 6).toNatClampNeg v2) (upd r_fi (r_op 6).toNatClampNeg v3) r_se r_oc) H := hP
  have hD : va_D A (w_op_ki_tg_fi_se_oc g a_op a_ki a_tg a_fi a_se a_oc a_cp r_op (upd r_ki (r_op 6).toNatClampNeg v1) (upd r_tg (r_op 6).toNatClampNeg v2) (upd r_fi (r_op 6).toNatClampNeg v3) r_se r_oc) := hD
  refine lv_aload_n hx hb d_Op_append_30 rfl (lv_at hl 0 rfl) ?_
  refine va_get (D := g.1) (ci := 4) (v := .ref a_se) (C := "MoveDesk$Operations") (T := F_Op) (N := 7) hx hb hts i_Op hown hK hP 0 rfl rfl 3 (by decide) (hts _ m_161) (fun _ h9 => h9) rfl d_Op_append_31 ?_
  refine lv_aload_n hx hb d_Op_append_34 rfl (lv_at hl 0 rfl) ?_
  refine va_get (D := g.1) (ci := 4) (v := .int (r_op 6)) (C := "MoveDesk$Operations") (T := F_Op) (N := 7) hx hb hts i_Op hown hK hP 0 rfl rfl 6 (by decide) (hts _ m_164) (fun _ h9 => h9) rfl d_Op_append_35 ?_
  refine lv_iload hx hb d_Op_append_38 (lv_at hl 4 rfl) ?_
  have ⟨h4, hE⟩ := ck_at hE
  refine va_iast hx hb hK hP hD hS 4 0 rfl rfl h4 d_Op_append_40 (fun H locs hP hD hS => ?_)
  have hP : va_P g.1 classes (w_op_ki_tg_fi_se_oc g a_op a_ki a_tg a_fi a_se a_oc a_cp r_op (upd r_ki (r_op 6).toNatClampNeg v1) (upd r_tg (r_op 6).toNatClampNeg v2) (upd r_fi (r_op 6).toNatClampNeg v3) (upd r_se (r_op 6).toNatClampNeg v4) r_oc) H := hP
  have hD : va_D A (w_op_ki_tg_fi_se_oc g a_op a_ki a_tg a_fi a_se a_oc a_cp r_op (upd r_ki (r_op 6).toNatClampNeg v1) (upd r_tg (r_op 6).toNatClampNeg v2) (upd r_fi (r_op 6).toNatClampNeg v3) (upd r_se (r_op 6).toNatClampNeg v4) r_oc) := hD
  refine lv_aload_n hx hb d_Op_append_41 rfl (lv_at hl 0 rfl) ?_
  refine va_get (D := g.1) (ci := 4) (v := .ref a_oc) (C := "MoveDesk$Operations") (T := F_Op) (N := 7) hx hb hts i_Op hown hK hP 0 rfl rfl 4 (by decide) (hts _ m_162) (fun _ h9 => h9) rfl d_Op_append_42 ?_
  refine lv_aload_n hx hb d_Op_append_45 rfl (lv_at hl 0 rfl) ?_
  refine va_get (D := g.1) (ci := 4) (v := .int (r_op 6)) (C := "MoveDesk$Operations") (T := F_Op) (N := 7) hx hb hts i_Op hown hK hP 0 rfl rfl 6 (by decide) (hts _ m_164) (fun _ h9 => h9) rfl d_Op_append_46 ?_
  refine lv_iload hx hb d_Op_append_49 (lv_at hl 5 rfl) ?_
  have ⟨h5, hE⟩ := ck_at hE
  refine va_iast hx hb hK hP hD hS 5 0 rfl rfl h5 d_Op_append_51 (fun H locs hP hD hS => ?_)
  have hP : va_P g.1 classes (w_op_ki_tg_fi_se_oc g a_op a_ki a_tg a_fi a_se a_oc a_cp r_op (upd r_ki (r_op 6).toNatClampNeg v1) (upd r_tg (r_op 6).toNatClampNeg v2) (upd r_fi (r_op 6).toNatClampNeg v3) (upd r_se (r_op 6).toNatClampNeg v4) (upd r_oc (r_op 6).toNatClampNeg v5)) H := hP
  have hD : va_D A (w_op_ki_tg_fi_se_oc g a_op a_ki a_tg a_fi a_se a_oc a_cp r_op (upd r_ki (r_op 6).toNatClampNeg v1) (upd r_tg (r_op 6).toNatClampNeg v2) (upd r_fi (r_op 6).toNatClampNeg v3) (upd r_se (r_op 6).toNatClampNeg v4) (upd r_oc (r_op 6).toNatClampNeg v5)) := hD
  refine lv_aload_n hx hb d_Op_append_52 rfl (lv_at hl 0 rfl) ?_
  refine lv_dup hx hb d_Op_append_53 rfl ?_
  refine va_get (D := g.1) (ci := 4) (v := .int (r_op 6)) (C := "MoveDesk$Operations") (T := F_Op) (N := 7) hx hb hts i_Op hown hK hP 0 rfl rfl 6 (by decide) (hts _ m_164) (fun _ h9 => h9) rfl d_Op_append_54 ?_
  refine lv_iconst (v := 1) hx hb d_Op_append_57 (by decide) ?_
  refine lv_iadd hx hb d_Op_append_58 ?_
  refine lv_topi (fun x6 ex6 => ?_)
  have hE := nm_at hE ex6
  refine va_put (D := g.1) (ci := 4) (v := .int x6) (ty := .int) (C := "MoveDesk$Operations") (T := F_Op) (N := 7) hx hb hts i_Op t_Op t_Op_ok n_Op hown hK hP hD hS 0 rfl rfl 6 (by decide) (hts _ m_164) (fun _ h9 => h9) rfl (by decide +kernel) rfl rfl (Nat.le_of_ble_eq_true rfl) d_Op_append_59 (fun H locs hP hD hS => ?_)
  have hP : va_P g.1 classes (w_op_ki_tg_fi_se_oc g a_op a_ki a_tg a_fi a_se a_oc a_cp (upd r_op 6 x6) (upd r_ki (r_op 6).toNatClampNeg v1) (upd r_tg (r_op 6).toNatClampNeg v2) (upd r_fi (r_op 6).toNatClampNeg v3) (upd r_se (r_op 6).toNatClampNeg v4) (upd r_oc (r_op 6).toNatClampNeg v5)) H := hP
  have hD : va_D A (w_op_ki_tg_fi_se_oc g a_op a_ki a_tg a_fi a_se a_oc a_cp (upd r_op 6 x6) (upd r_ki (r_op 6).toNatClampNeg v1) (upd r_tg (r_op 6).toNatClampNeg v2) (upd r_fi (r_op 6).toNatClampNeg v3) (upd r_se (r_op 6).toNatClampNeg v4) (upd r_oc (r_op 6).toNatClampNeg v5)) := hD
  have hE := Option.some.inj hE
  rw [hE]
  exact W.vret hx hb hr (fun t ht hW => ⟨⟨rfl, by rw [ht]; exact hP, va_K.moved hW.alike hK, hD⟩, hS.F ht⟩) hS.2.2 d_Op_append_62 hlocks
abbrev rm_Op_drop : Room := { frames := 0, cells := 0, slots := 0, locals := 0 }
set_option maxHeartbeats 4000000 in
set_option maxRecDepth 100000 in
theorem c_Op_drop (l : Launch) (g : GT) (a_op : Nat) (a_ki : Nat) (a_tg : Nat) (a_fi : Nat) (a_se : Nat) (a_oc : Nat) (a_cp : Nat) (r_op : Nat → Int32)  (y : Int32 × (Nat → Int32)) (hy : some y = f_Op_drop r_op) : Ct l y_Op_drop (.code y_Op_drop b_Op_drop 2 (some .int)) rm_Op_drop g [.ref a_op] (w_op g a_op a_ki a_tg a_fi a_se a_oc a_cp r_op) (w_op g a_op a_ki a_tg a_fi a_se a_oc a_cp y.2) (some (.int y.1)) := by
  refine ct_in (C := "MoveDesk$Operations") rfl (by decide) (Nat.le_of_ble_eq_true rfl) (fun p e s m below meth c A ls M hP hD hS hl => ?_)
  obtain ⟨hx, hb, hr, hml, hown, hts, hlocks, hA, hK, hG⟩ := id M
  have hl : lv_has ls 2 [(0, .ref a_op)] := hl
  have hE := hy
  rw [f_Op_drop] at hE
  refine lv_aload_n hx hb d_Op_drop_0 rfl (lv_at hl 0 rfl) ?_
  refine va_get (D := g.1) (ci := 4) (v := .int (r_op 6)) (C := "MoveDesk$Operations") (T := F_Op) (N := 7) hx hb hts i_Op hown hK hP 0 rfl rfl 6 (by decide) (hts _ m_164) (fun _ h9 => h9) rfl d_Op_drop_1 ?_
  refine lv_topi (fun x1 ex1 => ?_)
  have hE := nm_at hE ex1
  refine lv_istore_n (lv' := [(1, .int x1), (0, .ref a_op)]) hx hb d_Op_drop_4 rfl hl (by decide) rfl (fun ls hl => ?_)
  refine lv_aload_n hx hb d_Op_drop_5 rfl (lv_at hl 1 rfl) ?_
  refine lv_iconst (v := 0) hx hb d_Op_drop_6 (by decide) ?_
  refine va_put (D := g.1) (ci := 4) (v := .int 0) (ty := .int) (C := "MoveDesk$Operations") (T := F_Op) (N := 7) hx hb hts i_Op t_Op t_Op_ok n_Op hown hK hP hD hS 0 rfl rfl 6 (by decide) (hts _ m_164) (fun _ h9 => h9) rfl (by decide +kernel) rfl rfl (Nat.le_of_ble_eq_true rfl) d_Op_drop_7 (fun H locs hP hD hS => ?_)
  have hP : va_P g.1 classes (w_op g a_op a_ki a_tg a_fi a_se a_oc a_cp (upd r_op 6 0)) H := hP
  have hD : va_D A (w_op g a_op a_ki a_tg a_fi a_se a_oc a_cp (upd r_op 6 0)) := hD
  refine lv_iload_n hx hb d_Op_drop_10 rfl (lv_at hl 0 rfl) ?_
  have hE := Option.some.inj hE
  rw [hE]
  exact W.iret (v := x1) hx hb hr (fun t ht hW => ⟨⟨rfl, by rw [ht]; exact hP, va_K.moved hW.alike hK, hD⟩, hS.F ht⟩) hS.2.2 d_Op_drop_11 hlocks
abbrev rm_Op_unit : Room := { frames := 0, cells := 0, slots := 0, locals := 0 }
set_option maxHeartbeats 4000000 in
set_option maxRecDepth 100000 in
theorem c_Op_unit (l : Launch) (g : GT) (a_op : Nat) (a_ki : Nat) (a_tg : Nat) (a_fi : Nat) (a_se : Nat) (a_oc : Nat) (a_cp : Nat) (r_op : Nat → Int32) (r_ki : Nat → Int32) (v1 : Int32) (y : Int32) (hy : some y = f_Op_unit r_op r_ki v1) : Ct l y_Op_unit (.code y_Op_unit b_Op_unit 2 (some .int)) rm_Op_unit g [.ref a_op, .int v1] (w_op_ki g a_op a_ki a_tg a_fi a_se a_oc a_cp r_op r_ki) (w_op_ki g a_op a_ki a_tg a_fi a_se a_oc a_cp r_op r_ki) (some (.int y)) := by
  refine ct_in (C := "MoveDesk$Operations") rfl (by decide) (Nat.le_of_ble_eq_true rfl) (fun p e s m below meth c A ls M hP hD hS hl => ?_)
  obtain ⟨hx, hb, hr, hml, hown, hts, hlocks, hA, hK, hG⟩ := id M
  have hl : lv_has ls 2 [(0, .ref a_op), (1, .int v1)] := hl
  have hE := hy
  rw [f_Op_unit] at hE
  refine lv_aload_n hx hb d_Op_unit_0 rfl (lv_at hl 0 rfl) ?_
  refine va_get (D := g.1) (ci := 4) (v := .ref a_ki) (C := "MoveDesk$Operations") (T := F_Op) (N := 7) hx hb hts i_Op hown hK hP 0 rfl rfl 0 (by decide) (hts _ m_158) (fun _ h9 => h9) rfl d_Op_unit_1 ?_
  refine lv_iload_n hx hb d_Op_unit_4 rfl (lv_at hl 1 rfl) ?_
  have ⟨h1, hE⟩ := ck_at hE
  refine va_iald hx hb hK hP 1 0 rfl rfl h1 d_Op_unit_5 ?_
  refine lv_iconst (v := 2) hx hb d_Op_unit_6 (by decide) ?_
  refine lv_icmp_ge (tgt := 12) hx hb d_Op_unit_7 (by decide) (fun c2 => ?_) (fun c2 => ?_)
  · have hE := it_t hE c2
    refine lv_aload_n hx hb d_Op_unit_12 rfl (lv_at hl 0 rfl) ?_
    refine va_get (D := g.1) (ci := 4) (v := .ref a_ki) (C := "MoveDesk$Operations") (T := F_Op) (N := 7) hx hb hts i_Op hown hK hP 0 rfl rfl 0 (by decide) (hts _ m_158) (fun _ h9 => h9) rfl d_Op_unit_13 ?_
    refine lv_iload_n hx hb d_Op_unit_16 rfl (lv_at hl 1 rfl) ?_
    have ⟨h3, hE⟩ := ck_at hE
    refine va_iald hx hb hK hP 1 0 rfl rfl h3 d_Op_unit_17 ?_
    refine lv_iconst (v := 2) hx hb d_Op_unit_18 (by decide) ?_
    refine lv_icmp_ne (tgt := 26) hx hb d_Op_unit_19 (by decide) (fun c4 => ?_) (fun c4 => ?_)
    · have hE := it_f hE c4
      refine lv_iconst (v := 2) hx hb d_Op_unit_26 (by decide) ?_
      have hE := Option.some.inj hE
      rw [hE]
      exact W.iret (v := 2) hx hb hr (fun t ht hW => ⟨⟨rfl, by rw [ht]; exact hP, va_K.moved hW.alike hK, hD⟩, hS.F ht⟩) hS.2.2 d_Op_unit_27 hlocks
    · have hE := it_t hE c4
      refine lv_iconst (v := 1) hx hb d_Op_unit_22 (by decide) ?_
      refine lv_goto (tgt := 27) hx hb d_Op_unit_23 (by decide) ?_
      have hE := Option.some.inj hE
      rw [hE]
      exact W.iret (v := 1) hx hb hr (fun t ht hW => ⟨⟨rfl, by rw [ht]; exact hP, va_K.moved hW.alike hK, hD⟩, hS.F ht⟩) hS.2.2 d_Op_unit_27 hlocks
  · have hE := it_f hE c2
    refine lv_iconst (v := 0) hx hb d_Op_unit_10 (by decide) ?_
    have hE := Option.some.inj hE
    rw [hE]
    exact W.iret (v := 0) hx hb hr (fun t ht hW => ⟨⟨rfl, by rw [ht]; exact hP, va_K.moved hW.alike hK, hD⟩, hS.F ht⟩) hS.2.2 d_Op_unit_11 hlocks
abbrev rm_Op_trigger : Room := { frames := 0, cells := 0, slots := 0, locals := 0 }
set_option maxHeartbeats 4000000 in
set_option maxRecDepth 100000 in
theorem c_Op_trigger (l : Launch) (g : GT) (a_op : Nat) (a_ki : Nat) (a_tg : Nat) (a_fi : Nat) (a_se : Nat) (a_oc : Nat) (a_cp : Nat) (r_op : Nat → Int32) (r_ki : Nat → Int32) (v1 : Int32) (y : Int32) (hy : some y = f_Op_trigger r_op r_ki v1) : Ct l y_Op_trigger (.code y_Op_trigger b_Op_trigger 2 (some .int)) rm_Op_trigger g [.ref a_op, .int v1] (w_op_ki g a_op a_ki a_tg a_fi a_se a_oc a_cp r_op r_ki) (w_op_ki g a_op a_ki a_tg a_fi a_se a_oc a_cp r_op r_ki) (some (.int y)) := by
  refine ct_in (C := "MoveDesk$Operations") rfl (by decide) (Nat.le_of_ble_eq_true rfl) (fun p e s m below meth c A ls M hP hD hS hl => ?_)
  obtain ⟨hx, hb, hr, hml, hown, hts, hlocks, hA, hK, hG⟩ := id M
  have hl : lv_has ls 2 [(0, .ref a_op), (1, .int v1)] := hl
  have hE := hy
  rw [f_Op_trigger] at hE
  refine lv_bipush (v := 11) hx hb d_Op_trigger_0 (by decide) ?_
  refine lv_aload_n hx hb d_Op_trigger_2 rfl (lv_at hl 0 rfl) ?_
  refine va_get (D := g.1) (ci := 4) (v := .ref a_ki) (C := "MoveDesk$Operations") (T := F_Op) (N := 7) hx hb hts i_Op hown hK hP 0 rfl rfl 0 (by decide) (hts _ m_158) (fun _ h9 => h9) rfl d_Op_trigger_3 ?_
  refine lv_iload_n hx hb d_Op_trigger_6 rfl (lv_at hl 1 rfl) ?_
  have ⟨h1, hE⟩ := ck_at hE
  refine va_iald hx hb hK hP 1 0 rfl rfl h1 d_Op_trigger_7 ?_
  refine lv_iadd hx hb d_Op_trigger_8 ?_
  have hE := Option.some.inj hE
  rw [hE]
  exact W.iret (v := ((11 : Int32) + (r_ki v1.toNatClampNeg))) hx hb hr (fun t ht hW => ⟨⟨rfl, by rw [ht]; exact hP, va_K.moved hW.alike hK, hD⟩, hS.F ht⟩) hS.2.2 d_Op_trigger_9 hlocks
abbrev rm_Op_isLoad : Room := { frames := 0, cells := 0, slots := 0, locals := 0 }
set_option maxHeartbeats 4000000 in
set_option maxRecDepth 100000 in
theorem c_Op_isLoad (l : Launch) (g : GT) (a_op : Nat) (a_ki : Nat) (a_tg : Nat) (a_fi : Nat) (a_se : Nat) (a_oc : Nat) (a_cp : Nat) (r_op : Nat → Int32) (r_ki : Nat → Int32) (v1 : Int32) (y : Int32) (hy : some y = f_Op_isLoad r_op r_ki v1) : Ct l y_Op_isLoad (.code y_Op_isLoad b_Op_isLoad 2 (some .boolean)) rm_Op_isLoad g [.ref a_op, .int v1] (w_op_ki g a_op a_ki a_tg a_fi a_se a_oc a_cp r_op r_ki) (w_op_ki g a_op a_ki a_tg a_fi a_se a_oc a_cp r_op r_ki) (some (.int y)) := by
  refine ct_in (C := "MoveDesk$Operations") rfl (by decide) (Nat.le_of_ble_eq_true rfl) (fun p e s m below meth c A ls M hP hD hS hl => ?_)
  obtain ⟨hx, hb, hr, hml, hown, hts, hlocks, hA, hK, hG⟩ := id M
  have hl : lv_has ls 2 [(0, .ref a_op), (1, .int v1)] := hl
  have hE := hy
  rw [f_Op_isLoad] at hE
  refine lv_aload_n hx hb d_Op_isLoad_0 rfl (lv_at hl 0 rfl) ?_
  refine va_get (D := g.1) (ci := 4) (v := .ref a_ki) (C := "MoveDesk$Operations") (T := F_Op) (N := 7) hx hb hts i_Op hown hK hP 0 rfl rfl 0 (by decide) (hts _ m_158) (fun _ h9 => h9) rfl d_Op_isLoad_1 ?_
  refine lv_iload_n hx hb d_Op_isLoad_4 rfl (lv_at hl 1 rfl) ?_
  have ⟨h1, hE⟩ := ck_at hE
  refine va_iald hx hb hK hP 1 0 rfl rfl h1 d_Op_isLoad_5 ?_
  refine lv_iconst (v := 3) hx hb d_Op_isLoad_6 (by decide) ?_
  refine lv_icmp_ne (tgt := 14) hx hb d_Op_isLoad_7 (by decide) (fun c2 => ?_) (fun c2 => ?_)
  · have hE := it_f hE c2
    refine lv_iconst (v := 0) hx hb d_Op_isLoad_14 (by decide) ?_
    have hE := Option.some.inj hE
    rw [hE]
    exact W.zret (v := 0) (ty := .boolean) hx hb hr rfl (fun t ht hW => ⟨⟨rfl, by rw [ht]; exact hP, va_K.moved hW.alike hK, hD⟩, hS.F ht⟩) hS.2.2 d_Op_isLoad_15 hlocks
  · have hE := it_t hE c2
    refine lv_iconst (v := 1) hx hb d_Op_isLoad_10 (by decide) ?_
    refine lv_goto (tgt := 15) hx hb d_Op_isLoad_11 (by decide) ?_
    have hE := Option.some.inj hE
    rw [hE]
    exact W.zret (v := 1) (ty := .boolean) hx hb hr rfl (fun t ht hW => ⟨⟨rfl, by rw [ht]; exact hP, va_K.moved hW.alike hK, hD⟩, hS.F ht⟩) hS.2.2 d_Op_isLoad_15 hlocks
abbrev rm_Op_isStore : Room := { frames := 0, cells := 0, slots := 0, locals := 0 }
set_option maxHeartbeats 4000000 in
set_option maxRecDepth 100000 in
theorem c_Op_isStore (l : Launch) (g : GT) (a_op : Nat) (a_ki : Nat) (a_tg : Nat) (a_fi : Nat) (a_se : Nat) (a_oc : Nat) (a_cp : Nat) (r_op : Nat → Int32) (r_ki : Nat → Int32) (v1 : Int32) (y : Int32) (hy : some y = f_Op_isStore r_op r_ki v1) : Ct l y_Op_isStore (.code y_Op_isStore b_Op_isStore 2 (some .boolean)) rm_Op_isStore g [.ref a_op, .int v1] (w_op_ki g a_op a_ki a_tg a_fi a_se a_oc a_cp r_op r_ki) (w_op_ki g a_op a_ki a_tg a_fi a_se a_oc a_cp r_op r_ki) (some (.int y)) := by
  refine ct_in (C := "MoveDesk$Operations") rfl (by decide) (Nat.le_of_ble_eq_true rfl) (fun p e s m below meth c A ls M hP hD hS hl => ?_)
  obtain ⟨hx, hb, hr, hml, hown, hts, hlocks, hA, hK, hG⟩ := id M
  have hl : lv_has ls 2 [(0, .ref a_op), (1, .int v1)] := hl
  have hE := hy
  rw [f_Op_isStore] at hE
  refine lv_aload_n hx hb d_Op_isStore_0 rfl (lv_at hl 0 rfl) ?_
  refine va_get (D := g.1) (ci := 4) (v := .ref a_ki) (C := "MoveDesk$Operations") (T := F_Op) (N := 7) hx hb hts i_Op hown hK hP 0 rfl rfl 0 (by decide) (hts _ m_158) (fun _ h9 => h9) rfl d_Op_isStore_1 ?_
  refine lv_iload_n hx hb d_Op_isStore_4 rfl (lv_at hl 1 rfl) ?_
  have ⟨h1, hE⟩ := ck_at hE
  refine va_iald hx hb hK hP 1 0 rfl rfl h1 d_Op_isStore_5 ?_
  refine lv_iconst (v := 4) hx hb d_Op_isStore_6 (by decide) ?_
  refine lv_icmp_ne (tgt := 14) hx hb d_Op_isStore_7 (by decide) (fun c2 => ?_) (fun c2 => ?_)
  · have hE := it_f hE c2
    refine lv_iconst (v := 0) hx hb d_Op_isStore_14 (by decide) ?_
    have hE := Option.some.inj hE
    rw [hE]
    exact W.zret (v := 0) (ty := .boolean) hx hb hr rfl (fun t ht hW => ⟨⟨rfl, by rw [ht]; exact hP, va_K.moved hW.alike hK, hD⟩, hS.F ht⟩) hS.2.2 d_Op_isStore_15 hlocks
  · have hE := it_t hE c2
    refine lv_iconst (v := 1) hx hb d_Op_isStore_10 (by decide) ?_
    refine lv_goto (tgt := 15) hx hb d_Op_isStore_11 (by decide) ?_
    have hE := Option.some.inj hE
    rw [hE]
    exact W.zret (v := 1) (ty := .boolean) hx hb hr rfl (fun t ht hW => ⟨⟨rfl, by rw [ht]; exact hP, va_K.moved hW.alike hK, hD⟩, hS.F ht⟩) hS.2.2 d_Op_isStore_15 hlocks
abbrev rm_Op_target : Room := { frames := 0, cells := 0, slots := 0, locals := 0 }
set_option maxHeartbeats 4000000 in
set_option maxRecDepth 100000 in
theorem c_Op_target (l : Launch) (g : GT) (a_op : Nat) (a_ki : Nat) (a_tg : Nat) (a_fi : Nat) (a_se : Nat) (a_oc : Nat) (a_cp : Nat) (r_op : Nat → Int32) (r_tg : Nat → Int32) (v1 : Int32) (y : Int32) (hy : some y = f_Op_target r_op r_tg v1) : Ct l y_Op_target (.code y_Op_target b_Op_target 2 (some .int)) rm_Op_target g [.ref a_op, .int v1] (w_op_tg g a_op a_ki a_tg a_fi a_se a_oc a_cp r_op r_tg) (w_op_tg g a_op a_ki a_tg a_fi a_se a_oc a_cp r_op r_tg) (some (.int y)) := by
  refine ct_in (C := "MoveDesk$Operations") rfl (by decide) (Nat.le_of_ble_eq_true rfl) (fun p e s m below meth c A ls M hP hD hS hl => ?_)
  obtain ⟨hx, hb, hr, hml, hown, hts, hlocks, hA, hK, hG⟩ := id M
  have hl : lv_has ls 2 [(0, .ref a_op), (1, .int v1)] := hl
  have hE := hy
  rw [f_Op_target] at hE
  refine lv_aload_n hx hb d_Op_target_0 rfl (lv_at hl 0 rfl) ?_
  refine va_get (D := g.1) (ci := 4) (v := .ref a_tg) (C := "MoveDesk$Operations") (T := F_Op) (N := 7) hx hb hts i_Op hown hK hP 0 rfl rfl 1 (by decide) (hts _ m_159) (fun _ h9 => h9) rfl d_Op_target_1 ?_
  refine lv_iload_n hx hb d_Op_target_4 rfl (lv_at hl 1 rfl) ?_
  have ⟨h1, hE⟩ := ck_at hE
  refine va_iald hx hb hK hP 1 0 rfl rfl h1 d_Op_target_5 ?_
  have hE := Option.some.inj hE
  rw [hE]
  exact W.iret (v := (r_tg v1.toNatClampNeg)) hx hb hr (fun t ht hW => ⟨⟨rfl, by rw [ht]; exact hP, va_K.moved hW.alike hK, hD⟩, hS.F ht⟩) hS.2.2 d_Op_target_6 hlocks
abbrev rm_Op_sourceOf : Room := { frames := 0, cells := 0, slots := 0, locals := 0 }
set_option maxHeartbeats 4000000 in
set_option maxRecDepth 100000 in
theorem c_Op_sourceOf (l : Launch) (g : GT)   (v0 : Int32) (y : Int32) (hy : some y = f_Op_sourceOf v0) : Ct l y_Op_sourceOf (.code y_Op_sourceOf b_Op_sourceOf 1 (some .int)) rm_Op_sourceOf g [.int v0] (w_ g  ) (w_ g  ) (some (.int y)) := by
  refine ct_in (C := "MoveDesk$Operations") rfl (by decide) (Nat.le_of_ble_eq_true rfl) (fun p e s m below meth c A ls M hP hD hS hl => ?_)
  obtain ⟨hx, hb, hr, hml, hown, hts, hlocks, hA, hK, hG⟩ := id M
  have hl : lv_has ls 1 [(0, .int v0)] := hl
  have hE := hy
  rw [f_Op_sourceOf] at hE
  refine lv_iload_n hx hb d_Op_sourceOf_0 rfl (lv_at hl 0 rfl) ?_
  refine lv_bipush (v := 8) hx hb d_Op_sourceOf_1 (by decide) ?_
  refine lv_icmp_ne (tgt := 11) hx hb d_Op_sourceOf_3 (by decide) (fun c1 => ?_) (fun c1 => ?_)
  · have hE := it_f hE c1
    refine lv_iload_n hx hb d_Op_sourceOf_11 rfl (lv_at hl 0 rfl) ?_
    have hE := Option.some.inj hE
    rw [hE]
    exact W.iret (v := v0) hx hb hr (fun t ht hW => ⟨⟨rfl, by rw [ht]; exact hP, va_K.moved hW.alike hK, hD⟩, hS.F ht⟩) hS.2.2 d_Op_sourceOf_12 hlocks
  · have hE := it_t hE c1
    refine lv_bipush (v := 11) hx hb d_Op_sourceOf_6 (by decide) ?_
    refine lv_goto (tgt := 12) hx hb d_Op_sourceOf_8 (by decide) ?_
    have hE := Option.some.inj hE
    rw [hE]
    exact W.iret (v := 11) hx hb hr (fun t ht hW => ⟨⟨rfl, by rw [ht]; exact hP, va_K.moved hW.alike hK, hD⟩, hS.F ht⟩) hS.2.2 d_Op_sourceOf_12 hlocks
abbrev rm_Op_firstSource : Room := { frames := 1, cells := 0, slots := 0, locals := 20 }
set_option maxHeartbeats 4000000 in
set_option maxRecDepth 100000 in
theorem c_Op_firstSource (l : Launch) (g : GT) (a_op : Nat) (a_ki : Nat) (a_tg : Nat) (a_fi : Nat) (a_se : Nat) (a_oc : Nat) (a_cp : Nat) (r_op : Nat → Int32) (r_fi : Nat → Int32) (v1 : Int32) (y : Int32) (hy : some y = f_Op_firstSource r_op r_fi v1) : Ct l y_Op_firstSource (.code y_Op_firstSource b_Op_firstSource 2 (some .int)) rm_Op_firstSource g [.ref a_op, .int v1] (w_op_fi g a_op a_ki a_tg a_fi a_se a_oc a_cp r_op r_fi) (w_op_fi g a_op a_ki a_tg a_fi a_se a_oc a_cp r_op r_fi) (some (.int y)) := by
  refine ct_in (C := "MoveDesk$Operations") rfl (by decide) (Nat.le_of_ble_eq_true rfl) (fun p e s m below meth c A ls M hP hD hS hl => ?_)
  obtain ⟨hx, hb, hr, hml, hown, hts, hlocks, hA, hK, hG⟩ := id M
  have hl : lv_has ls 2 [(0, .ref a_op), (1, .int v1)] := hl
  have hE := hy
  rw [f_Op_firstSource] at hE
  refine lv_aload_n hx hb d_Op_firstSource_0 rfl (lv_at hl 0 rfl) ?_
  refine va_get (D := g.1) (ci := 4) (v := .ref a_fi) (C := "MoveDesk$Operations") (T := F_Op) (N := 7) hx hb hts i_Op hown hK hP 0 rfl rfl 2 (by decide) (hts _ m_160) (fun _ h9 => h9) rfl d_Op_firstSource_1 ?_
  refine lv_iload_n hx hb d_Op_firstSource_4 rfl (lv_at hl 1 rfl) ?_
  have ⟨h1, hE⟩ := ck_at hE
  refine va_iald hx hb hK hP 1 0 rfl rfl h1 d_Op_firstSource_5 ?_
  obtain ⟨y2, hy2, hE⟩ := bd_at hE
  refine kS (index := 38) (As := [.int (r_fi v1.toNatClampNeg)]) (rest := []) (ws2 := (w_op_fi g a_op a_ki a_tg a_fi a_se a_oc a_cp r_op r_fi)) M hP hD hS hl.1 (c_Op_sourceOf l g   (r_fi v1.toNatClampNeg) y2 hy2) m_623 m_624 m_6 m_625 hs_Op_sourceOf rfl rfl rfl ⟨by decide, by decide⟩ ⟨by decide, by decide⟩ [] [0, 1] [0, 1] rfl rfl rfl rfl (by decide) rfl rfl rfl (Nat.le_of_ble_eq_true rfl) d_Op_firstSource_6 (fun H locs hP hD hS => ?_)
  refine W.eq (g2 := F0 m 9 ls [.int y2]) rfl ?_
  have hE := Option.some.inj hE
  rw [hE]
  exact W.iret (v := y2) hx hb hr (fun t ht hW => ⟨⟨rfl, by rw [ht]; exact hP, va_K.moved hW.alike hK, hD⟩, hS.F ht⟩) hS.2.2 d_Op_firstSource_9 hlocks
abbrev rm_Op_triggerSource : Room := { frames := 1, cells := 0, slots := 0, locals := 21 }
set_option maxHeartbeats 4000000 in
set_option maxRecDepth 100000 in
theorem c_Op_triggerSource (l : Launch) (g : GT) (a_op : Nat) (a_ki : Nat) (a_tg : Nat) (a_fi : Nat) (a_se : Nat) (a_oc : Nat) (a_cp : Nat) (r_op : Nat → Int32) (r_ki : Nat → Int32) (r_fi : Nat → Int32) (r_se : Nat → Int32) (v1 : Int32) (y : Int32) (hy : some y = f_Op_triggerSource r_op r_ki r_fi r_se v1) : Ct l y_Op_triggerSource (.code y_Op_triggerSource b_Op_triggerSource 2 (some .int)) rm_Op_triggerSource g [.ref a_op, .int v1] (w_op_ki_fi_se g a_op a_ki a_tg a_fi a_se a_oc a_cp r_op r_ki r_fi r_se) (w_op_ki_fi_se g a_op a_ki a_tg a_fi a_se a_oc a_cp r_op r_ki r_fi r_se) (some (.int y)) := by
  refine ct_in (C := "MoveDesk$Operations") rfl (by decide) (Nat.le_of_ble_eq_true rfl) (fun p e s m below meth c A ls M hP hD hS hl => ?_)
  obtain ⟨hx, hb, hr, hml, hown, hts, hlocks, hA, hK, hG⟩ := id M
  have hl : lv_has ls 2 [(0, .ref a_op), (1, .int v1)] := hl
  have hE := hy
  rw [f_Op_triggerSource] at hE
  refine lv_aload_n hx hb d_Op_triggerSource_0 rfl (lv_at hl 0 rfl) ?_
  refine lv_iload_n hx hb d_Op_triggerSource_1 rfl (lv_at hl 1 rfl) ?_
  obtain ⟨y1, hy1, hE⟩ := bd_at hE
  refine kV (C := "MoveDesk$Operations") (index := 42) (As := [.int v1]) (rest := []) (ws2 := (w_op_ki_fi_se g a_op a_ki a_tg a_fi a_se a_oc a_cp r_op r_ki r_fi r_se)) M hP hD hS hl.1 (c_Op_isLoad l g a_op a_ki a_tg a_fi a_se a_oc a_cp r_op r_ki v1 y1 hy1) m_633 m_634 m_635 m_6 m_636 hd_Op_isLoad rfl rfl rfl ⟨by decide, by decide⟩ ⟨by decide, by decide⟩ 4 0 rfl rfl rfl [0, 1] [2, 3] [2, 3, 0, 1] rfl rfl rfl rfl (by decide) rfl rfl rfl (Nat.le_of_ble_eq_true rfl) d_Op_triggerSource_2 (fun H locs hP hD hS => ?_)
  refine W.eq (g2 := F0 m 5 ls [.int y1]) rfl ?_
  refine lv_if_eq (tgt := 17) hx hb d_Op_triggerSource_5 (by decide) (fun c2 => ?_) (fun c2 => ?_)
  · have hE := it_t hE c2
    refine lv_aload_n hx hb d_Op_triggerSource_17 rfl (lv_at hl 0 rfl) ?_
    refine va_get (D := g.1) (ci := 4) (v := .ref a_se) (C := "MoveDesk$Operations") (T := F_Op) (N := 7) hx hb hts i_Op hown hK hP 0 rfl rfl 3 (by decide) (hts _ m_161) (fun _ h9 => h9) rfl d_Op_triggerSource_18 ?_
    refine lv_iload_n hx hb d_Op_triggerSource_21 rfl (lv_at hl 1 rfl) ?_
    have ⟨h3, hE⟩ := ck_at hE
    refine va_iald hx hb hK hP 3 0 rfl rfl h3 d_Op_triggerSource_22 ?_
    obtain ⟨y4, hy4, hE⟩ := bd_at hE
    refine kS (index := 38) (As := [.int (r_se v1.toNatClampNeg)]) (rest := []) (ws2 := (w_op_ki_fi_se g a_op a_ki a_tg a_fi a_se a_oc a_cp r_op r_ki r_fi r_se)) M hP hD hS hl.1 (c_Op_sourceOf l g   (r_se v1.toNatClampNeg) y4 hy4) m_623 m_624 m_6 m_625 hs_Op_sourceOf rfl rfl rfl ⟨by decide, by decide⟩ ⟨by decide, by decide⟩ [] [0, 1, 2, 3] [0, 1, 2, 3] rfl rfl rfl rfl (by decide) rfl rfl rfl (Nat.le_of_ble_eq_true rfl) d_Op_triggerSource_23 (fun H locs hP hD hS => ?_)
    refine W.eq (g2 := F0 m 26 ls [.int y4]) rfl ?_
    have hE := Option.some.inj hE
    rw [hE]
    exact W.iret (v := y4) hx hb hr (fun t ht hW => ⟨⟨rfl, by rw [ht]; exact hP, va_K.moved hW.alike hK, hD⟩, hS.F ht⟩) hS.2.2 d_Op_triggerSource_26 hlocks
  · have hE := it_f hE c2
    refine lv_aload_n hx hb d_Op_triggerSource_8 rfl (lv_at hl 0 rfl) ?_
    refine va_get (D := g.1) (ci := 4) (v := .ref a_fi) (C := "MoveDesk$Operations") (T := F_Op) (N := 7) hx hb hts i_Op hown hK hP 0 rfl rfl 2 (by decide) (hts _ m_160) (fun _ h9 => h9) rfl d_Op_triggerSource_9 ?_
    refine lv_iload_n hx hb d_Op_triggerSource_12 rfl (lv_at hl 1 rfl) ?_
    have ⟨h5, hE⟩ := ck_at hE
    refine va_iald hx hb hK hP 2 0 rfl rfl h5 d_Op_triggerSource_13 ?_
    refine lv_goto (tgt := 23) hx hb d_Op_triggerSource_14 (by decide) ?_
    obtain ⟨y6, hy6, hE⟩ := bd_at hE
    refine kS (index := 38) (As := [.int (r_fi v1.toNatClampNeg)]) (rest := []) (ws2 := (w_op_ki_fi_se g a_op a_ki a_tg a_fi a_se a_oc a_cp r_op r_ki r_fi r_se)) M hP hD hS hl.1 (c_Op_sourceOf l g   (r_fi v1.toNatClampNeg) y6 hy6) m_623 m_624 m_6 m_625 hs_Op_sourceOf rfl rfl rfl ⟨by decide, by decide⟩ ⟨by decide, by decide⟩ [] [0, 1, 2, 3] [0, 1, 2, 3] rfl rfl rfl rfl (by decide) rfl rfl rfl (Nat.le_of_ble_eq_true rfl) d_Op_triggerSource_23 (fun H locs hP hD hS => ?_)
    refine W.eq (g2 := F0 m 26 ls [.int y6]) rfl ?_
    have hE := Option.some.inj hE
    rw [hE]
    exact W.iret (v := y6) hx hb hr (fun t ht hW => ⟨⟨rfl, by rw [ht]; exact hP, va_K.moved hW.alike hK, hD⟩, hS.F ht⟩) hS.2.2 d_Op_triggerSource_26 hlocks
abbrev rm_Op_constantFor : Room := { frames := 0, cells := 0, slots := 0, locals := 0 }
set_option maxHeartbeats 4000000 in
set_option maxRecDepth 100000 in
theorem c_Op_constantFor (l : Launch) (g : GT) (a_op : Nat) (a_ki : Nat) (a_tg : Nat) (a_fi : Nat) (a_se : Nat) (a_oc : Nat) (a_cp : Nat) (r_op : Nat → Int32) (r_oc : Nat → Int32) (v1 : Int32) (v2 : Int32) (y : Int32) (hy : some y = f_Op_constantFor r_op r_oc v1 v2) : Ct l y_Op_constantFor (.code y_Op_constantFor b_Op_constantFor 3 (some .int)) rm_Op_constantFor g [.ref a_op, .int v1, .int v2] (w_op_oc g a_op a_ki a_tg a_fi a_se a_oc a_cp r_op r_oc) (w_op_oc g a_op a_ki a_tg a_fi a_se a_oc a_cp r_op r_oc) (some (.int y)) := by
  refine ct_in (C := "MoveDesk$Operations") rfl (by decide) (Nat.le_of_ble_eq_true rfl) (fun p e s m below meth c A ls M hP hD hS hl => ?_)
  obtain ⟨hx, hb, hr, hml, hown, hts, hlocks, hA, hK, hG⟩ := id M
  have hl : lv_has ls 3 [(0, .ref a_op), (1, .int v1), (2, .int v2)] := hl
  have hE := hy
  rw [f_Op_constantFor] at hE
  refine lv_iload_n hx hb d_Op_constantFor_0 rfl (lv_at hl 2 rfl) ?_
  refine lv_bipush (v := 11) hx hb d_Op_constantFor_1 (by decide) ?_
  refine lv_icmp_ne (tgt := 15) hx hb d_Op_constantFor_3 (by decide) (fun c1 => ?_) (fun c1 => ?_)
  · have hE := it_f hE c1
    refine lv_iconst (v := 0) hx hb d_Op_constantFor_15 (by decide) ?_
    have hE := Option.some.inj hE
    rw [hE]
    exact W.iret (v := 0) hx hb hr (fun t ht hW => ⟨⟨rfl, by rw [ht]; exact hP, va_K.moved hW.alike hK, hD⟩, hS.F ht⟩) hS.2.2 d_Op_constantFor_16 hlocks
  · have hE := it_t hE c1
    refine lv_aload_n hx hb d_Op_constantFor_6 rfl (lv_at hl 0 rfl) ?_
    refine va_get (D := g.1) (ci := 4) (v := .ref a_oc) (C := "MoveDesk$Operations") (T := F_Op) (N := 7) hx hb hts i_Op hown hK hP 0 rfl rfl 4 (by decide) (hts _ m_162) (fun _ h9 => h9) rfl d_Op_constantFor_7 ?_
    refine lv_iload_n hx hb d_Op_constantFor_10 rfl (lv_at hl 1 rfl) ?_
    have ⟨h2, hE⟩ := ck_at hE
    refine va_iald hx hb hK hP 1 0 rfl rfl h2 d_Op_constantFor_11 ?_
    refine lv_goto (tgt := 16) hx hb d_Op_constantFor_12 (by decide) ?_
    have hE := Option.some.inj hE
    rw [hE]
    exact W.iret (v := (r_oc v1.toNatClampNeg)) hx hb hr (fun t ht hW => ⟨⟨rfl, by rw [ht]; exact hP, va_K.moved hW.alike hK, hD⟩, hS.F ht⟩) hS.2.2 d_Op_constantFor_16 hlocks
abbrev rm_Op_registerBit : Room := { frames := 0, cells := 0, slots := 0, locals := 0 }
set_option maxHeartbeats 4000000 in
set_option maxRecDepth 100000 in
theorem c_Op_registerBit (l : Launch) (g : GT)   (v0 : Int32) (y : Int32) (hy : some y = f_Op_registerBit v0) : Ct l y_Op_registerBit (.code y_Op_registerBit b_Op_registerBit 1 (some .int)) rm_Op_registerBit g [.int v0] (w_ g  ) (w_ g  ) (some (.int y)) := by
  refine ct_in (C := "MoveDesk$Operations") rfl (by decide) (Nat.le_of_ble_eq_true rfl) (fun p e s m below meth c A ls M hP hD hS hl => ?_)
  obtain ⟨hx, hb, hr, hml, hown, hts, hlocks, hA, hK, hG⟩ := id M
  have hl : lv_has ls 1 [(0, .int v0)] := hl
  have hE := hy
  rw [f_Op_registerBit] at hE
  refine lv_iload_n hx hb d_Op_registerBit_0 rfl (lv_at hl 0 rfl) ?_
  refine lv_bipush (v := 8) hx hb d_Op_registerBit_1 (by decide) ?_
  refine lv_icmp_ge (tgt := 12) hx hb d_Op_registerBit_3 (by decide) (fun c1 => ?_) (fun c1 => ?_)
  · have hE := it_t hE c1
    refine lv_iconst (v := 0) hx hb d_Op_registerBit_12 (by decide) ?_
    have hE := Option.some.inj hE
    rw [hE]
    exact W.iret (v := 0) hx hb hr (fun t ht hW => ⟨⟨rfl, by rw [ht]; exact hP, va_K.moved hW.alike hK, hD⟩, hS.F ht⟩) hS.2.2 d_Op_registerBit_13 hlocks
  · have hE := it_f hE c1
    refine lv_iconst (v := 1) hx hb d_Op_registerBit_6 (by decide) ?_
    refine lv_iload_n hx hb d_Op_registerBit_7 rfl (lv_at hl 0 rfl) ?_
    refine lv_ishl hx hb d_Op_registerBit_8 ?_
    refine lv_goto (tgt := 13) hx hb d_Op_registerBit_9 (by decide) ?_
    have hE := Option.some.inj hE
    rw [hE]
    exact W.iret (v := ((1 : Int32) <<< (v0 &&& 31))) hx hb hr (fun t ht hW => ⟨⟨rfl, by rw [ht]; exact hP, va_K.moved hW.alike hK, hD⟩, hS.F ht⟩) hS.2.2 d_Op_registerBit_13 hlocks
abbrev rm_Op_registersRead : Room := { frames := 2, cells := 0, slots := 0, locals := 42 }
set_option maxHeartbeats 4000000 in
set_option maxRecDepth 100000 in
theorem c_Op_registersRead (l : Launch) (g : GT) (a_op : Nat) (a_ki : Nat) (a_tg : Nat) (a_fi : Nat) (a_se : Nat) (a_oc : Nat) (a_cp : Nat) (r_op : Nat → Int32) (r_ki : Nat → Int32) (r_fi : Nat → Int32) (r_se : Nat → Int32) (v1 : Int32) (y : Int32) (hy : some y = f_Op_registersRead r_op r_ki r_fi r_se v1) : Ct l y_Op_registersRead (.code y_Op_registersRead b_Op_registersRead 2 (some .int)) rm_Op_registersRead g [.ref a_op, .int v1] (w_op_ki_fi_se g a_op a_ki a_tg a_fi a_se a_oc a_cp r_op r_ki r_fi r_se) (w_op_ki_fi_se g a_op a_ki a_tg a_fi a_se a_oc a_cp r_op r_ki r_fi r_se) (some (.int y)) := by
  refine ct_in (C := "MoveDesk$Operations") rfl (by decide) (Nat.le_of_ble_eq_true rfl) (fun p e s m below meth c A ls M hP hD hS hl => ?_)
  obtain ⟨hx, hb, hr, hml, hown, hts, hlocks, hA, hK, hG⟩ := id M
  have hl : lv_has ls 2 [(0, .ref a_op), (1, .int v1)] := hl
  have hE := hy
  rw [f_Op_registersRead] at hE
  refine lv_aload_n hx hb d_Op_registersRead_0 rfl (lv_at hl 0 rfl) ?_
  refine lv_iload_n hx hb d_Op_registersRead_1 rfl (lv_at hl 1 rfl) ?_
  obtain ⟨y1, hy1, hE⟩ := bd_at hE
  refine kV (C := "MoveDesk$Operations") (index := 46) (As := [.int v1]) (rest := []) (ws2 := (w_op_ki_fi_se g a_op a_ki a_tg a_fi a_se a_oc a_cp r_op r_ki r_fi r_se)) M hP hD hS hl.1 (c_Op_firstSource l g a_op a_ki a_tg a_fi a_se a_oc a_cp r_op r_fi v1 y1 hy1) m_619 m_620 m_621 m_6 m_622 hd_Op_firstSource rfl rfl rfl ⟨by decide, by decide⟩ ⟨by decide, by decide⟩ 4 0 rfl rfl rfl [0, 2] [1, 3] [2, 0, 3, 1] rfl rfl rfl rfl (by decide) rfl rfl rfl (Nat.le_of_ble_eq_true rfl) d_Op_registersRead_2 (fun H locs hP hD hS => ?_)
  refine W.eq (g2 := F0 m 5 ls [.int y1]) rfl ?_
  obtain ⟨y2, hy2, hE⟩ := bd_at hE
  refine kS (index := 49) (As := [.int y1]) (rest := []) (ws2 := (w_op_ki_fi_se g a_op a_ki a_tg a_fi a_se a_oc a_cp r_op r_ki r_fi r_se)) M hP hD hS hl.1 (c_Op_registerBit l g   y1 y2 hy2) m_626 m_627 m_6 m_628 hs_Op_registerBit rfl rfl rfl ⟨by decide, by decide⟩ ⟨by decide, by decide⟩ [] [0, 1, 2, 3] [0, 1, 2, 3] rfl rfl rfl rfl (by decide) rfl rfl rfl (Nat.le_of_ble_eq_true rfl) d_Op_registersRead_5 (fun H locs hP hD hS => ?_)
  refine W.eq (g2 := F0 m 8 ls [.int y2]) rfl ?_
  refine lv_aload_n hx hb d_Op_registersRead_8 rfl (lv_at hl 0 rfl) ?_
  refine lv_iload_n hx hb d_Op_registersRead_9 rfl (lv_at hl 1 rfl) ?_
  obtain ⟨y3, hy3, hE⟩ := bd_at hE
  refine kV (C := "MoveDesk$Operations") (index := 52) (As := [.int v1]) (rest := [.int y2]) (ws2 := (w_op_ki_fi_se g a_op a_ki a_tg a_fi a_se a_oc a_cp r_op r_ki r_fi r_se)) M hP hD hS hl.1 (c_Op_triggerSource l g a_op a_ki a_tg a_fi a_se a_oc a_cp r_op r_ki r_fi r_se v1 y3 hy3) m_629 m_630 m_631 m_6 m_632 hd_Op_triggerSource rfl rfl rfl ⟨by decide, by decide⟩ ⟨by decide, by decide⟩ 4 0 rfl rfl rfl [0, 1, 2, 3] [] [0, 1, 2, 3] rfl rfl rfl rfl (by decide) rfl rfl rfl (Nat.le_of_ble_eq_true rfl) d_Op_registersRead_10 (fun H locs hP hD hS => ?_)
  refine W.eq (g2 := F0 m 13 ls [.int y3, .int y2]) rfl ?_
  obtain ⟨y4, hy4, hE⟩ := bd_at hE
  refine kS (index := 49) (As := [.int y3]) (rest := [.int y2]) (ws2 := (w_op_ki_fi_se g a_op a_ki a_tg a_fi a_se a_oc a_cp r_op r_ki r_fi r_se)) M hP hD hS hl.1 (c_Op_registerBit l g   y3 y4 hy4) m_626 m_627 m_6 m_628 hs_Op_registerBit rfl rfl rfl ⟨by decide, by decide⟩ ⟨by decide, by decide⟩ [] [0, 1, 2, 3] [0, 1, 2, 3] rfl rfl rfl rfl (by decide) rfl rfl rfl (Nat.le_of_ble_eq_true rfl) d_Op_registersRead_13 (fun H locs hP hD hS => ?_)
  refine W.eq (g2 := F0 m 16 ls [.int y4, .int y2]) rfl ?_
  refine lv_ior hx hb d_Op_registersRead_16 ?_
  have hE := Option.some.inj hE
  rw [hE]
  exact W.iret (v := (y2 ||| y4)) hx hb hr (fun t ht hW => ⟨⟨rfl, by rw [ht]; exact hP, va_K.moved hW.alike hK, hD⟩, hS.F ht⟩) hS.2.2 d_Op_registersRead_17 hlocks
abbrev rm_Op_valueOf : Room := { frames := 0, cells := 0, slots := 0, locals := 0 }
set_option maxHeartbeats 4000000 in
set_option maxRecDepth 100000 in
theorem c_Op_valueOf (l : Launch) (g : GT) (a_op : Nat) (a_ki : Nat) (a_tg : Nat) (a_fi : Nat) (a_se : Nat) (a_oc : Nat) (a_cp : Nat) (r_op : Nat → Int32) (r_cp : Nat → Int32) (v1 : Int32) (v2 : Int32) (y : Int32) (hy : some y = f_Op_valueOf r_op r_cp v1 v2) : Ct l y_Op_valueOf (.code y_Op_valueOf b_Op_valueOf 3 (some .int)) rm_Op_valueOf g [.ref a_op, .int v1, .int v2] (w_op_cp g a_op a_ki a_tg a_fi a_se a_oc a_cp r_op r_cp) (w_op_cp g a_op a_ki a_tg a_fi a_se a_oc a_cp r_op r_cp) (some (.int y)) := by
  refine ct_in (C := "MoveDesk$Operations") rfl (by decide) (Nat.le_of_ble_eq_true rfl) (fun p e s m below meth c A ls M hP hD hS hl => ?_)
  obtain ⟨hx, hb, hr, hml, hown, hts, hlocks, hA, hK, hG⟩ := id M
  have hl : lv_has ls 3 [(0, .ref a_op), (1, .int v1), (2, .int v2)] := hl
  have hE := hy
  rw [f_Op_valueOf] at hE
  refine lv_iload_n hx hb d_Op_valueOf_0 rfl (lv_at hl 1 rfl) ?_
  refine lv_bipush (v := 8) hx hb d_Op_valueOf_1 (by decide) ?_
  refine lv_icmp_ne (tgt := 10) hx hb d_Op_valueOf_3 (by decide) (fun c1 => ?_) (fun c1 => ?_)
  · have hE := it_f hE c1
    refine lv_aload_n hx hb d_Op_valueOf_10 rfl (lv_at hl 0 rfl) ?_
    refine va_get (D := g.1) (ci := 4) (v := .ref a_cp) (C := "MoveDesk$Operations") (T := F_Op) (N := 7) hx hb hts i_Op hown hK hP 0 rfl rfl 5 (by decide) (hts _ m_163) (fun _ h9 => h9) rfl d_Op_valueOf_11 ?_
    refine lv_iload_n hx hb d_Op_valueOf_14 rfl (lv_at hl 1 rfl) ?_
    have ⟨h2, hE⟩ := ck_at hE
    refine va_iald hx hb hK hP 1 0 rfl rfl h2 d_Op_valueOf_15 ?_
    have hE := Option.some.inj hE
    rw [hE]
    exact W.iret (v := (r_cp v1.toNatClampNeg)) hx hb hr (fun t ht hW => ⟨⟨rfl, by rw [ht]; exact hP, va_K.moved hW.alike hK, hD⟩, hS.F ht⟩) hS.2.2 d_Op_valueOf_16 hlocks
  · have hE := it_t hE c1
    refine lv_iload_n hx hb d_Op_valueOf_6 rfl (lv_at hl 2 rfl) ?_
    refine lv_goto (tgt := 16) hx hb d_Op_valueOf_7 (by decide) ?_
    have hE := Option.some.inj hE
    rw [hE]
    exact W.iret (v := v2) hx hb hr (fun t ht hW => ⟨⟨rfl, by rw [ht]; exact hP, va_K.moved hW.alike hK, hD⟩, hS.F ht⟩) hS.2.2 d_Op_valueOf_16 hlocks
abbrev rm_Op_perform : Room := { frames := 1, cells := 0, slots := 0, locals := 22 }
set_option maxHeartbeats 4000000 in
set_option maxRecDepth 100000 in
theorem c_Op_perform (l : Launch) (g : GT) (a_op : Nat) (a_ki : Nat) (a_tg : Nat) (a_fi : Nat) (a_se : Nat) (a_oc : Nat) (a_cp : Nat) (r_op : Nat → Int32) (r_ki : Nat → Int32) (r_tg : Nat → Int32) (r_fi : Nat → Int32) (r_se : Nat → Int32) (r_oc : Nat → Int32) (r_cp : Nat → Int32) (v1 : Int32) (y : (Nat → Int32)) (hy : some y = f_Op_perform r_op r_ki r_tg r_fi r_se r_oc r_cp v1) : Ct l y_Op_perform (.code y_Op_perform b_Op_perform 4 none) rm_Op_perform g [.ref a_op, .int v1] (w_op_7_27ce g a_op a_ki a_tg a_fi a_se a_oc a_cp r_op r_ki r_tg r_fi r_se r_oc r_cp) (w_op_7_27ce g a_op a_ki a_tg a_fi a_se a_oc a_cp r_op r_ki r_tg r_fi r_se r_oc y) none := by
  refine ct_in (C := "MoveDesk$Operations") rfl (by decide) (Nat.le_of_ble_eq_true rfl) (fun p e s m below meth c A ls M hP hD hS hl => ?_)
  obtain ⟨hx, hb, hr, hml, hown, hts, hlocks, hA, hK, hG⟩ := id M
  have hl : lv_has ls 4 [(0, .ref a_op), (1, .int v1)] := hl
  have hE := hy
  rw [f_Op_perform] at hE
  refine lv_aload_n hx hb d_Op_perform_0 rfl (lv_at hl 0 rfl) ?_
  refine lv_aload_n hx hb d_Op_perform_1 rfl (lv_at hl 0 rfl) ?_
  refine va_get (D := g.1) (ci := 4) (v := .ref a_fi) (C := "MoveDesk$Operations") (T := F_Op) (N := 7) hx hb hts i_Op hown hK hP 0 rfl rfl 2 (by decide) (hts _ m_160) (fun _ h9 => h9) rfl d_Op_perform_2 ?_
  refine lv_iload_n hx hb d_Op_perform_5 rfl (lv_at hl 1 rfl) ?_
  have ⟨h1, hE⟩ := ck_at hE
  refine va_iald hx hb hK hP 3 0 rfl rfl h1 d_Op_perform_6 ?_
  refine lv_aload_n hx hb d_Op_perform_7 rfl (lv_at hl 0 rfl) ?_
  refine va_get (D := g.1) (ci := 4) (v := .ref a_oc) (C := "MoveDesk$Operations") (T := F_Op) (N := 7) hx hb hts i_Op hown hK hP 0 rfl rfl 4 (by decide) (hts _ m_162) (fun _ h9 => h9) rfl d_Op_perform_8 ?_
  refine lv_iload_n hx hb d_Op_perform_11 rfl (lv_at hl 1 rfl) ?_
  have ⟨h2, hE⟩ := ck_at hE
  refine va_iald hx hb hK hP 5 0 rfl rfl h2 d_Op_perform_12 ?_
  obtain ⟨y3, hy3, hE⟩ := bd_at hE
  refine kV (C := "MoveDesk$Operations") (index := 65) (As := [.int (r_fi v1.toNatClampNeg), .int (r_oc v1.toNatClampNeg)]) (rest := []) (ws2 := (w_op_7_27ce g a_op a_ki a_tg a_fi a_se a_oc a_cp r_op r_ki r_tg r_fi r_se r_oc r_cp)) M hP hD hS hl.1 (c_Op_valueOf l g a_op a_ki a_tg a_fi a_se a_oc a_cp r_op r_cp (r_fi v1.toNatClampNeg) (r_oc v1.toNatClampNeg) y3 hy3) m_806 m_808 s_30 m_6 m_809 hd_Op_valueOf rfl rfl rfl ⟨by decide, by decide⟩ ⟨by decide, by decide⟩ 4 0 rfl rfl rfl [0, 6] [1, 2, 3, 4, 5] [5, 0, 1, 2, 3, 4, 6] rfl rfl rfl rfl (by decide) rfl rfl rfl (Nat.le_of_ble_eq_true rfl) d_Op_perform_13 (fun H locs hP hD hS => ?_)
  refine W.eq (g2 := F0 m 16 ls [.int y3]) rfl ?_
  refine lv_istore_n (lv' := [(2, .int y3), (0, .ref a_op), (1, .int v1)]) hx hb d_Op_perform_16 rfl hl (by decide) rfl (fun ls hl => ?_)
  refine lv_aload_n hx hb d_Op_perform_17 rfl (lv_at hl 1 rfl) ?_
  refine lv_aload_n hx hb d_Op_perform_18 rfl (lv_at hl 1 rfl) ?_
  refine va_get (D := g.1) (ci := 4) (v := .ref a_se) (C := "MoveDesk$Operations") (T := F_Op) (N := 7) hx hb hts i_Op hown hK hP 0 rfl rfl 3 (by decide) (hts _ m_161) (fun _ h9 => h9) rfl d_Op_perform_19 ?_
  refine lv_iload_n hx hb d_Op_perform_22 rfl (lv_at hl 2 rfl) ?_
  have ⟨h4, hE⟩ := ck_at hE
  refine va_iald hx hb hK hP 4 0 rfl rfl h4 d_Op_perform_23 ?_
  refine lv_aload_n hx hb d_Op_perform_24 rfl (lv_at hl 1 rfl) ?_
  refine va_get (D := g.1) (ci := 4) (v := .ref a_oc) (C := "MoveDesk$Operations") (T := F_Op) (N := 7) hx hb hts i_Op hown hK hP 0 rfl rfl 4 (by decide) (hts _ m_162) (fun _ h9 => h9) rfl d_Op_perform_25 ?_
  refine lv_iload_n hx hb d_Op_perform_28 rfl (lv_at hl 2 rfl) ?_
  have ⟨h5, hE⟩ := ck_at hE
  refine va_iald hx hb hK hP 5 0 rfl rfl h5 d_Op_perform_29 ?_
  obtain ⟨y6, hy6, hE⟩ := bd_at hE
  refine kV (C := "MoveDesk$Operations") (index := 65) (As := [.int (r_se v1.toNatClampNeg), .int (r_oc v1.toNatClampNeg)]) (rest := []) (ws2 := (w_op_7_27ce g a_op a_ki a_tg a_fi a_se a_oc a_cp r_op r_ki r_tg r_fi r_se r_oc r_cp)) M hP hD hS hl.1 (c_Op_valueOf l g a_op a_ki a_tg a_fi a_se a_oc a_cp r_op r_cp (r_se v1.toNatClampNeg) (r_oc v1.toNatClampNeg) y6 hy6) m_806 m_808 s_30 m_6 m_809 hd_Op_valueOf rfl rfl rfl ⟨by decide, by decide⟩ ⟨by decide, by decide⟩ 4 0 rfl rfl rfl [0, 6] [1, 2, 3, 4, 5] [5, 0, 1, 2, 3, 4, 6] rfl rfl rfl rfl (by decide) rfl rfl rfl (Nat.le_of_ble_eq_true rfl) d_Op_perform_30 (fun H locs hP hD hS => ?_)
  refine W.eq (g2 := F0 m 33 ls [.int y6]) rfl ?_
  refine lv_istore_n (lv' := [(3, .int y6), (2, .int y3), (0, .ref a_op), (1, .int v1)]) hx hb d_Op_perform_33 rfl hl (by decide) rfl (fun ls hl => ?_)
  refine lv_aload_n hx hb d_Op_perform_34 rfl (lv_at hl 2 rfl) ?_
  refine va_get (D := g.1) (ci := 4) (v := .ref a_ki) (C := "MoveDesk$Operations") (T := F_Op) (N := 7) hx hb hts i_Op hown hK hP 0 rfl rfl 0 (by decide) (hts _ m_158) (fun _ h9 => h9) rfl d_Op_perform_35 ?_
  refine lv_iload_n hx hb d_Op_perform_38 rfl (lv_at hl 3 rfl) ?_
  have ⟨h7, hE⟩ := ck_at hE
  refine va_iald hx hb hK hP 1 0 rfl rfl h7 d_Op_perform_39 ?_
  refine lv_topi (fun x8 ex8 => ?_)
  have hE := nm_at hE ex8
  by_cases c9 : x8 = 0
  · have hE := it_t hE c9
    refine lv_tableIn (tgt := 72) hx hb d_Op_perform_40 (by rw [c9]; decide) (by rw [c9]; decide) (by rw [c9]; rfl) (by decide) ?_
    refine lv_aload_n hx hb d_Op_perform_72 rfl (lv_at hl 2 rfl) ?_
    refine va_get (D := g.1) (ci := 4) (v := .ref a_cp) (C := "MoveDesk$Operations") (T := F_Op) (N := 7) hx hb hts i_Op hown hK hP 0 rfl rfl 5 (by decide) (hts _ m_163) (fun _ h9 => h9) rfl d_Op_perform_73 ?_
    refine lv_aload_n hx hb d_Op_perform_76 rfl (lv_at hl 2 rfl) ?_
    refine va_get (D := g.1) (ci := 4) (v := .ref a_tg) (C := "MoveDesk$Operations") (T := F_Op) (N := 7) hx hb hts i_Op hown hK hP 0 rfl rfl 1 (by decide) (hts _ m_159) (fun _ h9 => h9) rfl d_Op_perform_77 ?_
    refine lv_iload_n hx hb d_Op_perform_80 rfl (lv_at hl 3 rfl) ?_
    have ⟨h10, hE⟩ := ck_at hE
    refine va_iald hx hb hK hP 2 0 rfl rfl h10 d_Op_perform_81 ?_
    refine lv_iload_n hx hb d_Op_perform_82 rfl (lv_at hl 1 rfl) ?_
    refine lv_iload_n hx hb d_Op_perform_83 rfl (lv_at hl 0 rfl) ?_
    refine lv_iadd hx hb d_Op_perform_84 ?_
    have ⟨h11, hE⟩ := ck_at hE
    refine va_iast hx hb hK hP hD hS 6 0 rfl rfl h11 d_Op_perform_85 (fun H locs hP hD hS => ?_)
    have hP : va_P g.1 classes (w_op_7_27ce g a_op a_ki a_tg a_fi a_se a_oc a_cp r_op r_ki r_tg r_fi r_se r_oc (upd r_cp (r_tg v1.toNatClampNeg).toNatClampNeg (y3 + y6))) H := hP
    have hD : va_D A (w_op_7_27ce g a_op a_ki a_tg a_fi a_se a_oc a_cp r_op r_ki r_tg r_fi r_se r_oc (upd r_cp (r_tg v1.toNatClampNeg).toNatClampNeg (y3 + y6))) := hD
    refine lv_goto (tgt := 156) hx hb d_Op_perform_86 (by decide) ?_
    have hE := Option.some.inj hE
    rw [hE]
    exact W.vret hx hb hr (fun t ht hW => ⟨⟨rfl, by rw [ht]; exact hP, va_K.moved hW.alike hK, hD⟩, hS.F ht⟩) hS.2.2 d_Op_perform_156 hlocks
  · have hE := it_f hE c9
    by_cases c12 : x8 = 1
    · have hE := it_t hE c12
      refine lv_tableIn (tgt := 89) hx hb d_Op_perform_40 (by rw [c12]; decide) (by rw [c12]; decide) (by rw [c12]; rfl) (by decide) ?_
      refine lv_aload_n hx hb d_Op_perform_89 rfl (lv_at hl 2 rfl) ?_
      refine va_get (D := g.1) (ci := 4) (v := .ref a_cp) (C := "MoveDesk$Operations") (T := F_Op) (N := 7) hx hb hts i_Op hown hK hP 0 rfl rfl 5 (by decide) (hts _ m_163) (fun _ h9 => h9) rfl d_Op_perform_90 ?_
      refine lv_aload_n hx hb d_Op_perform_93 rfl (lv_at hl 2 rfl) ?_
      refine va_get (D := g.1) (ci := 4) (v := .ref a_tg) (C := "MoveDesk$Operations") (T := F_Op) (N := 7) hx hb hts i_Op hown hK hP 0 rfl rfl 1 (by decide) (hts _ m_159) (fun _ h9 => h9) rfl d_Op_perform_94 ?_
      refine lv_iload_n hx hb d_Op_perform_97 rfl (lv_at hl 3 rfl) ?_
      have ⟨h13, hE⟩ := ck_at hE
      refine va_iald hx hb hK hP 2 0 rfl rfl h13 d_Op_perform_98 ?_
      refine lv_iload_n hx hb d_Op_perform_99 rfl (lv_at hl 1 rfl) ?_
      refine lv_iload_n hx hb d_Op_perform_100 rfl (lv_at hl 0 rfl) ?_
      refine lv_isub hx hb d_Op_perform_101 ?_
      have ⟨h14, hE⟩ := ck_at hE
      refine va_iast hx hb hK hP hD hS 6 0 rfl rfl h14 d_Op_perform_102 (fun H locs hP hD hS => ?_)
      have hP : va_P g.1 classes (w_op_7_27ce g a_op a_ki a_tg a_fi a_se a_oc a_cp r_op r_ki r_tg r_fi r_se r_oc (upd r_cp (r_tg v1.toNatClampNeg).toNatClampNeg (y3 - y6))) H := hP
      have hD : va_D A (w_op_7_27ce g a_op a_ki a_tg a_fi a_se a_oc a_cp r_op r_ki r_tg r_fi r_se r_oc (upd r_cp (r_tg v1.toNatClampNeg).toNatClampNeg (y3 - y6))) := hD
      refine lv_goto (tgt := 156) hx hb d_Op_perform_103 (by decide) ?_
      have hE := Option.some.inj hE
      rw [hE]
      exact W.vret hx hb hr (fun t ht hW => ⟨⟨rfl, by rw [ht]; exact hP, va_K.moved hW.alike hK, hD⟩, hS.F ht⟩) hS.2.2 d_Op_perform_156 hlocks
    · have hE := it_f hE c12
      by_cases c15 : x8 = 2
      · have hE := it_t hE c15
        refine lv_tableIn (tgt := 106) hx hb d_Op_perform_40 (by rw [c15]; decide) (by rw [c15]; decide) (by rw [c15]; rfl) (by decide) ?_
        refine lv_aload_n hx hb d_Op_perform_106 rfl (lv_at hl 2 rfl) ?_
        refine va_get (D := g.1) (ci := 4) (v := .ref a_cp) (C := "MoveDesk$Operations") (T := F_Op) (N := 7) hx hb hts i_Op hown hK hP 0 rfl rfl 5 (by decide) (hts _ m_163) (fun _ h9 => h9) rfl d_Op_perform_107 ?_
        refine lv_aload_n hx hb d_Op_perform_110 rfl (lv_at hl 2 rfl) ?_
        refine va_get (D := g.1) (ci := 4) (v := .ref a_tg) (C := "MoveDesk$Operations") (T := F_Op) (N := 7) hx hb hts i_Op hown hK hP 0 rfl rfl 1 (by decide) (hts _ m_159) (fun _ h9 => h9) rfl d_Op_perform_111 ?_
        refine lv_iload_n hx hb d_Op_perform_114 rfl (lv_at hl 3 rfl) ?_
        have ⟨h16, hE⟩ := ck_at hE
        refine va_iald hx hb hK hP 2 0 rfl rfl h16 d_Op_perform_115 ?_
        refine lv_iload_n hx hb d_Op_perform_116 rfl (lv_at hl 1 rfl) ?_
        refine lv_iload_n hx hb d_Op_perform_117 rfl (lv_at hl 0 rfl) ?_
        refine lv_imul hx hb d_Op_perform_118 ?_
        have ⟨h17, hE⟩ := ck_at hE
        refine va_iast hx hb hK hP hD hS 6 0 rfl rfl h17 d_Op_perform_119 (fun H locs hP hD hS => ?_)
        have hP : va_P g.1 classes (w_op_7_27ce g a_op a_ki a_tg a_fi a_se a_oc a_cp r_op r_ki r_tg r_fi r_se r_oc (upd r_cp (r_tg v1.toNatClampNeg).toNatClampNeg (y3 * y6))) H := hP
        have hD : va_D A (w_op_7_27ce g a_op a_ki a_tg a_fi a_se a_oc a_cp r_op r_ki r_tg r_fi r_se r_oc (upd r_cp (r_tg v1.toNatClampNeg).toNatClampNeg (y3 * y6))) := hD
        refine lv_goto (tgt := 156) hx hb d_Op_perform_120 (by decide) ?_
        have hE := Option.some.inj hE
        rw [hE]
        exact W.vret hx hb hr (fun t ht hW => ⟨⟨rfl, by rw [ht]; exact hP, va_K.moved hW.alike hK, hD⟩, hS.F ht⟩) hS.2.2 d_Op_perform_156 hlocks
      · have hE := it_f hE c15
        by_cases c18 : x8 = 3
        · have hE := it_t hE c18
          refine lv_tableIn (tgt := 123) hx hb d_Op_perform_40 (by rw [c18]; decide) (by rw [c18]; decide) (by rw [c18]; rfl) (by decide) ?_
          refine lv_aload_n hx hb d_Op_perform_123 rfl (lv_at hl 2 rfl) ?_
          refine va_get (D := g.1) (ci := 4) (v := .ref a_cp) (C := "MoveDesk$Operations") (T := F_Op) (N := 7) hx hb hts i_Op hown hK hP 0 rfl rfl 5 (by decide) (hts _ m_163) (fun _ h9 => h9) rfl d_Op_perform_124 ?_
          refine lv_aload_n hx hb d_Op_perform_127 rfl (lv_at hl 2 rfl) ?_
          refine va_get (D := g.1) (ci := 4) (v := .ref a_tg) (C := "MoveDesk$Operations") (T := F_Op) (N := 7) hx hb hts i_Op hown hK hP 0 rfl rfl 1 (by decide) (hts _ m_159) (fun _ h9 => h9) rfl d_Op_perform_128 ?_
          refine lv_iload_n hx hb d_Op_perform_131 rfl (lv_at hl 3 rfl) ?_
          have ⟨h19, hE⟩ := ck_at hE
          refine va_iald hx hb hK hP 2 0 rfl rfl h19 d_Op_perform_132 ?_
          refine lv_aload_n hx hb d_Op_perform_133 rfl (lv_at hl 2 rfl) ?_
          refine va_get (D := g.1) (ci := 4) (v := .ref a_cp) (C := "MoveDesk$Operations") (T := F_Op) (N := 7) hx hb hts i_Op hown hK hP 0 rfl rfl 5 (by decide) (hts _ m_163) (fun _ h9 => h9) rfl d_Op_perform_134 ?_
          refine lv_iload_n hx hb d_Op_perform_137 rfl (lv_at hl 1 rfl) ?_
          obtain ⟨y20, hy20, hE⟩ := bd_at hE
          refine kSN (index := 69) (As := [.int y3]) (rest := [.ref a_cp, .int (r_tg v1.toNatClampNeg), .ref a_cp]) (ws2 := (w_op_7_27ce g a_op a_ki a_tg a_fi a_se a_oc a_cp r_op r_ki r_tg r_fi r_se r_oc r_cp)) M hP hD hS hl.1 (c_Md_memoryPlace l g   y3 y20 hy20) nw_810 m_756 m_1 m_757 hs_Md_memoryPlace rfl rfl rfl ⟨by decide, by decide⟩ ⟨by decide, by decide⟩ [] [0, 1, 2, 3, 4, 5, 6] [0, 1, 2, 3, 4, 5, 6] rfl rfl rfl rfl (by decide) rfl rfl rfl (Nat.le_of_ble_eq_true rfl) d_Op_perform_138 (fun H locs hP hD hS => ?_)
          refine W.eq (g2 := F0 m 141 ls [.int y20, .ref a_cp, .int (r_tg v1.toNatClampNeg), .ref a_cp]) rfl ?_
          have ⟨h21, hE⟩ := ck_at hE
          refine va_iald hx hb hK hP 6 0 rfl rfl h21 d_Op_perform_141 ?_
          have ⟨h22, hE⟩ := ck_at hE
          refine va_iast hx hb hK hP hD hS 6 0 rfl rfl h22 d_Op_perform_142 (fun H locs hP hD hS => ?_)
          have hP : va_P g.1 classes (w_op_7_27ce g a_op a_ki a_tg a_fi a_se a_oc a_cp r_op r_ki r_tg r_fi r_se r_oc (upd r_cp (r_tg v1.toNatClampNeg).toNatClampNeg (r_cp y20.toNatClampNeg))) H := hP
          have hD : va_D A (w_op_7_27ce g a_op a_ki a_tg a_fi a_se a_oc a_cp r_op r_ki r_tg r_fi r_se r_oc (upd r_cp (r_tg v1.toNatClampNeg).toNatClampNeg (r_cp y20.toNatClampNeg))) := hD
          refine lv_goto (tgt := 156) hx hb d_Op_perform_143 (by decide) ?_
          have hE := Option.some.inj hE
          rw [hE]
          exact W.vret hx hb hr (fun t ht hW => ⟨⟨rfl, by rw [ht]; exact hP, va_K.moved hW.alike hK, hD⟩, hS.F ht⟩) hS.2.2 d_Op_perform_156 hlocks
        · have hE := it_f hE c18
          refine lv_tableOut (tgt := 146) hx hb d_Op_perform_40 (by have q0 := lv_neT c9 (a := 0) (by decide); have q1 := lv_neT c12 (a := 1) (by decide); have q2 := lv_neT c15 (a := 2) (by decide); have q3 := lv_neT c18 (a := 3) (by decide); omega) (by decide) ?_
          refine lv_aload_n hx hb d_Op_perform_146 rfl (lv_at hl 2 rfl) ?_
          refine va_get (D := g.1) (ci := 4) (v := .ref a_cp) (C := "MoveDesk$Operations") (T := F_Op) (N := 7) hx hb hts i_Op hown hK hP 0 rfl rfl 5 (by decide) (hts _ m_163) (fun _ h9 => h9) rfl d_Op_perform_147 ?_
          refine lv_iload_n hx hb d_Op_perform_150 rfl (lv_at hl 1 rfl) ?_
          obtain ⟨y23, hy23, hE⟩ := bd_at hE
          refine kSN (index := 69) (As := [.int y3]) (rest := [.ref a_cp]) (ws2 := (w_op_7_27ce g a_op a_ki a_tg a_fi a_se a_oc a_cp r_op r_ki r_tg r_fi r_se r_oc r_cp)) M hP hD hS hl.1 (c_Md_memoryPlace l g   y3 y23 hy23) nw_810 m_756 m_1 m_757 hs_Md_memoryPlace rfl rfl rfl ⟨by decide, by decide⟩ ⟨by decide, by decide⟩ [] [0, 1, 2, 3, 4, 5, 6] [0, 1, 2, 3, 4, 5, 6] rfl rfl rfl rfl (by decide) rfl rfl rfl (Nat.le_of_ble_eq_true rfl) d_Op_perform_151 (fun H locs hP hD hS => ?_)
          refine W.eq (g2 := F0 m 154 ls [.int y23, .ref a_cp]) rfl ?_
          refine lv_iload_n hx hb d_Op_perform_154 rfl (lv_at hl 0 rfl) ?_
          have ⟨h24, hE⟩ := ck_at hE
          refine va_iast hx hb hK hP hD hS 6 0 rfl rfl h24 d_Op_perform_155 (fun H locs hP hD hS => ?_)
          have hP : va_P g.1 classes (w_op_7_27ce g a_op a_ki a_tg a_fi a_se a_oc a_cp r_op r_ki r_tg r_fi r_se r_oc (upd r_cp y23.toNatClampNeg y6)) H := hP
          have hD : va_D A (w_op_7_27ce g a_op a_ki a_tg a_fi a_se a_oc a_cp r_op r_ki r_tg r_fi r_se r_oc (upd r_cp y23.toNatClampNeg y6)) := hD
          have hE := Option.some.inj hE
          rw [hE]
          exact W.vret hx hb hr (fun t ht hW => ⟨⟨rfl, by rw [ht]; exact hP, va_K.moved hW.alike hK, hD⟩, hS.F ht⟩) hS.2.2 d_Op_perform_156 hlocks
abbrev rm_Op_valueBehind : Room := { frames := 2, cells := 0, slots := 0, locals := 45 }
set_option maxHeartbeats 4000000 in
set_option maxRecDepth 100000 in
theorem wl_Op_valueBehind_14 {p : Program} {l : Launch} {e : Env} {s : State} {m : MethodId} {args : Array Value} {below : List Frame} {meth : Method} {c : Code} {A : Nat → Prop} {g : GT} {a_wo : Nat} {a_op : Nat} {a_ki : Nat} {a_tg : Nat} {a_fi : Nat} {a_se : Nat} {a_oc : Nat} {a_cp : Nat} {y : Int32 × (Nat → Int32)} (M : MX p s m args meth c b_Op_valueBehind 4 (some .int) "MoveDesk$Operations" g A) : ∀ n : Nat, ∀ (r_wo : Nat → Int32) (r_op : Nat → Int32) (r_ki : Nat → Int32) (r_tg : Nat → Int32) (r_fi : Nat → Int32) (r_se : Nat → Int32) (r_oc : Nat → Int32) (r_cp : Nat → Int32) (v2 : Int32) (v3 : Int32) (H : Heap) (locs : List Loc) (ls : Array Slot), some y = (f_Op_valueBehind_14 n) r_wo r_op r_ki r_tg r_fi r_se r_oc r_cp v2 v3 → va_P g.1 classes (w_wo_8_9193 g a_wo a_op a_ki a_tg a_fi a_se a_oc a_cp r_wo r_op r_ki r_tg r_fi r_se r_oc r_cp) H → va_D A (w_wo_8_9193 g a_wo a_op a_ki a_tg a_fi a_se a_oc a_cp r_wo r_op r_ki r_tg r_fi r_se r_oc r_cp) → va_S A s.heap H locs → lv_has ls 4 [(0, .ref a_op), (2, .int v2), (3, .int v3)] → W p l e rm_Op_valueBehind s m args below meth c H locs 0 0 (MQ below (QW g (some (.int y.1)) (w_wo_8_9193 g a_wo a_op a_ki a_tg a_fi a_se a_oc a_cp r_wo r_op r_ki r_tg r_fi r_se r_oc y.2) A) args s 0 0 A) (F0 m 14 ls []) := by
  obtain ⟨hx, hb, hr, hml, hown, hts, hlocks, hA, hK, hG⟩ := id M
  intro n
  induction n with
  | zero =>
    intro r_wo r_op r_ki r_tg r_fi r_se r_oc r_cp v2 v3 H locs ls hE hP hD hS hl
    rw [f_Op_valueBehind_14] at hE
    cases hE
  | succ n ih =>
    intro r_wo r_op r_ki r_tg r_fi r_se r_oc r_cp v2 v3 H locs ls hE hP hD hS hl
    rw [f_Op_valueBehind_14] at hE
    refine lv_iload_n hx hb d_Op_valueBehind_14 rfl (lv_at hl 2 rfl) ?_
    refine lv_aload_n hx hb d_Op_valueBehind_15 rfl (lv_at hl 0 rfl) ?_
    refine va_get (D := g.1) (ci := 4) (v := .int (r_op 6)) (C := "MoveDesk$Operations") (T := F_Op) (N := 7) hx hb hts i_Op hown hK hP 1 rfl rfl 6 (by decide) (hts _ m_164) (fun _ h9 => h9) rfl d_Op_valueBehind_16 ?_
    refine lv_icmp_ge (tgt := 33) hx hb d_Op_valueBehind_19 (by decide) (fun c1 => ?_) (fun c1 => ?_)
    · have hE := it_t hE c1
      refine lv_aload_n hx hb d_Op_valueBehind_33 rfl (lv_at hl 0 rfl) ?_
      refine va_get (D := g.1) (ci := 4) (v := .ref a_cp) (C := "MoveDesk$Operations") (T := F_Op) (N := 7) hx hb hts i_Op hown hK hP 1 rfl rfl 5 (by decide) (hts _ m_163) (fun _ h9 => h9) rfl d_Op_valueBehind_34 ?_
      refine lv_iload_n hx hb d_Op_valueBehind_37 rfl (lv_at hl 1 rfl) ?_
      have ⟨h2, hE⟩ := ck_at hE
      refine va_iald hx hb hK hP 7 0 rfl rfl h2 d_Op_valueBehind_38 ?_
      have hE := Option.some.inj hE
      rw [hE]
      exact W.iret (v := (r_cp v2.toNatClampNeg)) hx hb hr (fun t ht hW => ⟨⟨rfl, by rw [ht]; exact hP, va_K.moved hW.alike hK, hD⟩, hS.F ht⟩) hS.2.2 d_Op_valueBehind_39 hlocks
    · have hE := it_f hE c1
      refine lv_aload_n hx hb d_Op_valueBehind_22 rfl (lv_at hl 0 rfl) ?_
      refine lv_iload_n hx hb d_Op_valueBehind_23 rfl (lv_at hl 2 rfl) ?_
      obtain ⟨y3, hy3, hE⟩ := bd_at hE
      refine kV (C := "MoveDesk$Operations") (index := 61) (As := [.int v3]) (rest := []) (ws2 := (w_wo_8_9193 g a_wo a_op a_ki a_tg a_fi a_se a_oc a_cp r_wo r_op r_ki r_tg r_fi r_se r_oc y3)) M hP hD hS hl.1 (c_Op_perform l g a_op a_ki a_tg a_fi a_se a_oc a_cp r_op r_ki r_tg r_fi r_se r_oc r_cp v3 y3 hy3) m_802 m_804 s_29 m_6 m_805 hd_Op_perform rfl rfl rfl ⟨by decide, by decide⟩ ⟨by decide, by decide⟩ 4 0 rfl rfl rfl [1, 2, 3, 4, 5, 6, 7] [0] [0, 1, 2, 3, 4, 5, 6, 7] rfl rfl rfl rfl (by decide) rfl rfl rfl (Nat.le_of_ble_eq_true rfl) d_Op_valueBehind_24 (fun H locs hP hD hS => ?_)
      refine W.eq (g2 := F0 m 27 ls []) rfl ?_
      obtain ⟨x4, ex4⟩ : ∃ z : Int32, z = v3 + 1 := ⟨_, rfl⟩
      have hE := nm_at hE ex4
      refine lv_iinc (v := x4) (lv' := [(3, .int x4), (0, .ref a_op), (2, .int v2)]) hx hb d_Op_valueBehind_27 hl (k := 2) rfl (by rw [ex4]; rfl) (by decide) rfl (fun ls hl => ?_)
      refine lv_goto (tgt := 14) hx hb d_Op_valueBehind_30 (by decide) ?_
      exact ih _ _ _ _ _ _ _ _ _ _ _ _ _ hE hP hD hS (lv_sub hl [1, 2, 0] rfl)
set_option maxHeartbeats 4000000 in
set_option maxRecDepth 100000 in
theorem c_Op_valueBehind (l : Launch) (g : GT) (a_wo : Nat) (a_op : Nat) (a_ki : Nat) (a_tg : Nat) (a_fi : Nat) (a_se : Nat) (a_oc : Nat) (a_cp : Nat) (r_wo : Nat → Int32) (r_op : Nat → Int32) (r_ki : Nat → Int32) (r_tg : Nat → Int32) (r_fi : Nat → Int32) (r_se : Nat → Int32) (r_oc : Nat → Int32) (r_cp : Nat → Int32) (v2 : Int32) (y : Int32 × (Nat → Int32)) (hy : some y = f_Op_valueBehind r_wo r_op r_ki r_tg r_fi r_se r_oc r_cp v2) : Ct l y_Op_valueBehind (.code y_Op_valueBehind b_Op_valueBehind 4 (some .int)) rm_Op_valueBehind g [.ref a_op, .ref a_wo, .int v2] (w_wo_8_9193 g a_wo a_op a_ki a_tg a_fi a_se a_oc a_cp r_wo r_op r_ki r_tg r_fi r_se r_oc r_cp) (w_wo_8_9193 g a_wo a_op a_ki a_tg a_fi a_se a_oc a_cp r_wo r_op r_ki r_tg r_fi r_se r_oc y.2) (some (.int y.1)) := by
  refine ct_in (C := "MoveDesk$Operations") rfl (by decide) (Nat.le_of_ble_eq_true rfl) (fun p e s m below meth c A ls M hP hD hS hl => ?_)
  obtain ⟨hx, hb, hr, hml, hown, hts, hlocks, hA, hK, hG⟩ := id M
  have hl : lv_has ls 4 [(0, .ref a_op), (1, .ref a_wo), (2, .int v2)] := hl
  have hE := hy
  rw [f_Op_valueBehind] at hE
  refine lv_aload_n hx hb d_Op_valueBehind_0 rfl (lv_at hl 1 rfl) ?_
  refine lv_iconst (v := 0) hx hb d_Op_valueBehind_1 (by decide) ?_
  refine lv_aload_n hx hb d_Op_valueBehind_2 rfl (lv_at hl 0 rfl) ?_
  refine va_get (D := g.1) (ci := 4) (v := .ref a_cp) (C := "MoveDesk$Operations") (T := F_Op) (N := 7) hx hb hts i_Op hown hK hP 1 rfl rfl 5 (by decide) (hts _ m_163) (fun _ h9 => h9) rfl d_Op_valueBehind_3 ?_
  refine lv_iconst (v := 0) hx hb d_Op_valueBehind_6 (by decide) ?_
  refine lv_bipush (v := 72) hx hb d_Op_valueBehind_7 (by decide) ?_
  refine va_copyi hx hb (hml.trans hl.1.symm) hown (hts _ m_799) (hts _ m_801) (hts _ m_800) (hts _ m_18) hK hP hD hS 0 7 0 0 rfl rfl rfl rfl rfl (by decide) (by decide) (by decide) (by decide) (by decide) (fun _ _ => rfl) (by decide) (by decide) d_Op_valueBehind_9 (fun H locs hP hD hS => ?_)
  have hP : va_P g.1 classes (w_wo_8_9193 g a_wo a_op a_ki a_tg a_fi a_se a_oc a_cp r_wo r_op r_ki r_tg r_fi r_se r_oc (va_cpy r_wo r_cp (0 : Int32).toNatClampNeg (0 : Int32).toNatClampNeg (72 : Int32).toNatClampNeg)) H := hP
  have hD : va_D A (w_wo_8_9193 g a_wo a_op a_ki a_tg a_fi a_se a_oc a_cp r_wo r_op r_ki r_tg r_fi r_se r_oc (va_cpy r_wo r_cp (0 : Int32).toNatClampNeg (0 : Int32).toNatClampNeg (72 : Int32).toNatClampNeg)) := hD
  refine lv_iconst (v := 0) hx hb d_Op_valueBehind_12 (by decide) ?_
  refine lv_istore_n (lv' := [(3, .int 0), (0, .ref a_op), (1, .ref a_wo), (2, .int v2)]) hx hb d_Op_valueBehind_13 rfl hl (by decide) rfl (fun ls hl => ?_)
  exact wl_Op_valueBehind_14 M 5000 _ _ _ _ _ _ _ _ _ _ _ _ _ hE hP hD hS (lv_sub hl [1, 3, 0] rfl)
