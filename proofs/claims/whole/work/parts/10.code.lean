theorem m_3 : (.initialized "MoveDesk$Code" : Cond) ∈ bw := mw 3 (by decide +kernel) rfl
theorem m_39 : (.fieldLink "MoveDesk$Code" 27 "MoveDesk$Code" "buses" "I" : Cond) ∈ bw := mw 39 (by decide +kernel) rfl
theorem m_41 : (.fieldLink "MoveDesk$Code" 9 "MoveDesk$Code" "taken" "[I" : Cond) ∈ bw := mw 41 (by decide +kernel) rfl
theorem m_42 : (.fieldLink "MoveDesk$Code" 15 "MoveDesk$Code" "guards" "[I" : Cond) ∈ bw := mw 42 (by decide +kernel) rfl
theorem m_43 : (.fieldLink "MoveDesk$Code" 18 "MoveDesk$Code" "sources" "[I" : Cond) ∈ bw := mw 43 (by decide +kernel) rfl
theorem m_44 : (.fieldLink "MoveDesk$Code" 21 "MoveDesk$Code" "constants" "[I" : Cond) ∈ bw := mw 44 (by decide +kernel) rfl
theorem m_45 : (.fieldLink "MoveDesk$Code" 24 "MoveDesk$Code" "destinations" "[I" : Cond) ∈ bw := mw 45 (by decide +kernel) rfl
theorem m_302 : (.instanceMethod ⟨"MoveDesk$Code", "isTaken", "(II)Z"⟩ : Cond) ∈ bw := mw 302 (by decide +kernel) rfl
theorem m_303 : (.selects "MoveDesk$Code" ⟨"MoveDesk$Code", "isTaken", "(II)Z"⟩ ⟨"MoveDesk$Code", "isTaken", "(II)Z"⟩ : Cond) ∈ bw := mw 303 (by decide +kernel) rfl
theorem m_304 : (.code ⟨"MoveDesk$Code", "isTaken", "(II)Z"⟩ prog_3_method_3_code 3 (some .boolean) : Cond) ∈ bw := mw 304 (by decide +kernel) rfl
theorem m_309 : (.methodLink "MoveDesk$Code" 39 ⟨"MoveDesk$Code", "source", "(II)I"⟩ : Cond) ∈ bw := mw 309 (by decide +kernel) rfl
theorem m_310 : (.instanceMethod ⟨"MoveDesk$Code", "source", "(II)I"⟩ : Cond) ∈ bw := mw 310 (by decide +kernel) rfl
theorem m_311 : (.selects "MoveDesk$Code" ⟨"MoveDesk$Code", "source", "(II)I"⟩ ⟨"MoveDesk$Code", "source", "(II)I"⟩ : Cond) ∈ bw := mw 311 (by decide +kernel) rfl
theorem m_312 : (.code ⟨"MoveDesk$Code", "source", "(II)I"⟩ prog_3_method_9_code 3 (some .int) : Cond) ∈ bw := mw 312 (by decide +kernel) rfl
theorem m_313 : (.methodLink "MoveDesk$Code" 43 ⟨"MoveDesk$Code", "constant", "(II)I"⟩ : Cond) ∈ bw := mw 313 (by decide +kernel) rfl
theorem m_314 : (.instanceMethod ⟨"MoveDesk$Code", "constant", "(II)I"⟩ : Cond) ∈ bw := mw 314 (by decide +kernel) rfl
theorem m_315 : (.selects "MoveDesk$Code" ⟨"MoveDesk$Code", "constant", "(II)I"⟩ ⟨"MoveDesk$Code", "constant", "(II)I"⟩ : Cond) ∈ bw := mw 315 (by decide +kernel) rfl
theorem m_316 : (.code ⟨"MoveDesk$Code", "constant", "(II)I"⟩ prog_3_method_10_code 3 (some .int) : Cond) ∈ bw := mw 316 (by decide +kernel) rfl
theorem m_317 : (.methodLink "MoveDesk$Code" 46 ⟨"MoveDesk$Code", "destination", "(II)I"⟩ : Cond) ∈ bw := mw 317 (by decide +kernel) rfl
theorem m_318 : (.instanceMethod ⟨"MoveDesk$Code", "destination", "(II)I"⟩ : Cond) ∈ bw := mw 318 (by decide +kernel) rfl
theorem m_319 : (.selects "MoveDesk$Code" ⟨"MoveDesk$Code", "destination", "(II)I"⟩ ⟨"MoveDesk$Code", "destination", "(II)I"⟩ : Cond) ∈ bw := mw 319 (by decide +kernel) rfl
theorem m_320 : (.code ⟨"MoveDesk$Code", "destination", "(II)I"⟩ prog_3_method_11_code 3 (some .int) : Cond) ∈ bw := mw 320 (by decide +kernel) rfl
theorem m_357 : (.methodLink "MoveDesk$Code" 49 ⟨"MoveDesk$Code", "allows", "(II)Z"⟩ : Cond) ∈ bw := mw 357 (by decide +kernel) rfl
theorem m_358 : (.static ⟨"MoveDesk$Code", "allows", "(II)Z"⟩ : Cond) ∈ bw := mw 358 (by decide +kernel) rfl
theorem m_359 : (.code ⟨"MoveDesk$Code", "allows", "(II)Z"⟩ prog_3_method_13_code 2 (some .boolean) : Cond) ∈ bw := mw 359 (by decide +kernel) rfl
theorem m_539 : (.instanceMethod ⟨"MoveDesk$Code", "put", "(IIIIII)V"⟩ : Cond) ∈ bw := mw 539 (by decide +kernel) rfl
theorem m_540 : (.selects "MoveDesk$Code" ⟨"MoveDesk$Code", "put", "(IIIIII)V"⟩ ⟨"MoveDesk$Code", "put", "(IIIIII)V"⟩ : Cond) ∈ bw := mw 540 (by decide +kernel) rfl
theorem m_541 : (.code ⟨"MoveDesk$Code", "put", "(IIIIII)V"⟩ prog_3_method_4_code 8 none : Cond) ∈ bw := mw 541 (by decide +kernel) rfl
theorem m_553 : (.methodLink "MoveDesk$Code" 31 ⟨"MoveDesk$Code", "isTaken", "(II)Z"⟩ : Cond) ∈ bw := mw 553 (by decide +kernel) rfl
theorem m_702 : (.methodLink "MoveDesk$Code" 35 ⟨"MoveDesk$Code", "put", "(IIIIII)V"⟩ : Cond) ∈ bw := mw 702 (by decide +kernel) rfl
abbrev w_co (g : GT) (a_co : Nat) (a_ta : Nat) (a_gu : Nat) (a_so : Nat) (a_cn : Nat) (a_de : Nat) (r_co : Nat → Int32) : va_W := [kO a_co 1 [.int (r_co 0), .ref a_ta, .ref a_gu, .ref a_so, .ref a_cn, .ref a_de]]
abbrev b_Co_reaches : ByteArray := prog_3_method_2_code
abbrev y_Co_reaches : MethodName := ⟨"MoveDesk$Code", "reaches", "(II)Z"⟩
theorem hd_Co_reaches : y_Co_reaches.cls = "MoveDesk$Code" ∧ y_Co_reaches.cls ≠ "java/lang/invoke/MethodHandle" ∧ y_Co_reaches.cls ≠ "java/lang/invoke/VarHandle" ∧ (parseMethodDescriptor y_Co_reaches.desc).map (fun d => d.parameters.length) = some 2 := by decide +kernel
theorem d_Co_reaches_0 : decode b_Co_reaches 0 = .ok (.iload_n 1, 1) := by decide +kernel
theorem d_Co_reaches_1 : decode b_Co_reaches 1 = .ok (.ifCond .lt 25, 3) := by decide +kernel
theorem d_Co_reaches_4 : decode b_Co_reaches 4 = .ok (.iload_n 1, 1) := by decide +kernel
theorem d_Co_reaches_5 : decode b_Co_reaches 5 = .ok (.bipush 64, 2) := by decide +kernel
theorem d_Co_reaches_7 : decode b_Co_reaches 7 = .ok (.if_icmp .ge 19, 3) := by decide +kernel
theorem d_Co_reaches_10 : decode b_Co_reaches 10 = .ok (.iload_n 2, 1) := by decide +kernel
theorem d_Co_reaches_11 : decode b_Co_reaches 11 = .ok (.ifCond .lt 15, 3) := by decide +kernel
theorem d_Co_reaches_14 : decode b_Co_reaches 14 = .ok (.iload_n 2, 1) := by decide +kernel
theorem d_Co_reaches_15 : decode b_Co_reaches 15 = .ok (.aload_n 0, 1) := by decide +kernel
theorem d_Co_reaches_16 : decode b_Co_reaches 16 = .ok (.getfield 27, 3) := by decide +kernel
theorem d_Co_reaches_19 : decode b_Co_reaches 19 = .ok (.if_icmp .ge 7, 3) := by decide +kernel
theorem d_Co_reaches_22 : decode b_Co_reaches 22 = .ok (.iconst 1, 1) := by decide +kernel
theorem d_Co_reaches_23 : decode b_Co_reaches 23 = .ok (.goto 4, 3) := by decide +kernel
theorem d_Co_reaches_26 : decode b_Co_reaches 26 = .ok (.iconst 0, 1) := by decide +kernel
theorem d_Co_reaches_27 : decode b_Co_reaches 27 = .ok (.ireturn, 1) := by decide +kernel
abbrev w_co_ta (g : GT) (a_co : Nat) (a_ta : Nat) (a_gu : Nat) (a_so : Nat) (a_cn : Nat) (a_de : Nat) (r_co : Nat → Int32) (r_ta : Nat → Int32) : va_W := [kO a_co 1 [.int (r_co 0), .ref a_ta, .ref a_gu, .ref a_so, .ref a_cn, .ref a_de], kI g a_ta 64 r_ta]
abbrev b_Co_isTaken : ByteArray := prog_3_method_3_code
abbrev y_Co_isTaken : MethodName := ⟨"MoveDesk$Code", "isTaken", "(II)Z"⟩
theorem hd_Co_isTaken : y_Co_isTaken.cls = "MoveDesk$Code" ∧ y_Co_isTaken.cls ≠ "java/lang/invoke/MethodHandle" ∧ y_Co_isTaken.cls ≠ "java/lang/invoke/VarHandle" ∧ (parseMethodDescriptor y_Co_isTaken.desc).map (fun d => d.parameters.length) = some 2 := by decide +kernel
theorem d_Co_isTaken_0 : decode b_Co_isTaken 0 = .ok (.aload_n 0, 1) := by decide +kernel
theorem d_Co_isTaken_1 : decode b_Co_isTaken 1 = .ok (.getfield 9, 3) := by decide +kernel
theorem d_Co_isTaken_4 : decode b_Co_isTaken 4 = .ok (.iload_n 1, 1) := by decide +kernel
theorem d_Co_isTaken_5 : decode b_Co_isTaken 5 = .ok (.iaload, 1) := by decide +kernel
theorem d_Co_isTaken_6 : decode b_Co_isTaken 6 = .ok (.iload_n 2, 1) := by decide +kernel
theorem d_Co_isTaken_7 : decode b_Co_isTaken 7 = .ok (.ishr, 1) := by decide +kernel
theorem d_Co_isTaken_8 : decode b_Co_isTaken 8 = .ok (.iconst 1, 1) := by decide +kernel
theorem d_Co_isTaken_9 : decode b_Co_isTaken 9 = .ok (.iand, 1) := by decide +kernel
theorem d_Co_isTaken_10 : decode b_Co_isTaken 10 = .ok (.ifCond .eq 7, 3) := by decide +kernel
theorem d_Co_isTaken_13 : decode b_Co_isTaken 13 = .ok (.iconst 1, 1) := by decide +kernel
theorem d_Co_isTaken_14 : decode b_Co_isTaken 14 = .ok (.goto 4, 3) := by decide +kernel
theorem d_Co_isTaken_17 : decode b_Co_isTaken 17 = .ok (.iconst 0, 1) := by decide +kernel
theorem d_Co_isTaken_18 : decode b_Co_isTaken 18 = .ok (.ireturn, 1) := by decide +kernel
abbrev w_co_ta_gu_so_cn_de (g : GT) (a_co : Nat) (a_ta : Nat) (a_gu : Nat) (a_so : Nat) (a_cn : Nat) (a_de : Nat) (r_co : Nat → Int32) (r_ta : Nat → Int32) (r_gu : Nat → Int32) (r_so : Nat → Int32) (r_cn : Nat → Int32) (r_de : Nat → Int32) : va_W := [kO a_co 1 [.int (r_co 0), .ref a_ta, .ref a_gu, .ref a_so, .ref a_cn, .ref a_de], kI g a_ta 64 r_ta, kI g a_gu 256 r_gu, kI g a_so 256 r_so, kI g a_cn 256 r_cn, kI g a_de 256 r_de]
abbrev b_Co_put : ByteArray := prog_3_method_4_code
abbrev y_Co_put : MethodName := ⟨"MoveDesk$Code", "put", "(IIIIII)V"⟩
theorem hd_Co_put : y_Co_put.cls = "MoveDesk$Code" ∧ y_Co_put.cls ≠ "java/lang/invoke/MethodHandle" ∧ y_Co_put.cls ≠ "java/lang/invoke/VarHandle" ∧ (parseMethodDescriptor y_Co_put.desc).map (fun d => d.parameters.length) = some 6 := by decide +kernel
theorem d_Co_put_0 : decode b_Co_put 0 = .ok (.iload_n 1, 1) := by decide +kernel
theorem d_Co_put_1 : decode b_Co_put 1 = .ok (.iconst 4, 1) := by decide +kernel
theorem d_Co_put_2 : decode b_Co_put 2 = .ok (.imul, 1) := by decide +kernel
theorem d_Co_put_3 : decode b_Co_put 3 = .ok (.iload_n 2, 1) := by decide +kernel
theorem d_Co_put_4 : decode b_Co_put 4 = .ok (.iadd, 1) := by decide +kernel
theorem d_Co_put_5 : decode b_Co_put 5 = .ok (.istore 7, 2) := by decide +kernel
theorem d_Co_put_7 : decode b_Co_put 7 = .ok (.aload_n 0, 1) := by decide +kernel
theorem d_Co_put_8 : decode b_Co_put 8 = .ok (.getfield 9, 3) := by decide +kernel
theorem d_Co_put_11 : decode b_Co_put 11 = .ok (.iload_n 1, 1) := by decide +kernel
theorem d_Co_put_12 : decode b_Co_put 12 = .ok (.dup2, 1) := by decide +kernel
theorem d_Co_put_13 : decode b_Co_put 13 = .ok (.iaload, 1) := by decide +kernel
theorem d_Co_put_14 : decode b_Co_put 14 = .ok (.iconst 1, 1) := by decide +kernel
theorem d_Co_put_15 : decode b_Co_put 15 = .ok (.iload_n 2, 1) := by decide +kernel
theorem d_Co_put_16 : decode b_Co_put 16 = .ok (.ishl, 1) := by decide +kernel
theorem d_Co_put_17 : decode b_Co_put 17 = .ok (.ior, 1) := by decide +kernel
theorem d_Co_put_18 : decode b_Co_put 18 = .ok (.iastore, 1) := by decide +kernel
theorem d_Co_put_19 : decode b_Co_put 19 = .ok (.aload_n 0, 1) := by decide +kernel
theorem d_Co_put_20 : decode b_Co_put 20 = .ok (.getfield 15, 3) := by decide +kernel
theorem d_Co_put_23 : decode b_Co_put 23 = .ok (.iload 7, 2) := by decide +kernel
theorem d_Co_put_25 : decode b_Co_put 25 = .ok (.iload_n 3, 1) := by decide +kernel
theorem d_Co_put_26 : decode b_Co_put 26 = .ok (.iastore, 1) := by decide +kernel
theorem d_Co_put_27 : decode b_Co_put 27 = .ok (.aload_n 0, 1) := by decide +kernel
theorem d_Co_put_28 : decode b_Co_put 28 = .ok (.getfield 18, 3) := by decide +kernel
theorem d_Co_put_31 : decode b_Co_put 31 = .ok (.iload 7, 2) := by decide +kernel
theorem d_Co_put_33 : decode b_Co_put 33 = .ok (.iload 4, 2) := by decide +kernel
theorem d_Co_put_35 : decode b_Co_put 35 = .ok (.iastore, 1) := by decide +kernel
theorem d_Co_put_36 : decode b_Co_put 36 = .ok (.aload_n 0, 1) := by decide +kernel
theorem d_Co_put_37 : decode b_Co_put 37 = .ok (.getfield 21, 3) := by decide +kernel
theorem d_Co_put_40 : decode b_Co_put 40 = .ok (.iload 7, 2) := by decide +kernel
theorem d_Co_put_42 : decode b_Co_put 42 = .ok (.iload 5, 2) := by decide +kernel
theorem d_Co_put_44 : decode b_Co_put 44 = .ok (.iastore, 1) := by decide +kernel
theorem d_Co_put_45 : decode b_Co_put 45 = .ok (.aload_n 0, 1) := by decide +kernel
theorem d_Co_put_46 : decode b_Co_put 46 = .ok (.getfield 24, 3) := by decide +kernel
theorem d_Co_put_49 : decode b_Co_put 49 = .ok (.iload 7, 2) := by decide +kernel
theorem d_Co_put_51 : decode b_Co_put 51 = .ok (.iload 6, 2) := by decide +kernel
theorem d_Co_put_53 : decode b_Co_put 53 = .ok (.iastore, 1) := by decide +kernel
theorem d_Co_put_54 : decode b_Co_put 54 = .ok (.return_, 1) := by decide +kernel
abbrev b_Co_putOnLowestBus : ByteArray := prog_3_method_5_code
abbrev y_Co_putOnLowestBus : MethodName := ⟨"MoveDesk$Code", "putOnLowestBus", "(IIII)V"⟩
theorem hd_Co_putOnLowestBus : y_Co_putOnLowestBus.cls = "MoveDesk$Code" ∧ y_Co_putOnLowestBus.cls ≠ "java/lang/invoke/MethodHandle" ∧ y_Co_putOnLowestBus.cls ≠ "java/lang/invoke/VarHandle" ∧ (parseMethodDescriptor y_Co_putOnLowestBus.desc).map (fun d => d.parameters.length) = some 4 := by decide +kernel
theorem d_Co_putOnLowestBus_0 : decode b_Co_putOnLowestBus 0 = .ok (.iconst 0, 1) := by decide +kernel
theorem d_Co_putOnLowestBus_1 : decode b_Co_putOnLowestBus 1 = .ok (.istore 5, 2) := by decide +kernel
theorem d_Co_putOnLowestBus_3 : decode b_Co_putOnLowestBus 3 = .ok (.iload 5, 2) := by decide +kernel
theorem d_Co_putOnLowestBus_5 : decode b_Co_putOnLowestBus 5 = .ok (.aload_n 0, 1) := by decide +kernel
theorem d_Co_putOnLowestBus_6 : decode b_Co_putOnLowestBus 6 = .ok (.getfield 27, 3) := by decide +kernel
theorem d_Co_putOnLowestBus_9 : decode b_Co_putOnLowestBus 9 = .ok (.if_icmp .ge 32, 3) := by decide +kernel
theorem d_Co_putOnLowestBus_12 : decode b_Co_putOnLowestBus 12 = .ok (.aload_n 0, 1) := by decide +kernel
theorem d_Co_putOnLowestBus_13 : decode b_Co_putOnLowestBus 13 = .ok (.iload_n 1, 1) := by decide +kernel
theorem d_Co_putOnLowestBus_14 : decode b_Co_putOnLowestBus 14 = .ok (.iload 5, 2) := by decide +kernel
theorem d_Co_putOnLowestBus_16 : decode b_Co_putOnLowestBus 16 = .ok (.invokevirtual 31, 3) := by decide +kernel
theorem d_Co_putOnLowestBus_19 : decode b_Co_putOnLowestBus 19 = .ok (.ifCond .ne 16, 3) := by decide +kernel
theorem d_Co_putOnLowestBus_22 : decode b_Co_putOnLowestBus 22 = .ok (.aload_n 0, 1) := by decide +kernel
theorem d_Co_putOnLowestBus_23 : decode b_Co_putOnLowestBus 23 = .ok (.iload_n 1, 1) := by decide +kernel
theorem d_Co_putOnLowestBus_24 : decode b_Co_putOnLowestBus 24 = .ok (.iload 5, 2) := by decide +kernel
theorem d_Co_putOnLowestBus_26 : decode b_Co_putOnLowestBus 26 = .ok (.iconst 0, 1) := by decide +kernel
theorem d_Co_putOnLowestBus_27 : decode b_Co_putOnLowestBus 27 = .ok (.iload_n 2, 1) := by decide +kernel
theorem d_Co_putOnLowestBus_28 : decode b_Co_putOnLowestBus 28 = .ok (.iload_n 3, 1) := by decide +kernel
theorem d_Co_putOnLowestBus_29 : decode b_Co_putOnLowestBus 29 = .ok (.iload 4, 2) := by decide +kernel
theorem d_Co_putOnLowestBus_31 : decode b_Co_putOnLowestBus 31 = .ok (.invokevirtual 35, 3) := by decide +kernel
theorem d_Co_putOnLowestBus_34 : decode b_Co_putOnLowestBus 34 = .ok (.return_, 1) := by decide +kernel
theorem d_Co_putOnLowestBus_35 : decode b_Co_putOnLowestBus 35 = .ok (.iinc 5 1, 3) := by decide +kernel
theorem d_Co_putOnLowestBus_38 : decode b_Co_putOnLowestBus 38 = .ok (.goto (-35), 3) := by decide +kernel
theorem d_Co_putOnLowestBus_41 : decode b_Co_putOnLowestBus 41 = .ok (.return_, 1) := by decide +kernel
abbrev b_Co_drop : ByteArray := prog_3_method_6_code
abbrev y_Co_drop : MethodName := ⟨"MoveDesk$Code", "drop", "(II)Z"⟩
theorem hd_Co_drop : y_Co_drop.cls = "MoveDesk$Code" ∧ y_Co_drop.cls ≠ "java/lang/invoke/MethodHandle" ∧ y_Co_drop.cls ≠ "java/lang/invoke/VarHandle" ∧ (parseMethodDescriptor y_Co_drop.desc).map (fun d => d.parameters.length) = some 2 := by decide +kernel
theorem d_Co_drop_0 : decode b_Co_drop 0 = .ok (.aload_n 0, 1) := by decide +kernel
theorem d_Co_drop_1 : decode b_Co_drop 1 = .ok (.iload_n 1, 1) := by decide +kernel
theorem d_Co_drop_2 : decode b_Co_drop 2 = .ok (.iload_n 2, 1) := by decide +kernel
theorem d_Co_drop_3 : decode b_Co_drop 3 = .ok (.invokevirtual 31, 3) := by decide +kernel
theorem d_Co_drop_6 : decode b_Co_drop 6 = .ok (.istore_n 3, 1) := by decide +kernel
theorem d_Co_drop_7 : decode b_Co_drop 7 = .ok (.aload_n 0, 1) := by decide +kernel
theorem d_Co_drop_8 : decode b_Co_drop 8 = .ok (.getfield 9, 3) := by decide +kernel
theorem d_Co_drop_11 : decode b_Co_drop 11 = .ok (.iload_n 1, 1) := by decide +kernel
theorem d_Co_drop_12 : decode b_Co_drop 12 = .ok (.dup2, 1) := by decide +kernel
theorem d_Co_drop_13 : decode b_Co_drop 13 = .ok (.iaload, 1) := by decide +kernel
theorem d_Co_drop_14 : decode b_Co_drop 14 = .ok (.iconst 1, 1) := by decide +kernel
theorem d_Co_drop_15 : decode b_Co_drop 15 = .ok (.iload_n 2, 1) := by decide +kernel
theorem d_Co_drop_16 : decode b_Co_drop 16 = .ok (.ishl, 1) := by decide +kernel
theorem d_Co_drop_17 : decode b_Co_drop 17 = .ok (.iconst (-1), 1) := by decide +kernel
theorem d_Co_drop_18 : decode b_Co_drop 18 = .ok (.ixor, 1) := by decide +kernel
theorem d_Co_drop_19 : decode b_Co_drop 19 = .ok (.iand, 1) := by decide +kernel
theorem d_Co_drop_20 : decode b_Co_drop 20 = .ok (.iastore, 1) := by decide +kernel
theorem d_Co_drop_21 : decode b_Co_drop 21 = .ok (.iload_n 3, 1) := by decide +kernel
theorem d_Co_drop_22 : decode b_Co_drop 22 = .ok (.ireturn, 1) := by decide +kernel
abbrev b_Co_erase : ByteArray := prog_3_method_7_code
abbrev y_Co_erase : MethodName := ⟨"MoveDesk$Code", "erase", "()V"⟩
theorem hd_Co_erase : y_Co_erase.cls = "MoveDesk$Code" ∧ y_Co_erase.cls ≠ "java/lang/invoke/MethodHandle" ∧ y_Co_erase.cls ≠ "java/lang/invoke/VarHandle" ∧ (parseMethodDescriptor y_Co_erase.desc).map (fun d => d.parameters.length) = some 0 := by decide +kernel
theorem d_Co_erase_0 : decode b_Co_erase 0 = .ok (.iconst 0, 1) := by decide +kernel
theorem d_Co_erase_1 : decode b_Co_erase 1 = .ok (.istore_n 1, 1) := by decide +kernel
theorem d_Co_erase_2 : decode b_Co_erase 2 = .ok (.iload_n 1, 1) := by decide +kernel
theorem d_Co_erase_3 : decode b_Co_erase 3 = .ok (.bipush 64, 2) := by decide +kernel
theorem d_Co_erase_5 : decode b_Co_erase 5 = .ok (.if_icmp .ge 16, 3) := by decide +kernel
theorem d_Co_erase_8 : decode b_Co_erase 8 = .ok (.aload_n 0, 1) := by decide +kernel
theorem d_Co_erase_9 : decode b_Co_erase 9 = .ok (.getfield 9, 3) := by decide +kernel
theorem d_Co_erase_12 : decode b_Co_erase 12 = .ok (.iload_n 1, 1) := by decide +kernel
theorem d_Co_erase_13 : decode b_Co_erase 13 = .ok (.iconst 0, 1) := by decide +kernel
theorem d_Co_erase_14 : decode b_Co_erase 14 = .ok (.iastore, 1) := by decide +kernel
theorem d_Co_erase_15 : decode b_Co_erase 15 = .ok (.iinc 1 1, 3) := by decide +kernel
theorem d_Co_erase_18 : decode b_Co_erase 18 = .ok (.goto (-16), 3) := by decide +kernel
theorem d_Co_erase_21 : decode b_Co_erase 21 = .ok (.return_, 1) := by decide +kernel
abbrev w_co_so (g : GT) (a_co : Nat) (a_ta : Nat) (a_gu : Nat) (a_so : Nat) (a_cn : Nat) (a_de : Nat) (r_co : Nat → Int32) (r_so : Nat → Int32) : va_W := [kO a_co 1 [.int (r_co 0), .ref a_ta, .ref a_gu, .ref a_so, .ref a_cn, .ref a_de], kI g a_so 256 r_so]
abbrev b_Co_source : ByteArray := prog_3_method_9_code
abbrev y_Co_source : MethodName := ⟨"MoveDesk$Code", "source", "(II)I"⟩
theorem hd_Co_source : y_Co_source.cls = "MoveDesk$Code" ∧ y_Co_source.cls ≠ "java/lang/invoke/MethodHandle" ∧ y_Co_source.cls ≠ "java/lang/invoke/VarHandle" ∧ (parseMethodDescriptor y_Co_source.desc).map (fun d => d.parameters.length) = some 2 := by decide +kernel
theorem d_Co_source_0 : decode b_Co_source 0 = .ok (.aload_n 0, 1) := by decide +kernel
theorem d_Co_source_1 : decode b_Co_source 1 = .ok (.getfield 18, 3) := by decide +kernel
theorem d_Co_source_4 : decode b_Co_source 4 = .ok (.iload_n 1, 1) := by decide +kernel
theorem d_Co_source_5 : decode b_Co_source 5 = .ok (.iconst 4, 1) := by decide +kernel
theorem d_Co_source_6 : decode b_Co_source 6 = .ok (.imul, 1) := by decide +kernel
theorem d_Co_source_7 : decode b_Co_source 7 = .ok (.iload_n 2, 1) := by decide +kernel
theorem d_Co_source_8 : decode b_Co_source 8 = .ok (.iadd, 1) := by decide +kernel
theorem d_Co_source_9 : decode b_Co_source 9 = .ok (.iaload, 1) := by decide +kernel
theorem d_Co_source_10 : decode b_Co_source 10 = .ok (.ireturn, 1) := by decide +kernel
abbrev w_co_cn (g : GT) (a_co : Nat) (a_ta : Nat) (a_gu : Nat) (a_so : Nat) (a_cn : Nat) (a_de : Nat) (r_co : Nat → Int32) (r_cn : Nat → Int32) : va_W := [kO a_co 1 [.int (r_co 0), .ref a_ta, .ref a_gu, .ref a_so, .ref a_cn, .ref a_de], kI g a_cn 256 r_cn]
abbrev b_Co_constant : ByteArray := prog_3_method_10_code
abbrev y_Co_constant : MethodName := ⟨"MoveDesk$Code", "constant", "(II)I"⟩
theorem hd_Co_constant : y_Co_constant.cls = "MoveDesk$Code" ∧ y_Co_constant.cls ≠ "java/lang/invoke/MethodHandle" ∧ y_Co_constant.cls ≠ "java/lang/invoke/VarHandle" ∧ (parseMethodDescriptor y_Co_constant.desc).map (fun d => d.parameters.length) = some 2 := by decide +kernel
theorem d_Co_constant_0 : decode b_Co_constant 0 = .ok (.aload_n 0, 1) := by decide +kernel
theorem d_Co_constant_1 : decode b_Co_constant 1 = .ok (.getfield 21, 3) := by decide +kernel
theorem d_Co_constant_4 : decode b_Co_constant 4 = .ok (.iload_n 1, 1) := by decide +kernel
theorem d_Co_constant_5 : decode b_Co_constant 5 = .ok (.iconst 4, 1) := by decide +kernel
theorem d_Co_constant_6 : decode b_Co_constant 6 = .ok (.imul, 1) := by decide +kernel
theorem d_Co_constant_7 : decode b_Co_constant 7 = .ok (.iload_n 2, 1) := by decide +kernel
theorem d_Co_constant_8 : decode b_Co_constant 8 = .ok (.iadd, 1) := by decide +kernel
theorem d_Co_constant_9 : decode b_Co_constant 9 = .ok (.iaload, 1) := by decide +kernel
theorem d_Co_constant_10 : decode b_Co_constant 10 = .ok (.ireturn, 1) := by decide +kernel
abbrev w_co_de (g : GT) (a_co : Nat) (a_ta : Nat) (a_gu : Nat) (a_so : Nat) (a_cn : Nat) (a_de : Nat) (r_co : Nat → Int32) (r_de : Nat → Int32) : va_W := [kO a_co 1 [.int (r_co 0), .ref a_ta, .ref a_gu, .ref a_so, .ref a_cn, .ref a_de], kI g a_de 256 r_de]
abbrev b_Co_destination : ByteArray := prog_3_method_11_code
abbrev y_Co_destination : MethodName := ⟨"MoveDesk$Code", "destination", "(II)I"⟩
theorem hd_Co_destination : y_Co_destination.cls = "MoveDesk$Code" ∧ y_Co_destination.cls ≠ "java/lang/invoke/MethodHandle" ∧ y_Co_destination.cls ≠ "java/lang/invoke/VarHandle" ∧ (parseMethodDescriptor y_Co_destination.desc).map (fun d => d.parameters.length) = some 2 := by decide +kernel
theorem d_Co_destination_0 : decode b_Co_destination 0 = .ok (.aload_n 0, 1) := by decide +kernel
theorem d_Co_destination_1 : decode b_Co_destination 1 = .ok (.getfield 24, 3) := by decide +kernel
theorem d_Co_destination_4 : decode b_Co_destination 4 = .ok (.iload_n 1, 1) := by decide +kernel
theorem d_Co_destination_5 : decode b_Co_destination 5 = .ok (.iconst 4, 1) := by decide +kernel
theorem d_Co_destination_6 : decode b_Co_destination 6 = .ok (.imul, 1) := by decide +kernel
theorem d_Co_destination_7 : decode b_Co_destination 7 = .ok (.iload_n 2, 1) := by decide +kernel
theorem d_Co_destination_8 : decode b_Co_destination 8 = .ok (.iadd, 1) := by decide +kernel
theorem d_Co_destination_9 : decode b_Co_destination 9 = .ok (.iaload, 1) := by decide +kernel
theorem d_Co_destination_10 : decode b_Co_destination 10 = .ok (.ireturn, 1) := by decide +kernel
abbrev w_co_gu_so_cn_de (g : GT) (a_co : Nat) (a_ta : Nat) (a_gu : Nat) (a_so : Nat) (a_cn : Nat) (a_de : Nat) (r_co : Nat → Int32) (r_gu : Nat → Int32) (r_so : Nat → Int32) (r_cn : Nat → Int32) (r_de : Nat → Int32) : va_W := [kO a_co 1 [.int (r_co 0), .ref a_ta, .ref a_gu, .ref a_so, .ref a_cn, .ref a_de], kI g a_gu 256 r_gu, kI g a_so 256 r_so, kI g a_cn 256 r_cn, kI g a_de 256 r_de]
abbrev b_Co_part : ByteArray := prog_3_method_8_code
abbrev y_Co_part : MethodName := ⟨"MoveDesk$Code", "part", "(III)I"⟩
theorem hd_Co_part : y_Co_part.cls = "MoveDesk$Code" ∧ y_Co_part.cls ≠ "java/lang/invoke/MethodHandle" ∧ y_Co_part.cls ≠ "java/lang/invoke/VarHandle" ∧ (parseMethodDescriptor y_Co_part.desc).map (fun d => d.parameters.length) = some 3 := by decide +kernel
theorem d_Co_part_0 : decode b_Co_part 0 = .ok (.iload_n 3, 1) := by decide +kernel
theorem d_Co_part_1 : decode b_Co_part 1 = .ok (.tableswitch 63 0 3 #[31, 42, 49, 56], 31) := by decide +kernel
theorem d_Co_part_32 : decode b_Co_part 32 = .ok (.aload_n 0, 1) := by decide +kernel
theorem d_Co_part_33 : decode b_Co_part 33 = .ok (.getfield 15, 3) := by decide +kernel
theorem d_Co_part_36 : decode b_Co_part 36 = .ok (.iload_n 1, 1) := by decide +kernel
theorem d_Co_part_37 : decode b_Co_part 37 = .ok (.iconst 4, 1) := by decide +kernel
theorem d_Co_part_38 : decode b_Co_part 38 = .ok (.imul, 1) := by decide +kernel
theorem d_Co_part_39 : decode b_Co_part 39 = .ok (.iload_n 2, 1) := by decide +kernel
theorem d_Co_part_40 : decode b_Co_part 40 = .ok (.iadd, 1) := by decide +kernel
theorem d_Co_part_41 : decode b_Co_part 41 = .ok (.iaload, 1) := by decide +kernel
theorem d_Co_part_42 : decode b_Co_part 42 = .ok (.ireturn, 1) := by decide +kernel
theorem d_Co_part_43 : decode b_Co_part 43 = .ok (.aload_n 0, 1) := by decide +kernel
theorem d_Co_part_44 : decode b_Co_part 44 = .ok (.iload_n 1, 1) := by decide +kernel
theorem d_Co_part_45 : decode b_Co_part 45 = .ok (.iload_n 2, 1) := by decide +kernel
theorem d_Co_part_46 : decode b_Co_part 46 = .ok (.invokevirtual 39, 3) := by decide +kernel
theorem d_Co_part_49 : decode b_Co_part 49 = .ok (.ireturn, 1) := by decide +kernel
theorem d_Co_part_50 : decode b_Co_part 50 = .ok (.aload_n 0, 1) := by decide +kernel
theorem d_Co_part_51 : decode b_Co_part 51 = .ok (.iload_n 1, 1) := by decide +kernel
theorem d_Co_part_52 : decode b_Co_part 52 = .ok (.iload_n 2, 1) := by decide +kernel
theorem d_Co_part_53 : decode b_Co_part 53 = .ok (.invokevirtual 43, 3) := by decide +kernel
theorem d_Co_part_56 : decode b_Co_part 56 = .ok (.ireturn, 1) := by decide +kernel
theorem d_Co_part_57 : decode b_Co_part 57 = .ok (.aload_n 0, 1) := by decide +kernel
theorem d_Co_part_58 : decode b_Co_part 58 = .ok (.iload_n 1, 1) := by decide +kernel
theorem d_Co_part_59 : decode b_Co_part 59 = .ok (.iload_n 2, 1) := by decide +kernel
theorem d_Co_part_60 : decode b_Co_part 60 = .ok (.invokevirtual 46, 3) := by decide +kernel
theorem d_Co_part_63 : decode b_Co_part 63 = .ok (.ireturn, 1) := by decide +kernel
theorem d_Co_part_64 : decode b_Co_part 64 = .ok (.iconst (-1), 1) := by decide +kernel
theorem d_Co_part_65 : decode b_Co_part 65 = .ok (.ireturn, 1) := by decide +kernel
abbrev b_Co_allows : ByteArray := prog_3_method_13_code
abbrev y_Co_allows : MethodName := ⟨"MoveDesk$Code", "allows", "(II)Z"⟩
theorem hs_Co_allows : y_Co_allows.cls ≠ "java/lang/invoke/MethodHandle" ∧ y_Co_allows.cls ≠ "java/lang/invoke/VarHandle" ∧ (parseMethodDescriptor y_Co_allows.desc).map (fun d => d.parameters.length) = some 2 := by decide +kernel
theorem d_Co_allows_0 : decode b_Co_allows 0 = .ok (.iload_n 0, 1) := by decide +kernel
theorem d_Co_allows_1 : decode b_Co_allows 1 = .ok (.ifCond .ne 5, 3) := by decide +kernel
theorem d_Co_allows_4 : decode b_Co_allows 4 = .ok (.iconst 1, 1) := by decide +kernel
theorem d_Co_allows_5 : decode b_Co_allows 5 = .ok (.ireturn, 1) := by decide +kernel
theorem d_Co_allows_6 : decode b_Co_allows 6 = .ok (.iload_n 0, 1) := by decide +kernel
theorem d_Co_allows_7 : decode b_Co_allows 7 = .ok (.iconst 5, 1) := by decide +kernel
theorem d_Co_allows_8 : decode b_Co_allows 8 = .ok (.if_icmp .ge 22, 3) := by decide +kernel
theorem d_Co_allows_11 : decode b_Co_allows 11 = .ok (.iload_n 1, 1) := by decide +kernel
theorem d_Co_allows_12 : decode b_Co_allows 12 = .ok (.iload_n 0, 1) := by decide +kernel
theorem d_Co_allows_13 : decode b_Co_allows 13 = .ok (.iconst 1, 1) := by decide +kernel
theorem d_Co_allows_14 : decode b_Co_allows 14 = .ok (.isub, 1) := by decide +kernel
theorem d_Co_allows_15 : decode b_Co_allows 15 = .ok (.ishr, 1) := by decide +kernel
theorem d_Co_allows_16 : decode b_Co_allows 16 = .ok (.iconst 1, 1) := by decide +kernel
theorem d_Co_allows_17 : decode b_Co_allows 17 = .ok (.iand, 1) := by decide +kernel
theorem d_Co_allows_18 : decode b_Co_allows 18 = .ok (.iconst 1, 1) := by decide +kernel
theorem d_Co_allows_19 : decode b_Co_allows 19 = .ok (.if_icmp .ne 7, 3) := by decide +kernel
theorem d_Co_allows_22 : decode b_Co_allows 22 = .ok (.iconst 1, 1) := by decide +kernel
theorem d_Co_allows_23 : decode b_Co_allows 23 = .ok (.goto 22, 3) := by decide +kernel
theorem d_Co_allows_26 : decode b_Co_allows 26 = .ok (.iconst 0, 1) := by decide +kernel
theorem d_Co_allows_27 : decode b_Co_allows 27 = .ok (.goto 18, 3) := by decide +kernel
theorem d_Co_allows_30 : decode b_Co_allows 30 = .ok (.iload_n 1, 1) := by decide +kernel
theorem d_Co_allows_31 : decode b_Co_allows 31 = .ok (.iload_n 0, 1) := by decide +kernel
theorem d_Co_allows_32 : decode b_Co_allows 32 = .ok (.iconst 5, 1) := by decide +kernel
theorem d_Co_allows_33 : decode b_Co_allows 33 = .ok (.isub, 1) := by decide +kernel
theorem d_Co_allows_34 : decode b_Co_allows 34 = .ok (.ishr, 1) := by decide +kernel
theorem d_Co_allows_35 : decode b_Co_allows 35 = .ok (.iconst 1, 1) := by decide +kernel
theorem d_Co_allows_36 : decode b_Co_allows 36 = .ok (.iand, 1) := by decide +kernel
theorem d_Co_allows_37 : decode b_Co_allows 37 = .ok (.ifCond .ne 7, 3) := by decide +kernel
theorem d_Co_allows_40 : decode b_Co_allows 40 = .ok (.iconst 1, 1) := by decide +kernel
theorem d_Co_allows_41 : decode b_Co_allows 41 = .ok (.goto 4, 3) := by decide +kernel
theorem d_Co_allows_44 : decode b_Co_allows 44 = .ok (.iconst 0, 1) := by decide +kernel
theorem d_Co_allows_45 : decode b_Co_allows 45 = .ok (.ireturn, 1) := by decide +kernel
abbrev w_co_ta_gu (g : GT) (a_co : Nat) (a_ta : Nat) (a_gu : Nat) (a_so : Nat) (a_cn : Nat) (a_de : Nat) (r_co : Nat → Int32) (r_ta : Nat → Int32) (r_gu : Nat → Int32) : va_W := [kO a_co 1 [.int (r_co 0), .ref a_ta, .ref a_gu, .ref a_so, .ref a_cn, .ref a_de], kI g a_ta 64 r_ta, kI g a_gu 256 r_gu]
abbrev b_Co_madeWith : ByteArray := prog_3_method_12_code
abbrev y_Co_madeWith : MethodName := ⟨"MoveDesk$Code", "madeWith", "(II)I"⟩
theorem hd_Co_madeWith : y_Co_madeWith.cls = "MoveDesk$Code" ∧ y_Co_madeWith.cls ≠ "java/lang/invoke/MethodHandle" ∧ y_Co_madeWith.cls ≠ "java/lang/invoke/VarHandle" ∧ (parseMethodDescriptor y_Co_madeWith.desc).map (fun d => d.parameters.length) = some 2 := by decide +kernel
theorem d_Co_madeWith_0 : decode b_Co_madeWith 0 = .ok (.aload_n 0, 1) := by decide +kernel
theorem d_Co_madeWith_1 : decode b_Co_madeWith 1 = .ok (.getfield 9, 3) := by decide +kernel
theorem d_Co_madeWith_4 : decode b_Co_madeWith 4 = .ok (.iload_n 1, 1) := by decide +kernel
theorem d_Co_madeWith_5 : decode b_Co_madeWith 5 = .ok (.iaload, 1) := by decide +kernel
theorem d_Co_madeWith_6 : decode b_Co_madeWith 6 = .ok (.istore_n 3, 1) := by decide +kernel
theorem d_Co_madeWith_7 : decode b_Co_madeWith 7 = .ok (.iload_n 3, 1) := by decide +kernel
theorem d_Co_madeWith_8 : decode b_Co_madeWith 8 = .ok (.ifCond .ne 5, 3) := by decide +kernel
theorem d_Co_madeWith_11 : decode b_Co_madeWith 11 = .ok (.iconst 0, 1) := by decide +kernel
theorem d_Co_madeWith_12 : decode b_Co_madeWith 12 = .ok (.ireturn, 1) := by decide +kernel
theorem d_Co_madeWith_13 : decode b_Co_madeWith 13 = .ok (.iconst 0, 1) := by decide +kernel
theorem d_Co_madeWith_14 : decode b_Co_madeWith 14 = .ok (.istore 4, 2) := by decide +kernel
theorem d_Co_madeWith_16 : decode b_Co_madeWith 16 = .ok (.iload 4, 2) := by decide +kernel
theorem d_Co_madeWith_18 : decode b_Co_madeWith 18 = .ok (.aload_n 0, 1) := by decide +kernel
theorem d_Co_madeWith_19 : decode b_Co_madeWith 19 = .ok (.getfield 27, 3) := by decide +kernel
theorem d_Co_madeWith_22 : decode b_Co_madeWith 22 = .ok (.if_icmp .ge 36, 3) := by decide +kernel
theorem d_Co_madeWith_25 : decode b_Co_madeWith 25 = .ok (.aload_n 0, 1) := by decide +kernel
theorem d_Co_madeWith_26 : decode b_Co_madeWith 26 = .ok (.getfield 15, 3) := by decide +kernel
theorem d_Co_madeWith_29 : decode b_Co_madeWith 29 = .ok (.iload_n 1, 1) := by decide +kernel
theorem d_Co_madeWith_30 : decode b_Co_madeWith 30 = .ok (.iconst 4, 1) := by decide +kernel
theorem d_Co_madeWith_31 : decode b_Co_madeWith 31 = .ok (.imul, 1) := by decide +kernel
theorem d_Co_madeWith_32 : decode b_Co_madeWith 32 = .ok (.iload 4, 2) := by decide +kernel
theorem d_Co_madeWith_34 : decode b_Co_madeWith 34 = .ok (.iadd, 1) := by decide +kernel
theorem d_Co_madeWith_35 : decode b_Co_madeWith 35 = .ok (.iaload, 1) := by decide +kernel
theorem d_Co_madeWith_36 : decode b_Co_madeWith 36 = .ok (.iload_n 2, 1) := by decide +kernel
theorem d_Co_madeWith_37 : decode b_Co_madeWith 37 = .ok (.invokestatic 49, 3) := by decide +kernel
theorem d_Co_madeWith_40 : decode b_Co_madeWith 40 = .ok (.ifCond .ne 12, 3) := by decide +kernel
theorem d_Co_madeWith_43 : decode b_Co_madeWith 43 = .ok (.iload_n 3, 1) := by decide +kernel
theorem d_Co_madeWith_44 : decode b_Co_madeWith 44 = .ok (.iconst 1, 1) := by decide +kernel
theorem d_Co_madeWith_45 : decode b_Co_madeWith 45 = .ok (.iload 4, 2) := by decide +kernel
theorem d_Co_madeWith_47 : decode b_Co_madeWith 47 = .ok (.ishl, 1) := by decide +kernel
theorem d_Co_madeWith_48 : decode b_Co_madeWith 48 = .ok (.iconst (-1), 1) := by decide +kernel
theorem d_Co_madeWith_49 : decode b_Co_madeWith 49 = .ok (.ixor, 1) := by decide +kernel
theorem d_Co_madeWith_50 : decode b_Co_madeWith 50 = .ok (.iand, 1) := by decide +kernel
theorem d_Co_madeWith_51 : decode b_Co_madeWith 51 = .ok (.istore_n 3, 1) := by decide +kernel
theorem d_Co_madeWith_52 : decode b_Co_madeWith 52 = .ok (.iinc 4 1, 3) := by decide +kernel
theorem d_Co_madeWith_55 : decode b_Co_madeWith 55 = .ok (.goto (-39), 3) := by decide +kernel
theorem d_Co_madeWith_58 : decode b_Co_madeWith 58 = .ok (.iload_n 3, 1) := by decide +kernel
theorem d_Co_madeWith_59 : decode b_Co_madeWith 59 = .ok (.ireturn, 1) := by decide +kernel
def f_Co_reaches (r_co : Nat → Int32) (v1 : Int32) (v2 : Int32) : Option (Int32) :=
  if v1 < 0 then
    some (0)
  else
    if (64 : Int32) ≤ v1 then
      some (0)
    else
      if v2 < 0 then
        some (0)
      else
        if (r_co 0) ≤ v2 then
          some (0)
        else
          some (1)
def f_Co_isTaken (r_co : Nat → Int32) (r_ta : Nat → Int32) (v1 : Int32) (v2 : Int32) : Option (Int32) :=
  ck v1 64 <|
  if ((r_ta v1.toNatClampNeg) >>> (v2 &&& 31)) &&& (1 : Int32) = 0 then
    some (0)
  else
    some (1)
def f_Co_put (r_co : Nat → Int32) (r_ta : Nat → Int32) (r_gu : Nat → Int32) (r_so : Nat → Int32) (r_cn : Nat → Int32) (r_de : Nat → Int32) (v1 : Int32) (v2 : Int32) (v3 : Int32) (v4 : Int32) (v5 : Int32) (v6 : Int32) : Option ((Nat → Int32) × (Nat → Int32) × (Nat → Int32) × (Nat → Int32) × (Nat → Int32)) :=
  nm ((v1 * (4 : Int32)) + v2 : Int32) fun x1 =>
  ck v1 64 <|
  ck v1 64 <|
  ck x1 256 <|
  ck x1 256 <|
  ck x1 256 <|
  ck x1 256 <|
  some (upd r_ta v1.toNatClampNeg ((r_ta v1.toNatClampNeg) ||| ((1 : Int32) <<< (v2 &&& 31))), upd r_gu x1.toNatClampNeg v3, upd r_so x1.toNatClampNeg v4, upd r_cn x1.toNatClampNeg v5, upd r_de x1.toNatClampNeg v6)
def f_Co_putOnLowestBus_3 : Nat → (Nat → Int32) → (Nat → Int32) → (Nat → Int32) → (Nat → Int32) → (Nat → Int32) → (Nat → Int32) → Int32 → Int32 → Int32 → Int32 → Int32 → Option ((Nat → Int32) × (Nat → Int32) × (Nat → Int32) × (Nat → Int32) × (Nat → Int32))
  | 0, _, _, _, _, _, _, _, _, _, _, _ => none
  | n + 1, r_co, r_ta, r_gu, r_so, r_cn, r_de, v1, v2, v3, v4, v5 =>
    if (r_co 0) ≤ v5 then
      some (r_ta, r_gu, r_so, r_cn, r_de)
    else
      (f_Co_isTaken r_co r_ta v1 v5).bind fun y2 =>
      if y2 = 0 then
        (f_Co_put r_co r_ta r_gu r_so r_cn r_de v1 v5 (0 : Int32) v2 v3 v4).bind fun y5 =>
        some (y5.1, y5.2.1, y5.2.2.1, y5.2.2.2.1, y5.2.2.2.2)
      else
        nm (v5 + 1) fun x4 =>
        f_Co_putOnLowestBus_3 n r_co r_ta r_gu r_so r_cn r_de v1 v2 v3 v4 x4
def f_Co_putOnLowestBus (r_co : Nat → Int32) (r_ta : Nat → Int32) (r_gu : Nat → Int32) (r_so : Nat → Int32) (r_cn : Nat → Int32) (r_de : Nat → Int32) (v1 : Int32) (v2 : Int32) (v3 : Int32) (v4 : Int32) : Option ((Nat → Int32) × (Nat → Int32) × (Nat → Int32) × (Nat → Int32) × (Nat → Int32)) :=
  f_Co_putOnLowestBus_3 5000 r_co r_ta r_gu r_so r_cn r_de v1 v2 v3 v4 0
def f_Co_drop (r_co : Nat → Int32) (r_ta : Nat → Int32) (v1 : Int32) (v2 : Int32) : Option (Int32 × (Nat → Int32)) :=
  (f_Co_isTaken r_co r_ta v1 v2).bind fun y1 =>
  ck v1 64 <|
  ck v1 64 <|
  bk y1 <|
  some (y1, upd r_ta v1.toNatClampNeg ((r_ta v1.toNatClampNeg) &&& (((1 : Int32) <<< (v2 &&& 31)) ^^^ (-1 : Int32))))
def f_Co_erase_2 : Nat → (Nat → Int32) → (Nat → Int32) → Int32 → Option ((Nat → Int32))
  | 0, _, _, _ => none
  | n + 1, r_co, r_ta, v1 =>
    if (64 : Int32) ≤ v1 then
      some (r_ta)
    else
      ck v1 64 <|
      nm (v1 + 1) fun x3 =>
      f_Co_erase_2 n r_co (upd r_ta v1.toNatClampNeg (0 : Int32)) x3
def f_Co_erase (r_co : Nat → Int32) (r_ta : Nat → Int32)  : Option ((Nat → Int32)) :=
  f_Co_erase_2 5000 r_co r_ta 0
def f_Co_source (r_co : Nat → Int32) (r_so : Nat → Int32) (v1 : Int32) (v2 : Int32) : Option (Int32) :=
  ck ((v1 * (4 : Int32)) + v2) 256 <|
  some (r_so ((v1 * (4 : Int32)) + v2).toNatClampNeg)
def f_Co_constant (r_co : Nat → Int32) (r_cn : Nat → Int32) (v1 : Int32) (v2 : Int32) : Option (Int32) :=
  ck ((v1 * (4 : Int32)) + v2) 256 <|
  some (r_cn ((v1 * (4 : Int32)) + v2).toNatClampNeg)
def f_Co_destination (r_co : Nat → Int32) (r_de : Nat → Int32) (v1 : Int32) (v2 : Int32) : Option (Int32) :=
  ck ((v1 * (4 : Int32)) + v2) 256 <|
  some (r_de ((v1 * (4 : Int32)) + v2).toNatClampNeg)
def f_Co_part (r_co : Nat → Int32) (r_gu : Nat → Int32) (r_so : Nat → Int32) (r_cn : Nat → Int32) (r_de : Nat → Int32) (v1 : Int32) (v2 : Int32) (v3 : Int32) : Option (Int32) :=
  if v3 = 0 then
    ck ((v1 * (4 : Int32)) + v2) 256 <|
    some (r_gu ((v1 * (4 : Int32)) + v2).toNatClampNeg)
  else
    if v3 = 1 then
      (f_Co_source r_co r_so v1 v2).bind fun y4 =>
      some (y4)
    else
      if v3 = 2 then
        (f_Co_constant r_co r_cn v1 v2).bind fun y6 =>
        some (y6)
      else
        if v3 = 3 then
          (f_Co_destination r_co r_de v1 v2).bind fun y8 =>
          some (y8)
        else
          some ((-1))
def f_Co_allows  (v0 : Int32) (v1 : Int32) : Option (Int32) :=
  if v0 = 0 then
    some (1)
  else
    if (5 : Int32) ≤ v0 then
      if (v1 >>> ((v0 - (5 : Int32)) &&& 31)) &&& (1 : Int32) = 0 then
        some (1)
      else
        some (0)
    else
      if (v1 >>> ((v0 - (1 : Int32)) &&& 31)) &&& (1 : Int32) = (1 : Int32) then
        some (1)
      else
        some (0)
def f_Co_madeWith_52 (rec_16 : (Nat → Int32) → (Nat → Int32) → (Nat → Int32) → Int32 → Int32 → Int32 → Int32 → Option (Int32)) (r_co : Nat → Int32) (r_ta : Nat → Int32) (r_gu : Nat → Int32) (v1 : Int32) (v2 : Int32) (v3 : Int32) (v4 : Int32) : Option (Int32) :=
  nm (v4 + 1) fun x1 =>
  rec_16 r_co r_ta r_gu v1 v2 v3 x1
def f_Co_madeWith_16 : Nat → (Nat → Int32) → (Nat → Int32) → (Nat → Int32) → Int32 → Int32 → Int32 → Int32 → Option (Int32)
  | 0, _, _, _, _, _, _, _ => none
  | n + 1, r_co, r_ta, r_gu, v1, v2, v3, v4 =>
    if (r_co 0) ≤ v4 then
      some (v3)
    else
      ck ((v1 * (4 : Int32)) + v4) 256 <|
      (f_Co_allows (r_gu ((v1 * (4 : Int32)) + v4).toNatClampNeg) v2).bind fun y3 =>
      if y3 = 0 then
        nm (v3 &&& (((1 : Int32) <<< (v4 &&& 31)) ^^^ (-1 : Int32)) : Int32) fun x5 =>
        f_Co_madeWith_52 (f_Co_madeWith_16 n) r_co r_ta r_gu v1 v2 x5 v4
      else
        f_Co_madeWith_52 (f_Co_madeWith_16 n) r_co r_ta r_gu v1 v2 v3 v4
def f_Co_madeWith (r_co : Nat → Int32) (r_ta : Nat → Int32) (r_gu : Nat → Int32) (v1 : Int32) (v2 : Int32) : Option (Int32) :=
  ck v1 64 <|
  nm (r_ta v1.toNatClampNeg : Int32) fun x2 =>
  if x2 = 0 then
    some (0)
  else
    f_Co_madeWith_16 5000 r_co r_ta r_gu v1 v2 x2 0
abbrev rm_Co_reaches : Room := { frames := 0, cells := 0, slots := 0, locals := 0 }
set_option maxHeartbeats 4000000 in
set_option maxRecDepth 100000 in
theorem c_Co_reaches (l : Launch) (g : GT) (a_co : Nat) (a_ta : Nat) (a_gu : Nat) (a_so : Nat) (a_cn : Nat) (a_de : Nat) (r_co : Nat → Int32) (v1 : Int32) (v2 : Int32) (y : Int32) (hy : some y = f_Co_reaches r_co v1 v2) : Ct l y_Co_reaches (.code y_Co_reaches b_Co_reaches 3 (some .boolean)) rm_Co_reaches g [.ref a_co, .int v1, .int v2] (w_co g a_co a_ta a_gu a_so a_cn a_de r_co) (w_co g a_co a_ta a_gu a_so a_cn a_de r_co) (some (.int y)) := by
  refine ct_in (C := "MoveDesk$Code") rfl (by decide) (Nat.le_of_ble_eq_true rfl) (fun p e s m below meth c A ls M hP hD hS hl => ?_)
  obtain ⟨hx, hb, hr, hml, hown, hts, hlocks, hA, hK, hG⟩ := id M
  have hl : lv_has ls 3 [(0, .ref a_co), (1, .int v1), (2, .int v2)] := hl
  have hE := hy
  rw [f_Co_reaches] at hE
  refine lv_iload_n hx hb d_Co_reaches_0 rfl (lv_at hl 1 rfl) ?_
  refine lv_if_lt (tgt := 26) hx hb d_Co_reaches_1 (by decide) (fun c1 => ?_) (fun c1 => ?_)
  · have hE := it_t hE c1
    refine lv_iconst (v := 0) hx hb d_Co_reaches_26 (by decide) ?_
    have hE := Option.some.inj hE
    rw [hE]
    exact W.zret (v := 0) (ty := .boolean) hx hb hr rfl (fun t ht hW => ⟨⟨rfl, by rw [ht]; exact hP, va_K.moved hW.alike hK, hD⟩, hS.F ht⟩) hS.2.2 d_Co_reaches_27 hlocks
  · have hE := it_f hE c1
    refine lv_iload_n hx hb d_Co_reaches_4 rfl (lv_at hl 1 rfl) ?_
    refine lv_bipush (v := 64) hx hb d_Co_reaches_5 (by decide) ?_
    refine lv_icmp_ge (tgt := 26) hx hb d_Co_reaches_7 (by decide) (fun c2 => ?_) (fun c2 => ?_)
    · have hE := it_t hE c2
      refine lv_iconst (v := 0) hx hb d_Co_reaches_26 (by decide) ?_
      have hE := Option.some.inj hE
      rw [hE]
      exact W.zret (v := 0) (ty := .boolean) hx hb hr rfl (fun t ht hW => ⟨⟨rfl, by rw [ht]; exact hP, va_K.moved hW.alike hK, hD⟩, hS.F ht⟩) hS.2.2 d_Co_reaches_27 hlocks
    · have hE := it_f hE c2
      refine lv_iload_n hx hb d_Co_reaches_10 rfl (lv_at hl 2 rfl) ?_
      refine lv_if_lt (tgt := 26) hx hb d_Co_reaches_11 (by decide) (fun c3 => ?_) (fun c3 => ?_)
      · have hE := it_t hE c3
        refine lv_iconst (v := 0) hx hb d_Co_reaches_26 (by decide) ?_
        have hE := Option.some.inj hE
        rw [hE]
        exact W.zret (v := 0) (ty := .boolean) hx hb hr rfl (fun t ht hW => ⟨⟨rfl, by rw [ht]; exact hP, va_K.moved hW.alike hK, hD⟩, hS.F ht⟩) hS.2.2 d_Co_reaches_27 hlocks
      · have hE := it_f hE c3
        refine lv_iload_n hx hb d_Co_reaches_14 rfl (lv_at hl 2 rfl) ?_
        refine lv_aload_n hx hb d_Co_reaches_15 rfl (lv_at hl 0 rfl) ?_
        refine va_get (D := g.1) (ci := 1) (v := .int (r_co 0)) (C := "MoveDesk$Code") (T := F_Co) (N := 6) hx hb hts i_Co hown hK hP 0 rfl rfl 0 (by decide) (hts _ m_39) (fun _ h9 => h9) rfl d_Co_reaches_16 ?_
        refine lv_icmp_ge (tgt := 26) hx hb d_Co_reaches_19 (by decide) (fun c4 => ?_) (fun c4 => ?_)
        · have hE := it_t hE c4
          refine lv_iconst (v := 0) hx hb d_Co_reaches_26 (by decide) ?_
          have hE := Option.some.inj hE
          rw [hE]
          exact W.zret (v := 0) (ty := .boolean) hx hb hr rfl (fun t ht hW => ⟨⟨rfl, by rw [ht]; exact hP, va_K.moved hW.alike hK, hD⟩, hS.F ht⟩) hS.2.2 d_Co_reaches_27 hlocks
        · have hE := it_f hE c4
          refine lv_iconst (v := 1) hx hb d_Co_reaches_22 (by decide) ?_
          refine lv_goto (tgt := 27) hx hb d_Co_reaches_23 (by decide) ?_
          have hE := Option.some.inj hE
          rw [hE]
          exact W.zret (v := 1) (ty := .boolean) hx hb hr rfl (fun t ht hW => ⟨⟨rfl, by rw [ht]; exact hP, va_K.moved hW.alike hK, hD⟩, hS.F ht⟩) hS.2.2 d_Co_reaches_27 hlocks
abbrev rm_Co_isTaken : Room := { frames := 0, cells := 0, slots := 0, locals := 0 }
set_option maxHeartbeats 4000000 in
set_option maxRecDepth 100000 in
theorem c_Co_isTaken (l : Launch) (g : GT) (a_co : Nat) (a_ta : Nat) (a_gu : Nat) (a_so : Nat) (a_cn : Nat) (a_de : Nat) (r_co : Nat → Int32) (r_ta : Nat → Int32) (v1 : Int32) (v2 : Int32) (y : Int32) (hy : some y = f_Co_isTaken r_co r_ta v1 v2) : Ct l y_Co_isTaken (.code y_Co_isTaken b_Co_isTaken 3 (some .boolean)) rm_Co_isTaken g [.ref a_co, .int v1, .int v2] (w_co_ta g a_co a_ta a_gu a_so a_cn a_de r_co r_ta) (w_co_ta g a_co a_ta a_gu a_so a_cn a_de r_co r_ta) (some (.int y)) := by
  refine ct_in (C := "MoveDesk$Code") rfl (by decide) (Nat.le_of_ble_eq_true rfl) (fun p e s m below meth c A ls M hP hD hS hl => ?_)
  obtain ⟨hx, hb, hr, hml, hown, hts, hlocks, hA, hK, hG⟩ := id M
  have hl : lv_has ls 3 [(0, .ref a_co), (1, .int v1), (2, .int v2)] := hl
  have hE := hy
  rw [f_Co_isTaken] at hE
  refine lv_aload_n hx hb d_Co_isTaken_0 rfl (lv_at hl 0 rfl) ?_
  refine va_get (D := g.1) (ci := 1) (v := .ref a_ta) (C := "MoveDesk$Code") (T := F_Co) (N := 6) hx hb hts i_Co hown hK hP 0 rfl rfl 1 (by decide) (hts _ m_41) (fun _ h9 => h9) rfl d_Co_isTaken_1 ?_
  refine lv_iload_n hx hb d_Co_isTaken_4 rfl (lv_at hl 1 rfl) ?_
  have ⟨h1, hE⟩ := ck_at hE
  refine va_iald hx hb hK hP 1 0 rfl rfl h1 d_Co_isTaken_5 ?_
  refine lv_iload_n hx hb d_Co_isTaken_6 rfl (lv_at hl 2 rfl) ?_
  refine lv_ishr hx hb d_Co_isTaken_7 ?_
  refine lv_iconst (v := 1) hx hb d_Co_isTaken_8 (by decide) ?_
  refine lv_iand hx hb d_Co_isTaken_9 ?_
  refine lv_if_eq (tgt := 17) hx hb d_Co_isTaken_10 (by decide) (fun c2 => ?_) (fun c2 => ?_)
  · have hE := it_t hE c2
    refine lv_iconst (v := 0) hx hb d_Co_isTaken_17 (by decide) ?_
    have hE := Option.some.inj hE
    rw [hE]
    exact W.zret (v := 0) (ty := .boolean) hx hb hr rfl (fun t ht hW => ⟨⟨rfl, by rw [ht]; exact hP, va_K.moved hW.alike hK, hD⟩, hS.F ht⟩) hS.2.2 d_Co_isTaken_18 hlocks
  · have hE := it_f hE c2
    refine lv_iconst (v := 1) hx hb d_Co_isTaken_13 (by decide) ?_
    refine lv_goto (tgt := 18) hx hb d_Co_isTaken_14 (by decide) ?_
    have hE := Option.some.inj hE
    rw [hE]
    exact W.zret (v := 1) (ty := .boolean) hx hb hr rfl (fun t ht hW => ⟨⟨rfl, by rw [ht]; exact hP, va_K.moved hW.alike hK, hD⟩, hS.F ht⟩) hS.2.2 d_Co_isTaken_18 hlocks
abbrev rm_Co_put : Room := { frames := 0, cells := 0, slots := 0, locals := 0 }
set_option maxHeartbeats 4000000 in
set_option maxRecDepth 100000 in
theorem c_Co_put (l : Launch) (g : GT) (a_co : Nat) (a_ta : Nat) (a_gu : Nat) (a_so : Nat) (a_cn : Nat) (a_de : Nat) (r_co : Nat → Int32) (r_ta : Nat → Int32) (r_gu : Nat → Int32) (r_so : Nat → Int32) (r_cn : Nat → Int32) (r_de : Nat → Int32) (v1 : Int32) (v2 : Int32) (v3 : Int32) (v4 : Int32) (v5 : Int32) (v6 : Int32) (y : (Nat → Int32) × (Nat → Int32) × (Nat → Int32) × (Nat → Int32) × (Nat → Int32)) (hy : some y = f_Co_put r_co r_ta r_gu r_so r_cn r_de v1 v2 v3 v4 v5 v6) : Ct l y_Co_put (.code y_Co_put b_Co_put 8 none) rm_Co_put g [.ref a_co, .int v1, .int v2, .int v3, .int v4, .int v5, .int v6] (w_co_ta_gu_so_cn_de g a_co a_ta a_gu a_so a_cn a_de r_co r_ta r_gu r_so r_cn r_de) (w_co_ta_gu_so_cn_de g a_co a_ta a_gu a_so a_cn a_de r_co y.1 y.2.1 y.2.2.1 y.2.2.2.1 y.2.2.2.2) none := by
  refine ct_in (C := "MoveDesk$Code") rfl (by decide) (Nat.le_of_ble_eq_true rfl) (fun p e s m below meth c A ls M hP hD hS hl => ?_)
  obtain ⟨hx, hb, hr, hml, hown, hts, hlocks, hA, hK, hG⟩ := id M
  have hl : lv_has ls 8 [(0, .ref a_co), (1, .int v1), (2, .int v2), (3, .int v3), (4, .int v4), (5, .int v5), (6, .int v6)] := hl
  have hE := hy
  rw [f_Co_put] at hE
  refine lv_iload_n hx hb d_Co_put_0 rfl (lv_at hl 1 rfl) ?_
  refine lv_iconst (v := 4) hx hb d_Co_put_1 (by decide) ?_
  refine lv_imul hx hb d_Co_put_2 ?_
  refine lv_iload_n hx hb d_Co_put_3 rfl (lv_at hl 2 rfl) ?_
  refine lv_iadd hx hb d_Co_put_4 ?_
  refine lv_topi (fun x1 ex1 => ?_)
  have hE := nm_at hE ex1
  refine lv_istore (lv' := [(7, .int x1), (0, .ref a_co), (1, .int v1), (2, .int v2), (3, .int v3), (4, .int v4), (5, .int v5), (6, .int v6)]) hx hb d_Co_put_5 hl (by decide) rfl (fun ls hl => ?_)
  refine lv_aload_n hx hb d_Co_put_7 rfl (lv_at hl 1 rfl) ?_
  refine va_get (D := g.1) (ci := 1) (v := .ref a_ta) (C := "MoveDesk$Code") (T := F_Co) (N := 6) hx hb hts i_Co hown hK hP 0 rfl rfl 1 (by decide) (hts _ m_41) (fun _ h9 => h9) rfl d_Co_put_8 ?_
  refine lv_iload_n hx hb d_Co_put_11 rfl (lv_at hl 2 rfl) ?_
  refine lv_dup2_11 hx hb d_Co_put_12 rfl rfl ?_
  have ⟨h2, hE⟩ := ck_at hE
  refine va_iald hx hb hK hP 1 0 rfl rfl h2 d_Co_put_13 ?_
  refine lv_iconst (v := 1) hx hb d_Co_put_14 (by decide) ?_
  refine lv_iload_n hx hb d_Co_put_15 rfl (lv_at hl 3 rfl) ?_
  refine lv_ishl hx hb d_Co_put_16 ?_
  refine lv_ior hx hb d_Co_put_17 ?_
  have ⟨h3, hE⟩ := ck_at hE
  refine va_iast hx hb hK hP hD hS 1 0 rfl rfl h3 d_Co_put_18 (fun H locs hP hD hS => ?_)
  have hP : va_P g.1 classes (w_co_ta_gu_so_cn_de g a_co a_ta a_gu a_so a_cn a_de r_co (upd r_ta v1.toNatClampNeg ((r_ta v1.toNatClampNeg) ||| ((1 : Int32) <<< (v2 &&& 31)))) r_gu r_so r_cn r_de) H := hP
  have hD : va_D A (w_co_ta_gu_so_cn_de g a_co a_ta a_gu a_so a_cn a_de r_co (upd r_ta v1.toNatClampNeg ((r_ta v1.toNatClampNeg) ||| ((1 : Int32) <<< (v2 &&& 31)))) r_gu r_so r_cn r_de) := hD
  refine lv_aload_n hx hb d_Co_put_19 rfl (lv_at hl 1 rfl) ?_
  refine va_get (D := g.1) (ci := 1) (v := .ref a_gu) (C := "MoveDesk$Code") (T := F_Co) (N := 6) hx hb hts i_Co hown hK hP 0 rfl rfl 2 (by decide) (hts _ m_42) (fun _ h9 => h9) rfl d_Co_put_20 ?_
  refine lv_iload hx hb d_Co_put_23 (lv_at hl 0 rfl) ?_
  refine lv_iload_n hx hb d_Co_put_25 rfl (lv_at hl 4 rfl) ?_
  have ⟨h4, hE⟩ := ck_at hE
  refine va_iast hx hb hK hP hD hS 2 0 rfl rfl h4 d_Co_put_26 (fun H locs hP hD hS => ?_)
  have hP : va_P g.1 classes (w_co_ta_gu_so_cn_de g a_co a_ta a_gu a_so a_cn a_de r_co (upd r_ta v1.toNatClampNeg ((r_ta v1.toNatClampNeg) ||| ((1 : Int32) <<< (v2 &&& 31)))) (upd r_gu x1.toNatClampNeg v3) r_so r_cn r_de) H := hP
  have hD : va_D A (w_co_ta_gu_so_cn_de g a_co a_ta a_gu a_so a_cn a_de r_co (upd r_ta v1.toNatClampNeg ((r_ta v1.toNatClampNeg) ||| ((1 : Int32) <<< (v2 &&& 31)))) (upd r_gu x1.toNatClampNeg v3) r_so r_cn r_de) := hD
  refine lv_aload_n hx hb d_Co_put_27 rfl (lv_at hl 1 rfl) ?_
  refine va_get (D := g.1) (ci := 1) (v := .ref a_so) (C := "MoveDesk$Code") (T := F_Co) (N := 6) hx hb hts i_Co hown hK hP 0 rfl rfl 3 (by decide) (hts _ m_43) (fun _ h9 => h9) rfl d_Co_put_28 ?_
  refine lv_iload hx hb d_Co_put_31 (lv_at hl 0 rfl) ?_
  refine lv_iload hx hb d_Co_put_33 (lv_at hl 5 rfl) ?_
  have ⟨h5, hE⟩ := ck_at hE
  refine va_iast hx hb hK hP hD hS 3 0 rfl rfl h5 d_Co_put_35 (fun H locs hP hD hS => ?_)
  have hP : va_P g.1 classes (w_co_ta_gu_so_cn_de g a_co a_ta a_gu a_so a_cn a_de r_co (upd r_ta v1.toNatClampNeg ((r_ta v1.toNatClampNeg) ||| ((1 : Int32) <<< (v2 &&& 31)))) (upd r_gu x1.toNatClampNeg v3) (upd r_so x1.toNatClampNeg v4) r_cn r_de) H := hP
  have hD : va_D A (w_co_ta_gu_so_cn_de g a_co a_ta a_gu a_so a_cn a_de r_co (upd r_ta v1.toNatClampNeg ((r_ta v1.toNatClampNeg) ||| ((1 : Int32) <<< (v2 &&& 31)))) (upd r_gu x1.toNatClampNeg v3) (upd r_so x1.toNatClampNeg v4) r_cn r_de) := hD
  refine lv_aload_n hx hb d_Co_put_36 rfl (lv_at hl 1 rfl) ?_
  refine va_get (D := g.1) (ci := 1) (v := .ref a_cn) (C := "MoveDesk$Code") (T := F_Co) (N := 6) hx hb hts i_Co hown hK hP 0 rfl rfl 4 (by decide) (hts _ m_44) (fun _ h9 => h9) rfl d_Co_put_37 ?_
  refine lv_iload hx hb d_Co_put_40 (lv_at hl 0 rfl) ?_
  refine lv_iload hx hb d_Co_put_42 (lv_at hl 6 rfl) ?_
  have ⟨h6, hE⟩ := ck_at hE
  refine va_iast hx hb hK hP hD hS 4 0 rfl rfl h6 d_Co_put_44 (fun H locs hP hD hS => ?_)
  have hP : va_P g.1 classes (w_co_ta_gu_so_cn_de g a_co a_ta a_gu a_so a_cn a_de r_co (upd r_ta v1.toNatClampNeg ((r_ta v1.toNatClampNeg) ||| ((1 : Int32) <<< (v2 &&& 31)))) (upd r_gu x1.toNatClampNeg v3) (upd r_so x1.toNatClampNeg v4) (upd r_cn x1.toNatClampNeg v5) r_de) H := hP
  have hD : va_D A (w_co_ta_gu_so_cn_de g a_co a_ta a_gu a_so a_cn a_de r_co (upd r_ta v1.toNatClampNeg ((r_ta v1.toNatClampNeg) ||| ((1 : Int32) <<< (v2 &&& 31)))) (upd r_gu x1.toNatClampNeg v3) (upd r_so x1.toNatClampNeg v4) (upd r_cn x1.toNatClampNeg v5) r_de) := hD
  refine lv_aload_n hx hb d_Co_put_45 rfl (lv_at hl 1 rfl) ?_
  refine va_get (D := g.1) (ci := 1) (v := .ref a_de) (C := "MoveDesk$Code") (T := F_Co) (N := 6) hx hb hts i_Co hown hK hP 0 rfl rfl 5 (by decide) (hts _ m_45) (fun _ h9 => h9) rfl d_Co_put_46 ?_
  refine lv_iload hx hb d_Co_put_49 (lv_at hl 0 rfl) ?_
  refine lv_iload hx hb d_Co_put_51 (lv_at hl 7 rfl) ?_
  have ⟨h7, hE⟩ := ck_at hE
  refine va_iast hx hb hK hP hD hS 5 0 rfl rfl h7 d_Co_put_53 (fun H locs hP hD hS => ?_)
  have hP : va_P g.1 classes (w_co_ta_gu_so_cn_de g a_co a_ta a_gu a_so a_cn a_de r_co (upd r_ta v1.toNatClampNeg ((r_ta v1.toNatClampNeg) ||| ((1 : Int32) <<< (v2 &&& 31)))) (upd r_gu x1.toNatClampNeg v3) (upd r_so x1.toNatClampNeg v4) (upd r_cn x1.toNatClampNeg v5) (upd r_de x1.toNatClampNeg v6)) H := hP
  have hD : va_D A (w_co_ta_gu_so_cn_de g a_co a_ta a_gu a_so a_cn a_de r_co (upd r_ta v1.toNatClampNeg ((r_ta v1.toNatClampNeg) ||| ((1 : Int32) <<< (v2 &&& 31)))) (upd r_gu x1.toNatClampNeg v3) (upd r_so x1.toNatClampNeg v4) (upd r_cn x1.toNatClampNeg v5) (upd r_de x1.toNatClampNeg v6)) := hD
  have hE := Option.some.inj hE
  rw [hE]
  exact W.vret hx hb hr (fun t ht hW => ⟨⟨rfl, by rw [ht]; exact hP, va_K.moved hW.alike hK, hD⟩, hS.F ht⟩) hS.2.2 d_Co_put_54 hlocks
abbrev rm_Co_putOnLowestBus : Room := { frames := 1, cells := 0, slots := 0, locals := 27 }
set_option maxHeartbeats 4000000 in
set_option maxRecDepth 100000 in
theorem wl_Co_putOnLowestBus_3 {p : Program} {l : Launch} {e : Env} {s : State} {m : MethodId} {args : Array Value} {below : List Frame} {meth : Method} {c : Code} {A : Nat → Prop} {g : GT} {a_co : Nat} {a_ta : Nat} {a_gu : Nat} {a_so : Nat} {a_cn : Nat} {a_de : Nat} {y : (Nat → Int32) × (Nat → Int32) × (Nat → Int32) × (Nat → Int32) × (Nat → Int32)} (M : MX p s m args meth c b_Co_putOnLowestBus 6 none "MoveDesk$Code" g A) : ∀ n : Nat, ∀ (r_co : Nat → Int32) (r_ta : Nat → Int32) (r_gu : Nat → Int32) (r_so : Nat → Int32) (r_cn : Nat → Int32) (r_de : Nat → Int32) (v1 : Int32) (v2 : Int32) (v3 : Int32) (v4 : Int32) (v5 : Int32) (H : Heap) (locs : List Loc) (ls : Array Slot), some y = (f_Co_putOnLowestBus_3 n) r_co r_ta r_gu r_so r_cn r_de v1 v2 v3 v4 v5 → va_P g.1 classes (w_co_ta_gu_so_cn_de g a_co a_ta a_gu a_so a_cn a_de r_co r_ta r_gu r_so r_cn r_de) H → va_D A (w_co_ta_gu_so_cn_de g a_co a_ta a_gu a_so a_cn a_de r_co r_ta r_gu r_so r_cn r_de) → va_S A s.heap H locs → lv_has ls 6 [(0, .ref a_co), (1, .int v1), (2, .int v2), (3, .int v3), (4, .int v4), (5, .int v5)] → W p l e rm_Co_putOnLowestBus s m args below meth c H locs 0 0 (MQ below (QW g none (w_co_ta_gu_so_cn_de g a_co a_ta a_gu a_so a_cn a_de r_co y.1 y.2.1 y.2.2.1 y.2.2.2.1 y.2.2.2.2) A) args s 0 0 A) (F0 m 3 ls []) := by
  obtain ⟨hx, hb, hr, hml, hown, hts, hlocks, hA, hK, hG⟩ := id M
  intro n
  induction n with
  | zero =>
    intro r_co r_ta r_gu r_so r_cn r_de v1 v2 v3 v4 v5 H locs ls hE hP hD hS hl
    rw [f_Co_putOnLowestBus_3] at hE
    cases hE
  | succ n ih =>
    intro r_co r_ta r_gu r_so r_cn r_de v1 v2 v3 v4 v5 H locs ls hE hP hD hS hl
    rw [f_Co_putOnLowestBus_3] at hE
    refine lv_iload hx hb d_Co_putOnLowestBus_3 (lv_at hl 5 rfl) ?_
    refine lv_aload_n hx hb d_Co_putOnLowestBus_5 rfl (lv_at hl 0 rfl) ?_
    refine va_get (D := g.1) (ci := 1) (v := .int (r_co 0)) (C := "MoveDesk$Code") (T := F_Co) (N := 6) hx hb hts i_Co hown hK hP 0 rfl rfl 0 (by decide) (hts _ m_39) (fun _ h9 => h9) rfl d_Co_putOnLowestBus_6 ?_
    refine lv_icmp_ge (tgt := 41) hx hb d_Co_putOnLowestBus_9 (by decide) (fun c1 => ?_) (fun c1 => ?_)
    · have hE := it_t hE c1
      have hE := Option.some.inj hE
      rw [hE]
      exact W.vret hx hb hr (fun t ht hW => ⟨⟨rfl, by rw [ht]; exact hP, va_K.moved hW.alike hK, hD⟩, hS.F ht⟩) hS.2.2 d_Co_putOnLowestBus_41 hlocks
    · have hE := it_f hE c1
      refine lv_aload_n hx hb d_Co_putOnLowestBus_12 rfl (lv_at hl 0 rfl) ?_
      refine lv_iload_n hx hb d_Co_putOnLowestBus_13 rfl (lv_at hl 1 rfl) ?_
      refine lv_iload hx hb d_Co_putOnLowestBus_14 (lv_at hl 5 rfl) ?_
      obtain ⟨y2, hy2, hE⟩ := bd_at hE
      refine kV (C := "MoveDesk$Code") (index := 31) (As := [.int v1, .int v5]) (rest := []) (ws2 := (w_co_ta_gu_so_cn_de g a_co a_ta a_gu a_so a_cn a_de r_co r_ta r_gu r_so r_cn r_de)) M hP hD hS hl.1 (c_Co_isTaken l g a_co a_ta a_gu a_so a_cn a_de r_co r_ta v1 v5 y2 hy2) m_553 m_302 m_303 m_3 m_304 hd_Co_isTaken rfl rfl rfl ⟨by decide, by decide⟩ ⟨by decide, by decide⟩ 1 0 rfl rfl rfl [0, 1] [2, 3, 4, 5] [4, 5, 0, 1, 2, 3] rfl rfl rfl rfl (by decide) rfl rfl rfl (Nat.le_of_ble_eq_true rfl) d_Co_putOnLowestBus_16 (fun H locs hP hD hS => ?_)
      refine W.eq (g2 := F0 m 19 ls [.int y2]) rfl ?_
      refine lv_if_ne (tgt := 35) hx hb d_Co_putOnLowestBus_19 (by decide) (fun c3 => ?_) (fun c3 => ?_)
      · have hE := it_f hE c3
        obtain ⟨x4, ex4⟩ : ∃ z : Int32, z = v5 + 1 := ⟨_, rfl⟩
        have hE := nm_at hE ex4
        refine lv_iinc (v := x4) (lv' := [(5, .int x4), (0, .ref a_co), (1, .int v1), (2, .int v2), (3, .int v3), (4, .int v4)]) hx hb d_Co_putOnLowestBus_35 hl (k := 5) rfl (by rw [ex4]; rfl) (by decide) rfl (fun ls hl => ?_)
        refine lv_goto (tgt := 3) hx hb d_Co_putOnLowestBus_38 (by decide) ?_
        exact ih _ _ _ _ _ _ _ _ _ _ _ _ _ _ hE hP hD hS (lv_sub hl [1, 2, 3, 4, 5, 0] rfl)
      · have hE := it_t hE c3
        refine lv_aload_n hx hb d_Co_putOnLowestBus_22 rfl (lv_at hl 0 rfl) ?_
        refine lv_iload_n hx hb d_Co_putOnLowestBus_23 rfl (lv_at hl 1 rfl) ?_
        refine lv_iload hx hb d_Co_putOnLowestBus_24 (lv_at hl 5 rfl) ?_
        refine lv_iconst (v := 0) hx hb d_Co_putOnLowestBus_26 (by decide) ?_
        refine lv_iload_n hx hb d_Co_putOnLowestBus_27 rfl (lv_at hl 2 rfl) ?_
        refine lv_iload_n hx hb d_Co_putOnLowestBus_28 rfl (lv_at hl 3 rfl) ?_
        refine lv_iload hx hb d_Co_putOnLowestBus_29 (lv_at hl 4 rfl) ?_
        obtain ⟨y5, hy5, hE⟩ := bd_at hE
        refine kV (C := "MoveDesk$Code") (index := 35) (As := [.int v1, .int v5, .int 0, .int v2, .int v3, .int v4]) (rest := []) (ws2 := (w_co_ta_gu_so_cn_de g a_co a_ta a_gu a_so a_cn a_de r_co y5.1 y5.2.1 y5.2.2.1 y5.2.2.2.1 y5.2.2.2.2)) M hP hD hS hl.1 (c_Co_put l g a_co a_ta a_gu a_so a_cn a_de r_co r_ta r_gu r_so r_cn r_de v1 v5 (0 : Int32) v2 v3 v4 y5 hy5) m_702 m_539 m_540 m_3 m_541 hd_Co_put rfl rfl rfl ⟨by decide, by decide⟩ ⟨by decide, by decide⟩ 1 0 rfl rfl rfl [0, 1, 2, 3, 4, 5] [] [0, 1, 2, 3, 4, 5] rfl rfl rfl rfl (by decide) rfl rfl rfl (Nat.le_of_ble_eq_true rfl) d_Co_putOnLowestBus_31 (fun H locs hP hD hS => ?_)
        refine W.eq (g2 := F0 m 34 ls []) rfl ?_
        have hE := Option.some.inj hE
        rw [hE]
        exact W.vret hx hb hr (fun t ht hW => ⟨⟨rfl, by rw [ht]; exact hP, va_K.moved hW.alike hK, hD⟩, hS.F ht⟩) hS.2.2 d_Co_putOnLowestBus_34 hlocks
set_option maxHeartbeats 4000000 in
set_option maxRecDepth 100000 in
theorem c_Co_putOnLowestBus (l : Launch) (g : GT) (a_co : Nat) (a_ta : Nat) (a_gu : Nat) (a_so : Nat) (a_cn : Nat) (a_de : Nat) (r_co : Nat → Int32) (r_ta : Nat → Int32) (r_gu : Nat → Int32) (r_so : Nat → Int32) (r_cn : Nat → Int32) (r_de : Nat → Int32) (v1 : Int32) (v2 : Int32) (v3 : Int32) (v4 : Int32) (y : (Nat → Int32) × (Nat → Int32) × (Nat → Int32) × (Nat → Int32) × (Nat → Int32)) (hy : some y = f_Co_putOnLowestBus r_co r_ta r_gu r_so r_cn r_de v1 v2 v3 v4) : Ct l y_Co_putOnLowestBus (.code y_Co_putOnLowestBus b_Co_putOnLowestBus 6 none) rm_Co_putOnLowestBus g [.ref a_co, .int v1, .int v2, .int v3, .int v4] (w_co_ta_gu_so_cn_de g a_co a_ta a_gu a_so a_cn a_de r_co r_ta r_gu r_so r_cn r_de) (w_co_ta_gu_so_cn_de g a_co a_ta a_gu a_so a_cn a_de r_co y.1 y.2.1 y.2.2.1 y.2.2.2.1 y.2.2.2.2) none := by
  refine ct_in (C := "MoveDesk$Code") rfl (by decide) (Nat.le_of_ble_eq_true rfl) (fun p e s m below meth c A ls M hP hD hS hl => ?_)
  obtain ⟨hx, hb, hr, hml, hown, hts, hlocks, hA, hK, hG⟩ := id M
  have hl : lv_has ls 6 [(0, .ref a_co), (1, .int v1), (2, .int v2), (3, .int v3), (4, .int v4)] := hl
  have hE := hy
  rw [f_Co_putOnLowestBus] at hE
  refine lv_iconst (v := 0) hx hb d_Co_putOnLowestBus_0 (by decide) ?_
  refine lv_istore (lv' := [(5, .int 0), (0, .ref a_co), (1, .int v1), (2, .int v2), (3, .int v3), (4, .int v4)]) hx hb d_Co_putOnLowestBus_1 hl (by decide) rfl (fun ls hl => ?_)
  exact wl_Co_putOnLowestBus_3 M 5000 _ _ _ _ _ _ _ _ _ _ _ _ _ _ hE hP hD hS (lv_sub hl [1, 2, 3, 4, 5, 0] rfl)
abbrev rm_Co_drop : Room := { frames := 1, cells := 0, slots := 0, locals := 22 }
set_option maxHeartbeats 4000000 in
set_option maxRecDepth 100000 in
theorem c_Co_drop (l : Launch) (g : GT) (a_co : Nat) (a_ta : Nat) (a_gu : Nat) (a_so : Nat) (a_cn : Nat) (a_de : Nat) (r_co : Nat → Int32) (r_ta : Nat → Int32) (v1 : Int32) (v2 : Int32) (y : Int32 × (Nat → Int32)) (hy : some y = f_Co_drop r_co r_ta v1 v2) : Ct l y_Co_drop (.code y_Co_drop b_Co_drop 4 (some .boolean)) rm_Co_drop g [.ref a_co, .int v1, .int v2] (w_co_ta g a_co a_ta a_gu a_so a_cn a_de r_co r_ta) (w_co_ta g a_co a_ta a_gu a_so a_cn a_de r_co y.2) (some (.int y.1)) := by
  refine ct_in (C := "MoveDesk$Code") rfl (by decide) (Nat.le_of_ble_eq_true rfl) (fun p e s m below meth c A ls M hP hD hS hl => ?_)
  obtain ⟨hx, hb, hr, hml, hown, hts, hlocks, hA, hK, hG⟩ := id M
  have hl : lv_has ls 4 [(0, .ref a_co), (1, .int v1), (2, .int v2)] := hl
  have hE := hy
  rw [f_Co_drop] at hE
  refine lv_aload_n hx hb d_Co_drop_0 rfl (lv_at hl 0 rfl) ?_
  refine lv_iload_n hx hb d_Co_drop_1 rfl (lv_at hl 1 rfl) ?_
  refine lv_iload_n hx hb d_Co_drop_2 rfl (lv_at hl 2 rfl) ?_
  obtain ⟨y1, hy1, hE⟩ := bd_at hE
  refine kV (C := "MoveDesk$Code") (index := 31) (As := [.int v1, .int v2]) (rest := []) (ws2 := (w_co_ta g a_co a_ta a_gu a_so a_cn a_de r_co r_ta)) M hP hD hS hl.1 (c_Co_isTaken l g a_co a_ta a_gu a_so a_cn a_de r_co r_ta v1 v2 y1 hy1) m_553 m_302 m_303 m_3 m_304 hd_Co_isTaken rfl rfl rfl ⟨by decide, by decide⟩ ⟨by decide, by decide⟩ 1 0 rfl rfl rfl [0, 1] [] [0, 1] rfl rfl rfl rfl (by decide) rfl rfl rfl (Nat.le_of_ble_eq_true rfl) d_Co_drop_3 (fun H locs hP hD hS => ?_)
  refine W.eq (g2 := F0 m 6 ls [.int y1]) rfl ?_
  refine lv_istore_n (lv' := [(3, .int y1), (0, .ref a_co), (1, .int v1), (2, .int v2)]) hx hb d_Co_drop_6 rfl hl (by decide) rfl (fun ls hl => ?_)
  refine lv_aload_n hx hb d_Co_drop_7 rfl (lv_at hl 1 rfl) ?_
  refine va_get (D := g.1) (ci := 1) (v := .ref a_ta) (C := "MoveDesk$Code") (T := F_Co) (N := 6) hx hb hts i_Co hown hK hP 0 rfl rfl 1 (by decide) (hts _ m_41) (fun _ h9 => h9) rfl d_Co_drop_8 ?_
  refine lv_iload_n hx hb d_Co_drop_11 rfl (lv_at hl 2 rfl) ?_
  refine lv_dup2_11 hx hb d_Co_drop_12 rfl rfl ?_
  have ⟨h2, hE⟩ := ck_at hE
  refine va_iald hx hb hK hP 1 0 rfl rfl h2 d_Co_drop_13 ?_
  refine lv_iconst (v := 1) hx hb d_Co_drop_14 (by decide) ?_
  refine lv_iload_n hx hb d_Co_drop_15 rfl (lv_at hl 3 rfl) ?_
  refine lv_ishl hx hb d_Co_drop_16 ?_
  refine lv_iconst (v := (-1)) hx hb d_Co_drop_17 (by decide) ?_
  refine lv_ixor hx hb d_Co_drop_18 ?_
  refine lv_iand hx hb d_Co_drop_19 ?_
  have ⟨h3, hE⟩ := ck_at hE
  refine va_iast hx hb hK hP hD hS 1 0 rfl rfl h3 d_Co_drop_20 (fun H locs hP hD hS => ?_)
  have hP : va_P g.1 classes (w_co_ta g a_co a_ta a_gu a_so a_cn a_de r_co (upd r_ta v1.toNatClampNeg ((r_ta v1.toNatClampNeg) &&& (((1 : Int32) <<< (v2 &&& 31)) ^^^ (-1 : Int32))))) H := hP
  have hD : va_D A (w_co_ta g a_co a_ta a_gu a_so a_cn a_de r_co (upd r_ta v1.toNatClampNeg ((r_ta v1.toNatClampNeg) &&& (((1 : Int32) <<< (v2 &&& 31)) ^^^ (-1 : Int32))))) := hD
  refine lv_iload_n hx hb d_Co_drop_21 rfl (lv_at hl 0 rfl) ?_
  have ⟨hn22, hE⟩ := bk_at hE
  have hE := Option.some.inj hE
  rw [hE]
  exact W.zret (v := y1) (ty := .boolean) hx hb hr hn22 (fun t ht hW => ⟨⟨rfl, by rw [ht]; exact hP, va_K.moved hW.alike hK, hD⟩, hS.F ht⟩) hS.2.2 d_Co_drop_22 hlocks
abbrev rm_Co_erase : Room := { frames := 0, cells := 0, slots := 0, locals := 0 }
set_option maxHeartbeats 4000000 in
set_option maxRecDepth 100000 in
theorem wl_Co_erase_2 {p : Program} {l : Launch} {e : Env} {s : State} {m : MethodId} {args : Array Value} {below : List Frame} {meth : Method} {c : Code} {A : Nat → Prop} {g : GT} {a_co : Nat} {a_ta : Nat} {a_gu : Nat} {a_so : Nat} {a_cn : Nat} {a_de : Nat} {y : (Nat → Int32)} (M : MX p s m args meth c b_Co_erase 2 none "MoveDesk$Code" g A) : ∀ n : Nat, ∀ (r_co : Nat → Int32) (r_ta : Nat → Int32) (v1 : Int32) (H : Heap) (locs : List Loc) (ls : Array Slot), some y = (f_Co_erase_2 n) r_co r_ta v1 → va_P g.1 classes (w_co_ta g a_co a_ta a_gu a_so a_cn a_de r_co r_ta) H → va_D A (w_co_ta g a_co a_ta a_gu a_so a_cn a_de r_co r_ta) → va_S A s.heap H locs → lv_has ls 2 [(0, .ref a_co), (1, .int v1)] → W p l e rm_Co_erase s m args below meth c H locs 0 0 (MQ below (QW g none (w_co_ta g a_co a_ta a_gu a_so a_cn a_de r_co y) A) args s 0 0 A) (F0 m 2 ls []) := by
  obtain ⟨hx, hb, hr, hml, hown, hts, hlocks, hA, hK, hG⟩ := id M
  intro n
  induction n with
  | zero =>
    intro r_co r_ta v1 H locs ls hE hP hD hS hl
    rw [f_Co_erase_2] at hE
    cases hE
  | succ n ih =>
    intro r_co r_ta v1 H locs ls hE hP hD hS hl
    rw [f_Co_erase_2] at hE
    refine lv_iload_n hx hb d_Co_erase_2 rfl (lv_at hl 1 rfl) ?_
    refine lv_bipush (v := 64) hx hb d_Co_erase_3 (by decide) ?_
    refine lv_icmp_ge (tgt := 21) hx hb d_Co_erase_5 (by decide) (fun c1 => ?_) (fun c1 => ?_)
    · have hE := it_t hE c1
      have hE := Option.some.inj hE
      rw [hE]
      exact W.vret hx hb hr (fun t ht hW => ⟨⟨rfl, by rw [ht]; exact hP, va_K.moved hW.alike hK, hD⟩, hS.F ht⟩) hS.2.2 d_Co_erase_21 hlocks
    · have hE := it_f hE c1
      refine lv_aload_n hx hb d_Co_erase_8 rfl (lv_at hl 0 rfl) ?_
      refine va_get (D := g.1) (ci := 1) (v := .ref a_ta) (C := "MoveDesk$Code") (T := F_Co) (N := 6) hx hb hts i_Co hown hK hP 0 rfl rfl 1 (by decide) (hts _ m_41) (fun _ h9 => h9) rfl d_Co_erase_9 ?_
      refine lv_iload_n hx hb d_Co_erase_12 rfl (lv_at hl 1 rfl) ?_
      refine lv_iconst (v := 0) hx hb d_Co_erase_13 (by decide) ?_
      have ⟨h2, hE⟩ := ck_at hE
      refine va_iast hx hb hK hP hD hS 1 0 rfl rfl h2 d_Co_erase_14 (fun H locs hP hD hS => ?_)
      have hP : va_P g.1 classes (w_co_ta g a_co a_ta a_gu a_so a_cn a_de r_co (upd r_ta v1.toNatClampNeg (0 : Int32))) H := hP
      have hD : va_D A (w_co_ta g a_co a_ta a_gu a_so a_cn a_de r_co (upd r_ta v1.toNatClampNeg (0 : Int32))) := hD
      obtain ⟨x3, ex3⟩ : ∃ z : Int32, z = v1 + 1 := ⟨_, rfl⟩
      have hE := nm_at hE ex3
      refine lv_iinc (v := x3) (lv' := [(1, .int x3), (0, .ref a_co)]) hx hb d_Co_erase_15 hl (k := 1) rfl (by rw [ex3]; rfl) (by decide) rfl (fun ls hl => ?_)
      refine lv_goto (tgt := 2) hx hb d_Co_erase_18 (by decide) ?_
      exact ih _ _ _ _ _ _ hE hP hD hS (lv_sub hl [1, 0] rfl)
set_option maxHeartbeats 4000000 in
set_option maxRecDepth 100000 in
theorem c_Co_erase (l : Launch) (g : GT) (a_co : Nat) (a_ta : Nat) (a_gu : Nat) (a_so : Nat) (a_cn : Nat) (a_de : Nat) (r_co : Nat → Int32) (r_ta : Nat → Int32)  (y : (Nat → Int32)) (hy : some y = f_Co_erase r_co r_ta) : Ct l y_Co_erase (.code y_Co_erase b_Co_erase 2 none) rm_Co_erase g [.ref a_co] (w_co_ta g a_co a_ta a_gu a_so a_cn a_de r_co r_ta) (w_co_ta g a_co a_ta a_gu a_so a_cn a_de r_co y) none := by
  refine ct_in (C := "MoveDesk$Code") rfl (by decide) (Nat.le_of_ble_eq_true rfl) (fun p e s m below meth c A ls M hP hD hS hl => ?_)
  obtain ⟨hx, hb, hr, hml, hown, hts, hlocks, hA, hK, hG⟩ := id M
  have hl : lv_has ls 2 [(0, .ref a_co)] := hl
  have hE := hy
  rw [f_Co_erase] at hE
  refine lv_iconst (v := 0) hx hb d_Co_erase_0 (by decide) ?_
  refine lv_istore_n (lv' := [(1, .int 0), (0, .ref a_co)]) hx hb d_Co_erase_1 rfl hl (by decide) rfl (fun ls hl => ?_)
  exact wl_Co_erase_2 M 5000 _ _ _ _ _ _ hE hP hD hS (lv_sub hl [1, 0] rfl)
abbrev rm_Co_source : Room := { frames := 0, cells := 0, slots := 0, locals := 0 }
set_option maxHeartbeats 4000000 in
set_option maxRecDepth 100000 in
theorem c_Co_source (l : Launch) (g : GT) (a_co : Nat) (a_ta : Nat) (a_gu : Nat) (a_so : Nat) (a_cn : Nat) (a_de : Nat) (r_co : Nat → Int32) (r_so : Nat → Int32) (v1 : Int32) (v2 : Int32) (y : Int32) (hy : some y = f_Co_source r_co r_so v1 v2) : Ct l y_Co_source (.code y_Co_source b_Co_source 3 (some .int)) rm_Co_source g [.ref a_co, .int v1, .int v2] (w_co_so g a_co a_ta a_gu a_so a_cn a_de r_co r_so) (w_co_so g a_co a_ta a_gu a_so a_cn a_de r_co r_so) (some (.int y)) := by
  refine ct_in (C := "MoveDesk$Code") rfl (by decide) (Nat.le_of_ble_eq_true rfl) (fun p e s m below meth c A ls M hP hD hS hl => ?_)
  obtain ⟨hx, hb, hr, hml, hown, hts, hlocks, hA, hK, hG⟩ := id M
  have hl : lv_has ls 3 [(0, .ref a_co), (1, .int v1), (2, .int v2)] := hl
  have hE := hy
  rw [f_Co_source] at hE
  refine lv_aload_n hx hb d_Co_source_0 rfl (lv_at hl 0 rfl) ?_
  refine va_get (D := g.1) (ci := 1) (v := .ref a_so) (C := "MoveDesk$Code") (T := F_Co) (N := 6) hx hb hts i_Co hown hK hP 0 rfl rfl 3 (by decide) (hts _ m_43) (fun _ h9 => h9) rfl d_Co_source_1 ?_
  refine lv_iload_n hx hb d_Co_source_4 rfl (lv_at hl 1 rfl) ?_
  refine lv_iconst (v := 4) hx hb d_Co_source_5 (by decide) ?_
  refine lv_imul hx hb d_Co_source_6 ?_
  refine lv_iload_n hx hb d_Co_source_7 rfl (lv_at hl 2 rfl) ?_
  refine lv_iadd hx hb d_Co_source_8 ?_
  have ⟨h1, hE⟩ := ck_at hE
  refine va_iald hx hb hK hP 1 0 rfl rfl h1 d_Co_source_9 ?_
  have hE := Option.some.inj hE
  rw [hE]
  exact W.iret (v := (r_so ((v1 * (4 : Int32)) + v2).toNatClampNeg)) hx hb hr (fun t ht hW => ⟨⟨rfl, by rw [ht]; exact hP, va_K.moved hW.alike hK, hD⟩, hS.F ht⟩) hS.2.2 d_Co_source_10 hlocks
abbrev rm_Co_constant : Room := { frames := 0, cells := 0, slots := 0, locals := 0 }
set_option maxHeartbeats 4000000 in
set_option maxRecDepth 100000 in
theorem c_Co_constant (l : Launch) (g : GT) (a_co : Nat) (a_ta : Nat) (a_gu : Nat) (a_so : Nat) (a_cn : Nat) (a_de : Nat) (r_co : Nat → Int32) (r_cn : Nat → Int32) (v1 : Int32) (v2 : Int32) (y : Int32) (hy : some y = f_Co_constant r_co r_cn v1 v2) : Ct l y_Co_constant (.code y_Co_constant b_Co_constant 3 (some .int)) rm_Co_constant g [.ref a_co, .int v1, .int v2] (w_co_cn g a_co a_ta a_gu a_so a_cn a_de r_co r_cn) (w_co_cn g a_co a_ta a_gu a_so a_cn a_de r_co r_cn) (some (.int y)) := by
  refine ct_in (C := "MoveDesk$Code") rfl (by decide) (Nat.le_of_ble_eq_true rfl) (fun p e s m below meth c A ls M hP hD hS hl => ?_)
  obtain ⟨hx, hb, hr, hml, hown, hts, hlocks, hA, hK, hG⟩ := id M
  have hl : lv_has ls 3 [(0, .ref a_co), (1, .int v1), (2, .int v2)] := hl
  have hE := hy
  rw [f_Co_constant] at hE
  refine lv_aload_n hx hb d_Co_constant_0 rfl (lv_at hl 0 rfl) ?_
  refine va_get (D := g.1) (ci := 1) (v := .ref a_cn) (C := "MoveDesk$Code") (T := F_Co) (N := 6) hx hb hts i_Co hown hK hP 0 rfl rfl 4 (by decide) (hts _ m_44) (fun _ h9 => h9) rfl d_Co_constant_1 ?_
  refine lv_iload_n hx hb d_Co_constant_4 rfl (lv_at hl 1 rfl) ?_
  refine lv_iconst (v := 4) hx hb d_Co_constant_5 (by decide) ?_
  refine lv_imul hx hb d_Co_constant_6 ?_
  refine lv_iload_n hx hb d_Co_constant_7 rfl (lv_at hl 2 rfl) ?_
  refine lv_iadd hx hb d_Co_constant_8 ?_
  have ⟨h1, hE⟩ := ck_at hE
  refine va_iald hx hb hK hP 1 0 rfl rfl h1 d_Co_constant_9 ?_
  have hE := Option.some.inj hE
  rw [hE]
  exact W.iret (v := (r_cn ((v1 * (4 : Int32)) + v2).toNatClampNeg)) hx hb hr (fun t ht hW => ⟨⟨rfl, by rw [ht]; exact hP, va_K.moved hW.alike hK, hD⟩, hS.F ht⟩) hS.2.2 d_Co_constant_10 hlocks
abbrev rm_Co_destination : Room := { frames := 0, cells := 0, slots := 0, locals := 0 }
set_option maxHeartbeats 4000000 in
set_option maxRecDepth 100000 in
theorem c_Co_destination (l : Launch) (g : GT) (a_co : Nat) (a_ta : Nat) (a_gu : Nat) (a_so : Nat) (a_cn : Nat) (a_de : Nat) (r_co : Nat → Int32) (r_de : Nat → Int32) (v1 : Int32) (v2 : Int32) (y : Int32) (hy : some y = f_Co_destination r_co r_de v1 v2) : Ct l y_Co_destination (.code y_Co_destination b_Co_destination 3 (some .int)) rm_Co_destination g [.ref a_co, .int v1, .int v2] (w_co_de g a_co a_ta a_gu a_so a_cn a_de r_co r_de) (w_co_de g a_co a_ta a_gu a_so a_cn a_de r_co r_de) (some (.int y)) := by
  refine ct_in (C := "MoveDesk$Code") rfl (by decide) (Nat.le_of_ble_eq_true rfl) (fun p e s m below meth c A ls M hP hD hS hl => ?_)
  obtain ⟨hx, hb, hr, hml, hown, hts, hlocks, hA, hK, hG⟩ := id M
  have hl : lv_has ls 3 [(0, .ref a_co), (1, .int v1), (2, .int v2)] := hl
  have hE := hy
  rw [f_Co_destination] at hE
  refine lv_aload_n hx hb d_Co_destination_0 rfl (lv_at hl 0 rfl) ?_
  refine va_get (D := g.1) (ci := 1) (v := .ref a_de) (C := "MoveDesk$Code") (T := F_Co) (N := 6) hx hb hts i_Co hown hK hP 0 rfl rfl 5 (by decide) (hts _ m_45) (fun _ h9 => h9) rfl d_Co_destination_1 ?_
  refine lv_iload_n hx hb d_Co_destination_4 rfl (lv_at hl 1 rfl) ?_
  refine lv_iconst (v := 4) hx hb d_Co_destination_5 (by decide) ?_
  refine lv_imul hx hb d_Co_destination_6 ?_
  refine lv_iload_n hx hb d_Co_destination_7 rfl (lv_at hl 2 rfl) ?_
  refine lv_iadd hx hb d_Co_destination_8 ?_
  have ⟨h1, hE⟩ := ck_at hE
  refine va_iald hx hb hK hP 1 0 rfl rfl h1 d_Co_destination_9 ?_
  have hE := Option.some.inj hE
  rw [hE]
  exact W.iret (v := (r_de ((v1 * (4 : Int32)) + v2).toNatClampNeg)) hx hb hr (fun t ht hW => ⟨⟨rfl, by rw [ht]; exact hP, va_K.moved hW.alike hK, hD⟩, hS.F ht⟩) hS.2.2 d_Co_destination_10 hlocks
abbrev rm_Co_part : Room := { frames := 1, cells := 0, slots := 0, locals := 22 }
set_option maxHeartbeats 4000000 in
set_option maxRecDepth 100000 in
theorem c_Co_part (l : Launch) (g : GT) (a_co : Nat) (a_ta : Nat) (a_gu : Nat) (a_so : Nat) (a_cn : Nat) (a_de : Nat) (r_co : Nat → Int32) (r_gu : Nat → Int32) (r_so : Nat → Int32) (r_cn : Nat → Int32) (r_de : Nat → Int32) (v1 : Int32) (v2 : Int32) (v3 : Int32) (y : Int32) (hy : some y = f_Co_part r_co r_gu r_so r_cn r_de v1 v2 v3) : Ct l y_Co_part (.code y_Co_part b_Co_part 4 (some .int)) rm_Co_part g [.ref a_co, .int v1, .int v2, .int v3] (w_co_gu_so_cn_de g a_co a_ta a_gu a_so a_cn a_de r_co r_gu r_so r_cn r_de) (w_co_gu_so_cn_de g a_co a_ta a_gu a_so a_cn a_de r_co r_gu r_so r_cn r_de) (some (.int y)) := by
  refine ct_in (C := "MoveDesk$Code") rfl (by decide) (Nat.le_of_ble_eq_true rfl) (fun p e s m below meth c A ls M hP hD hS hl => ?_)
  obtain ⟨hx, hb, hr, hml, hown, hts, hlocks, hA, hK, hG⟩ := id M
  have hl : lv_has ls 4 [(0, .ref a_co), (1, .int v1), (2, .int v2), (3, .int v3)] := hl
  have hE := hy
  rw [f_Co_part] at hE
  refine lv_iload_n hx hb d_Co_part_0 rfl (lv_at hl 3 rfl) ?_
  by_cases c1 : v3 = 0
  · have hE := it_t hE c1
    refine lv_tableIn (tgt := 32) hx hb d_Co_part_1 (by rw [c1]; decide) (by rw [c1]; decide) (by rw [c1]; rfl) (by decide) ?_
    refine lv_aload_n hx hb d_Co_part_32 rfl (lv_at hl 0 rfl) ?_
    refine va_get (D := g.1) (ci := 1) (v := .ref a_gu) (C := "MoveDesk$Code") (T := F_Co) (N := 6) hx hb hts i_Co hown hK hP 0 rfl rfl 2 (by decide) (hts _ m_42) (fun _ h9 => h9) rfl d_Co_part_33 ?_
    refine lv_iload_n hx hb d_Co_part_36 rfl (lv_at hl 1 rfl) ?_
    refine lv_iconst (v := 4) hx hb d_Co_part_37 (by decide) ?_
    refine lv_imul hx hb d_Co_part_38 ?_
    refine lv_iload_n hx hb d_Co_part_39 rfl (lv_at hl 2 rfl) ?_
    refine lv_iadd hx hb d_Co_part_40 ?_
    have ⟨h2, hE⟩ := ck_at hE
    refine va_iald hx hb hK hP 1 0 rfl rfl h2 d_Co_part_41 ?_
    have hE := Option.some.inj hE
    rw [hE]
    exact W.iret (v := (r_gu ((v1 * (4 : Int32)) + v2).toNatClampNeg)) hx hb hr (fun t ht hW => ⟨⟨rfl, by rw [ht]; exact hP, va_K.moved hW.alike hK, hD⟩, hS.F ht⟩) hS.2.2 d_Co_part_42 hlocks
  · have hE := it_f hE c1
    by_cases c3 : v3 = 1
    · have hE := it_t hE c3
      refine lv_tableIn (tgt := 43) hx hb d_Co_part_1 (by rw [c3]; decide) (by rw [c3]; decide) (by rw [c3]; rfl) (by decide) ?_
      refine lv_aload_n hx hb d_Co_part_43 rfl (lv_at hl 0 rfl) ?_
      refine lv_iload_n hx hb d_Co_part_44 rfl (lv_at hl 1 rfl) ?_
      refine lv_iload_n hx hb d_Co_part_45 rfl (lv_at hl 2 rfl) ?_
      obtain ⟨y4, hy4, hE⟩ := bd_at hE
      refine kV (C := "MoveDesk$Code") (index := 39) (As := [.int v1, .int v2]) (rest := []) (ws2 := (w_co_gu_so_cn_de g a_co a_ta a_gu a_so a_cn a_de r_co r_gu r_so r_cn r_de)) M hP hD hS hl.1 (c_Co_source l g a_co a_ta a_gu a_so a_cn a_de r_co r_so v1 v2 y4 hy4) m_309 m_310 m_311 m_3 m_312 hd_Co_source rfl rfl rfl ⟨by decide, by decide⟩ ⟨by decide, by decide⟩ 1 0 rfl rfl rfl [0, 2] [1, 3, 4] [3, 0, 4, 1, 2] rfl rfl rfl rfl (by decide) rfl rfl rfl (Nat.le_of_ble_eq_true rfl) d_Co_part_46 (fun H locs hP hD hS => ?_)
      refine W.eq (g2 := F0 m 49 ls [.int y4]) rfl ?_
      have hE := Option.some.inj hE
      rw [hE]
      exact W.iret (v := y4) hx hb hr (fun t ht hW => ⟨⟨rfl, by rw [ht]; exact hP, va_K.moved hW.alike hK, hD⟩, hS.F ht⟩) hS.2.2 d_Co_part_49 hlocks
    · have hE := it_f hE c3
      by_cases c5 : v3 = 2
      · have hE := it_t hE c5
        refine lv_tableIn (tgt := 50) hx hb d_Co_part_1 (by rw [c5]; decide) (by rw [c5]; decide) (by rw [c5]; rfl) (by decide) ?_
        refine lv_aload_n hx hb d_Co_part_50 rfl (lv_at hl 0 rfl) ?_
        refine lv_iload_n hx hb d_Co_part_51 rfl (lv_at hl 1 rfl) ?_
        refine lv_iload_n hx hb d_Co_part_52 rfl (lv_at hl 2 rfl) ?_
        obtain ⟨y6, hy6, hE⟩ := bd_at hE
        refine kV (C := "MoveDesk$Code") (index := 43) (As := [.int v1, .int v2]) (rest := []) (ws2 := (w_co_gu_so_cn_de g a_co a_ta a_gu a_so a_cn a_de r_co r_gu r_so r_cn r_de)) M hP hD hS hl.1 (c_Co_constant l g a_co a_ta a_gu a_so a_cn a_de r_co r_cn v1 v2 y6 hy6) m_313 m_314 m_315 m_3 m_316 hd_Co_constant rfl rfl rfl ⟨by decide, by decide⟩ ⟨by decide, by decide⟩ 1 0 rfl rfl rfl [0, 3] [1, 2, 4] [3, 0, 1, 4, 2] rfl rfl rfl rfl (by decide) rfl rfl rfl (Nat.le_of_ble_eq_true rfl) d_Co_part_53 (fun H locs hP hD hS => ?_)
        refine W.eq (g2 := F0 m 56 ls [.int y6]) rfl ?_
        have hE := Option.some.inj hE
        rw [hE]
        exact W.iret (v := y6) hx hb hr (fun t ht hW => ⟨⟨rfl, by rw [ht]; exact hP, va_K.moved hW.alike hK, hD⟩, hS.F ht⟩) hS.2.2 d_Co_part_56 hlocks
      · have hE := it_f hE c5
        by_cases c7 : v3 = 3
        · have hE := it_t hE c7
          refine lv_tableIn (tgt := 57) hx hb d_Co_part_1 (by rw [c7]; decide) (by rw [c7]; decide) (by rw [c7]; rfl) (by decide) ?_
          refine lv_aload_n hx hb d_Co_part_57 rfl (lv_at hl 0 rfl) ?_
          refine lv_iload_n hx hb d_Co_part_58 rfl (lv_at hl 1 rfl) ?_
          refine lv_iload_n hx hb d_Co_part_59 rfl (lv_at hl 2 rfl) ?_
          obtain ⟨y8, hy8, hE⟩ := bd_at hE
          refine kV (C := "MoveDesk$Code") (index := 46) (As := [.int v1, .int v2]) (rest := []) (ws2 := (w_co_gu_so_cn_de g a_co a_ta a_gu a_so a_cn a_de r_co r_gu r_so r_cn r_de)) M hP hD hS hl.1 (c_Co_destination l g a_co a_ta a_gu a_so a_cn a_de r_co r_de v1 v2 y8 hy8) m_317 m_318 m_319 m_3 m_320 hd_Co_destination rfl rfl rfl ⟨by decide, by decide⟩ ⟨by decide, by decide⟩ 1 0 rfl rfl rfl [0, 4] [1, 2, 3] [3, 0, 1, 2, 4] rfl rfl rfl rfl (by decide) rfl rfl rfl (Nat.le_of_ble_eq_true rfl) d_Co_part_60 (fun H locs hP hD hS => ?_)
          refine W.eq (g2 := F0 m 63 ls [.int y8]) rfl ?_
          have hE := Option.some.inj hE
          rw [hE]
          exact W.iret (v := y8) hx hb hr (fun t ht hW => ⟨⟨rfl, by rw [ht]; exact hP, va_K.moved hW.alike hK, hD⟩, hS.F ht⟩) hS.2.2 d_Co_part_63 hlocks
        · have hE := it_f hE c7
          refine lv_tableOut (tgt := 64) hx hb d_Co_part_1 (by have q0 := lv_neT c1 (a := 0) (by decide); have q1 := lv_neT c3 (a := 1) (by decide); have q2 := lv_neT c5 (a := 2) (by decide); have q3 := lv_neT c7 (a := 3) (by decide); omega) (by decide) ?_
          refine lv_iconst (v := (-1)) hx hb d_Co_part_64 (by decide) ?_
          have hE := Option.some.inj hE
          rw [hE]
          exact W.iret (v := (-1)) hx hb hr (fun t ht hW => ⟨⟨rfl, by rw [ht]; exact hP, va_K.moved hW.alike hK, hD⟩, hS.F ht⟩) hS.2.2 d_Co_part_65 hlocks
abbrev rm_Co_allows : Room := { frames := 0, cells := 0, slots := 0, locals := 0 }
set_option maxHeartbeats 4000000 in
set_option maxRecDepth 100000 in
theorem c_Co_allows (l : Launch) (g : GT)   (v0 : Int32) (v1 : Int32) (y : Int32) (hy : some y = f_Co_allows v0 v1) : Ct l y_Co_allows (.code y_Co_allows b_Co_allows 2 (some .boolean)) rm_Co_allows g [.int v0, .int v1] (w_ g  ) (w_ g  ) (some (.int y)) := by
  refine ct_in (C := "MoveDesk$Code") rfl (by decide) (Nat.le_of_ble_eq_true rfl) (fun p e s m below meth c A ls M hP hD hS hl => ?_)
  obtain ⟨hx, hb, hr, hml, hown, hts, hlocks, hA, hK, hG⟩ := id M
  have hl : lv_has ls 2 [(0, .int v0), (1, .int v1)] := hl
  have hE := hy
  rw [f_Co_allows] at hE
  refine lv_iload_n hx hb d_Co_allows_0 rfl (lv_at hl 0 rfl) ?_
  refine lv_if_ne (tgt := 6) hx hb d_Co_allows_1 (by decide) (fun c1 => ?_) (fun c1 => ?_)
  · have hE := it_f hE c1
    refine lv_iload_n hx hb d_Co_allows_6 rfl (lv_at hl 0 rfl) ?_
    refine lv_iconst (v := 5) hx hb d_Co_allows_7 (by decide) ?_
    refine lv_icmp_ge (tgt := 30) hx hb d_Co_allows_8 (by decide) (fun c2 => ?_) (fun c2 => ?_)
    · have hE := it_t hE c2
      refine lv_iload_n hx hb d_Co_allows_30 rfl (lv_at hl 1 rfl) ?_
      refine lv_iload_n hx hb d_Co_allows_31 rfl (lv_at hl 0 rfl) ?_
      refine lv_iconst (v := 5) hx hb d_Co_allows_32 (by decide) ?_
      refine lv_isub hx hb d_Co_allows_33 ?_
      refine lv_ishr hx hb d_Co_allows_34 ?_
      refine lv_iconst (v := 1) hx hb d_Co_allows_35 (by decide) ?_
      refine lv_iand hx hb d_Co_allows_36 ?_
      refine lv_if_ne (tgt := 44) hx hb d_Co_allows_37 (by decide) (fun c3 => ?_) (fun c3 => ?_)
      · have hE := it_f hE c3
        refine lv_iconst (v := 0) hx hb d_Co_allows_44 (by decide) ?_
        have hE := Option.some.inj hE
        rw [hE]
        exact W.zret (v := 0) (ty := .boolean) hx hb hr rfl (fun t ht hW => ⟨⟨rfl, by rw [ht]; exact hP, va_K.moved hW.alike hK, hD⟩, hS.F ht⟩) hS.2.2 d_Co_allows_45 hlocks
      · have hE := it_t hE c3
        refine lv_iconst (v := 1) hx hb d_Co_allows_40 (by decide) ?_
        refine lv_goto (tgt := 45) hx hb d_Co_allows_41 (by decide) ?_
        have hE := Option.some.inj hE
        rw [hE]
        exact W.zret (v := 1) (ty := .boolean) hx hb hr rfl (fun t ht hW => ⟨⟨rfl, by rw [ht]; exact hP, va_K.moved hW.alike hK, hD⟩, hS.F ht⟩) hS.2.2 d_Co_allows_45 hlocks
    · have hE := it_f hE c2
      refine lv_iload_n hx hb d_Co_allows_11 rfl (lv_at hl 1 rfl) ?_
      refine lv_iload_n hx hb d_Co_allows_12 rfl (lv_at hl 0 rfl) ?_
      refine lv_iconst (v := 1) hx hb d_Co_allows_13 (by decide) ?_
      refine lv_isub hx hb d_Co_allows_14 ?_
      refine lv_ishr hx hb d_Co_allows_15 ?_
      refine lv_iconst (v := 1) hx hb d_Co_allows_16 (by decide) ?_
      refine lv_iand hx hb d_Co_allows_17 ?_
      refine lv_iconst (v := 1) hx hb d_Co_allows_18 (by decide) ?_
      refine lv_icmp_ne (tgt := 26) hx hb d_Co_allows_19 (by decide) (fun c4 => ?_) (fun c4 => ?_)
      · have hE := it_f hE c4
        refine lv_iconst (v := 0) hx hb d_Co_allows_26 (by decide) ?_
        refine lv_goto (tgt := 45) hx hb d_Co_allows_27 (by decide) ?_
        have hE := Option.some.inj hE
        rw [hE]
        exact W.zret (v := 0) (ty := .boolean) hx hb hr rfl (fun t ht hW => ⟨⟨rfl, by rw [ht]; exact hP, va_K.moved hW.alike hK, hD⟩, hS.F ht⟩) hS.2.2 d_Co_allows_45 hlocks
      · have hE := it_t hE c4
        refine lv_iconst (v := 1) hx hb d_Co_allows_22 (by decide) ?_
        refine lv_goto (tgt := 45) hx hb d_Co_allows_23 (by decide) ?_
        have hE := Option.some.inj hE
        rw [hE]
        exact W.zret (v := 1) (ty := .boolean) hx hb hr rfl (fun t ht hW => ⟨⟨rfl, by rw [ht]; exact hP, va_K.moved hW.alike hK, hD⟩, hS.F ht⟩) hS.2.2 d_Co_allows_45 hlocks
  · have hE := it_t hE c1
    refine lv_iconst (v := 1) hx hb d_Co_allows_4 (by decide) ?_
    have hE := Option.some.inj hE
    rw [hE]
    exact W.zret (v := 1) (ty := .boolean) hx hb hr rfl (fun t ht hW => ⟨⟨rfl, by rw [ht]; exact hP, va_K.moved hW.alike hK, hD⟩, hS.F ht⟩) hS.2.2 d_Co_allows_5 hlocks
abbrev rm_Co_madeWith : Room := { frames := 1, cells := 0, slots := 0, locals := 21 }
set_option maxHeartbeats 4000000 in
set_option maxRecDepth 100000 in
theorem wl_Co_madeWith_52 {p : Program} {l : Launch} {e : Env} {s : State} {m : MethodId} {args : Array Value} {below : List Frame} {meth : Method} {c : Code} {A : Nat → Prop} {g : GT} {a_co : Nat} {a_ta : Nat} {a_gu : Nat} {a_so : Nat} {a_cn : Nat} {a_de : Nat} {y : Int32} (M : MX p s m args meth c b_Co_madeWith 5 (some .int) "MoveDesk$Code" g A) (rec_16 : (Nat → Int32) → (Nat → Int32) → (Nat → Int32) → Int32 → Int32 → Int32 → Int32 → Option (Int32)) (hrec_16 : ∀ (r_co : Nat → Int32) (r_ta : Nat → Int32) (r_gu : Nat → Int32) (v1 : Int32) (v2 : Int32) (v3 : Int32) (v4 : Int32) (H : Heap) (locs : List Loc) (ls : Array Slot), some y = rec_16 r_co r_ta r_gu v1 v2 v3 v4 → va_P g.1 classes (w_co_ta_gu g a_co a_ta a_gu a_so a_cn a_de r_co r_ta r_gu) H → va_D A (w_co_ta_gu g a_co a_ta a_gu a_so a_cn a_de r_co r_ta r_gu) → va_S A s.heap H locs → lv_has ls 5 [(0, .ref a_co), (1, .int v1), (2, .int v2), (3, .int v3), (4, .int v4)] → W p l e rm_Co_madeWith s m args below meth c H locs 0 0 (MQ below (QW g (some (.int y)) (w_co_ta_gu g a_co a_ta a_gu a_so a_cn a_de r_co r_ta r_gu) A) args s 0 0 A) (F0 m 16 ls [])) : ∀ (r_co : Nat → Int32) (r_ta : Nat → Int32) (r_gu : Nat → Int32) (v1 : Int32) (v2 : Int32) (v3 : Int32) (v4 : Int32) (H : Heap) (locs : List Loc) (ls : Array Slot), some y = (f_Co_madeWith_52 rec_16) r_co r_ta r_gu v1 v2 v3 v4 → va_P g.1 classes (w_co_ta_gu g a_co a_ta a_gu a_so a_cn a_de r_co r_ta r_gu) H → va_D A (w_co_ta_gu g a_co a_ta a_gu a_so a_cn a_de r_co r_ta r_gu) → va_S A s.heap H locs → lv_has ls 5 [(0, .ref a_co), (1, .int v1), (2, .int v2), (3, .int v3), (4, .int v4)] → W p l e rm_Co_madeWith s m args below meth c H locs 0 0 (MQ below (QW g (some (.int y)) (w_co_ta_gu g a_co a_ta a_gu a_so a_cn a_de r_co r_ta r_gu) A) args s 0 0 A) (F0 m 52 ls []) := by
  obtain ⟨hx, hb, hr, hml, hown, hts, hlocks, hA, hK, hG⟩ := id M
  intro r_co r_ta r_gu v1 v2 v3 v4 H locs ls hE hP hD hS hl
  rw [f_Co_madeWith_52] at hE
  obtain ⟨x1, ex1⟩ : ∃ z : Int32, z = v4 + 1 := ⟨_, rfl⟩
  have hE := nm_at hE ex1
  refine lv_iinc (v := x1) (lv' := [(4, .int x1), (0, .ref a_co), (1, .int v1), (2, .int v2), (3, .int v3)]) hx hb d_Co_madeWith_52 hl (k := 4) rfl (by rw [ex1]; rfl) (by decide) rfl (fun ls hl => ?_)
  refine lv_goto (tgt := 16) hx hb d_Co_madeWith_55 (by decide) ?_
  exact hrec_16 _ _ _ _ _ _ _ _ _ _ hE hP hD hS (lv_sub hl [1, 2, 3, 4, 0] rfl)
set_option maxHeartbeats 4000000 in
set_option maxRecDepth 100000 in
theorem wl_Co_madeWith_16 {p : Program} {l : Launch} {e : Env} {s : State} {m : MethodId} {args : Array Value} {below : List Frame} {meth : Method} {c : Code} {A : Nat → Prop} {g : GT} {a_co : Nat} {a_ta : Nat} {a_gu : Nat} {a_so : Nat} {a_cn : Nat} {a_de : Nat} {y : Int32} (M : MX p s m args meth c b_Co_madeWith 5 (some .int) "MoveDesk$Code" g A) : ∀ n : Nat, ∀ (r_co : Nat → Int32) (r_ta : Nat → Int32) (r_gu : Nat → Int32) (v1 : Int32) (v2 : Int32) (v3 : Int32) (v4 : Int32) (H : Heap) (locs : List Loc) (ls : Array Slot), some y = (f_Co_madeWith_16 n) r_co r_ta r_gu v1 v2 v3 v4 → va_P g.1 classes (w_co_ta_gu g a_co a_ta a_gu a_so a_cn a_de r_co r_ta r_gu) H → va_D A (w_co_ta_gu g a_co a_ta a_gu a_so a_cn a_de r_co r_ta r_gu) → va_S A s.heap H locs → lv_has ls 5 [(0, .ref a_co), (1, .int v1), (2, .int v2), (3, .int v3), (4, .int v4)] → W p l e rm_Co_madeWith s m args below meth c H locs 0 0 (MQ below (QW g (some (.int y)) (w_co_ta_gu g a_co a_ta a_gu a_so a_cn a_de r_co r_ta r_gu) A) args s 0 0 A) (F0 m 16 ls []) := by
  obtain ⟨hx, hb, hr, hml, hown, hts, hlocks, hA, hK, hG⟩ := id M
  intro n
  induction n with
  | zero =>
    intro r_co r_ta r_gu v1 v2 v3 v4 H locs ls hE hP hD hS hl
    rw [f_Co_madeWith_16] at hE
    cases hE
  | succ n ih =>
    intro r_co r_ta r_gu v1 v2 v3 v4 H locs ls hE hP hD hS hl
    rw [f_Co_madeWith_16] at hE
    refine lv_iload hx hb d_Co_madeWith_16 (lv_at hl 4 rfl) ?_
    refine lv_aload_n hx hb d_Co_madeWith_18 rfl (lv_at hl 0 rfl) ?_
    refine va_get (D := g.1) (ci := 1) (v := .int (r_co 0)) (C := "MoveDesk$Code") (T := F_Co) (N := 6) hx hb hts i_Co hown hK hP 0 rfl rfl 0 (by decide) (hts _ m_39) (fun _ h9 => h9) rfl d_Co_madeWith_19 ?_
    refine lv_icmp_ge (tgt := 58) hx hb d_Co_madeWith_22 (by decide) (fun c1 => ?_) (fun c1 => ?_)
    · have hE := it_t hE c1
      refine lv_iload_n hx hb d_Co_madeWith_58 rfl (lv_at hl 3 rfl) ?_
      have hE := Option.some.inj hE
      rw [hE]
      exact W.iret (v := v3) hx hb hr (fun t ht hW => ⟨⟨rfl, by rw [ht]; exact hP, va_K.moved hW.alike hK, hD⟩, hS.F ht⟩) hS.2.2 d_Co_madeWith_59 hlocks
    · have hE := it_f hE c1
      refine lv_aload_n hx hb d_Co_madeWith_25 rfl (lv_at hl 0 rfl) ?_
      refine va_get (D := g.1) (ci := 1) (v := .ref a_gu) (C := "MoveDesk$Code") (T := F_Co) (N := 6) hx hb hts i_Co hown hK hP 0 rfl rfl 2 (by decide) (hts _ m_42) (fun _ h9 => h9) rfl d_Co_madeWith_26 ?_
      refine lv_iload_n hx hb d_Co_madeWith_29 rfl (lv_at hl 1 rfl) ?_
      refine lv_iconst (v := 4) hx hb d_Co_madeWith_30 (by decide) ?_
      refine lv_imul hx hb d_Co_madeWith_31 ?_
      refine lv_iload hx hb d_Co_madeWith_32 (lv_at hl 4 rfl) ?_
      refine lv_iadd hx hb d_Co_madeWith_34 ?_
      have ⟨h2, hE⟩ := ck_at hE
      refine va_iald hx hb hK hP 2 0 rfl rfl h2 d_Co_madeWith_35 ?_
      refine lv_iload_n hx hb d_Co_madeWith_36 rfl (lv_at hl 2 rfl) ?_
      obtain ⟨y3, hy3, hE⟩ := bd_at hE
      refine kS (index := 49) (As := [.int (r_gu ((v1 * (4 : Int32)) + v4).toNatClampNeg), .int v2]) (rest := []) (ws2 := (w_co_ta_gu g a_co a_ta a_gu a_so a_cn a_de r_co r_ta r_gu)) M hP hD hS hl.1 (c_Co_allows l g   (r_gu ((v1 * (4 : Int32)) + v4).toNatClampNeg) v2 y3 hy3) m_357 m_358 m_3 m_359 hs_Co_allows rfl rfl rfl ⟨by decide, by decide⟩ ⟨by decide, by decide⟩ [] [0, 1, 2] [0, 1, 2] rfl rfl rfl rfl (by decide) rfl rfl rfl (Nat.le_of_ble_eq_true rfl) d_Co_madeWith_37 (fun H locs hP hD hS => ?_)
      refine W.eq (g2 := F0 m 40 ls [.int y3]) rfl ?_
      refine lv_if_ne (tgt := 52) hx hb d_Co_madeWith_40 (by decide) (fun c4 => ?_) (fun c4 => ?_)
      · have hE := it_f hE c4
        exact wl_Co_madeWith_52 M (f_Co_madeWith_16 n) ih _ _ _ _ _ _ _ _ _ _ hE hP hD hS (lv_sub hl [0, 1, 2, 3, 4] rfl)
      · have hE := it_t hE c4
        refine lv_iload_n hx hb d_Co_madeWith_43 rfl (lv_at hl 3 rfl) ?_
        refine lv_iconst (v := 1) hx hb d_Co_madeWith_44 (by decide) ?_
        refine lv_iload hx hb d_Co_madeWith_45 (lv_at hl 4 rfl) ?_
        refine lv_ishl hx hb d_Co_madeWith_47 ?_
        refine lv_iconst (v := (-1)) hx hb d_Co_madeWith_48 (by decide) ?_
        refine lv_ixor hx hb d_Co_madeWith_49 ?_
        refine lv_iand hx hb d_Co_madeWith_50 ?_
        refine lv_topi (fun x5 ex5 => ?_)
        have hE := nm_at hE ex5
        refine lv_istore_n (lv' := [(3, .int x5), (0, .ref a_co), (1, .int v1), (2, .int v2), (4, .int v4)]) hx hb d_Co_madeWith_51 rfl hl (by decide) rfl (fun ls hl => ?_)
        exact wl_Co_madeWith_52 M (f_Co_madeWith_16 n) ih _ _ _ _ _ _ _ _ _ _ hE hP hD hS (lv_sub hl [1, 2, 3, 0, 4] rfl)
set_option maxHeartbeats 4000000 in
set_option maxRecDepth 100000 in
theorem c_Co_madeWith (l : Launch) (g : GT) (a_co : Nat) (a_ta : Nat) (a_gu : Nat) (a_so : Nat) (a_cn : Nat) (a_de : Nat) (r_co : Nat → Int32) (r_ta : Nat → Int32) (r_gu : Nat → Int32) (v1 : Int32) (v2 : Int32) (y : Int32) (hy : some y = f_Co_madeWith r_co r_ta r_gu v1 v2) : Ct l y_Co_madeWith (.code y_Co_madeWith b_Co_madeWith 5 (some .int)) rm_Co_madeWith g [.ref a_co, .int v1, .int v2] (w_co_ta_gu g a_co a_ta a_gu a_so a_cn a_de r_co r_ta r_gu) (w_co_ta_gu g a_co a_ta a_gu a_so a_cn a_de r_co r_ta r_gu) (some (.int y)) := by
  refine ct_in (C := "MoveDesk$Code") rfl (by decide) (Nat.le_of_ble_eq_true rfl) (fun p e s m below meth c A ls M hP hD hS hl => ?_)
  obtain ⟨hx, hb, hr, hml, hown, hts, hlocks, hA, hK, hG⟩ := id M
  have hl : lv_has ls 5 [(0, .ref a_co), (1, .int v1), (2, .int v2)] := hl
  have hE := hy
  rw [f_Co_madeWith] at hE
  refine lv_aload_n hx hb d_Co_madeWith_0 rfl (lv_at hl 0 rfl) ?_
  refine va_get (D := g.1) (ci := 1) (v := .ref a_ta) (C := "MoveDesk$Code") (T := F_Co) (N := 6) hx hb hts i_Co hown hK hP 0 rfl rfl 1 (by decide) (hts _ m_41) (fun _ h9 => h9) rfl d_Co_madeWith_1 ?_
  refine lv_iload_n hx hb d_Co_madeWith_4 rfl (lv_at hl 1 rfl) ?_
  have ⟨h1, hE⟩ := ck_at hE
  refine va_iald hx hb hK hP 1 0 rfl rfl h1 d_Co_madeWith_5 ?_
  refine lv_topi (fun x2 ex2 => ?_)
  have hE := nm_at hE ex2
  refine lv_istore_n (lv' := [(3, .int x2), (0, .ref a_co), (1, .int v1), (2, .int v2)]) hx hb d_Co_madeWith_6 rfl hl (by decide) rfl (fun ls hl => ?_)
  refine lv_iload_n hx hb d_Co_madeWith_7 rfl (lv_at hl 0 rfl) ?_
  refine lv_if_ne (tgt := 13) hx hb d_Co_madeWith_8 (by decide) (fun c3 => ?_) (fun c3 => ?_)
  · have hE := it_f hE c3
    refine lv_iconst (v := 0) hx hb d_Co_madeWith_13 (by decide) ?_
    refine lv_istore (lv' := [(4, .int 0), (3, .int x2), (0, .ref a_co), (1, .int v1), (2, .int v2)]) hx hb d_Co_madeWith_14 hl (by decide) rfl (fun ls hl => ?_)
    exact wl_Co_madeWith_16 M 5000 _ _ _ _ _ _ _ _ _ _ hE hP hD hS (lv_sub hl [2, 3, 4, 1, 0] rfl)
  · have hE := it_t hE c3
    refine lv_iconst (v := 0) hx hb d_Co_madeWith_11 (by decide) ?_
    have hE := Option.some.inj hE
    rw [hE]
    exact W.iret (v := 0) hx hb hr (fun t ht hW => ⟨⟨rfl, by rw [ht]; exact hP, va_K.moved hW.alike hK, hD⟩, hS.F ht⟩) hS.2.2 d_Co_madeWith_12 hlocks
