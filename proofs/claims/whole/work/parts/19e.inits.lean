theorem m_24 : (.methodLink "MoveDesk" 3 ⟨"java/lang/Object", "<init>", "()V"⟩ : Cond) ∈ bw := mw 24 (by decide +kernel) rfl
theorem m_25 : (.instanceMethod ⟨"java/lang/Object", "<init>", "()V"⟩ : Cond) ∈ bw := mw 25 (by decide +kernel) rfl
theorem m_26 : (.code ⟨"java/lang/Object", "<init>", "()V"⟩ object_method_1_code 1 none : Cond) ∈ bw := mw 26 (by decide +kernel) rfl
theorem m_27 : (.methodLink "MoveDesk" 9 ⟨"java/lang/Math", "min", "(II)I"⟩ : Cond) ∈ bw := mw 27 (by decide +kernel) rfl
theorem m_30 : (.methodLink "MoveDesk" 15 ⟨"java/lang/Math", "max", "(II)I"⟩ : Cond) ∈ bw := mw 30 (by decide +kernel) rfl
theorem m_33 : (.classLink "MoveDesk" 18 "MoveDesk$Code" : Cond) ∈ bw := mw 33 (by decide +kernel) rfl
theorem m_34 : (.instantiable "MoveDesk$Code" 6 : Cond) ∈ bw := mw 34 (by decide +kernel) rfl
theorem m_35 : (.methodLink "MoveDesk" 20 ⟨"MoveDesk$Code", "<init>", "(I)V"⟩ : Cond) ∈ bw := mw 35 (by decide +kernel) rfl
theorem m_36 : (.instanceMethod ⟨"MoveDesk$Code", "<init>", "(I)V"⟩ : Cond) ∈ bw := mw 36 (by decide +kernel) rfl
theorem m_37 : (.code ⟨"MoveDesk$Code", "<init>", "(I)V"⟩ prog_3_method_1_code 2 none : Cond) ∈ bw := mw 37 (by decide +kernel) rfl
theorem m_38 : (.methodLink "MoveDesk$Code" 3 ⟨"java/lang/Object", "<init>", "()V"⟩ : Cond) ∈ bw := mw 38 (by decide +kernel) rfl
theorem m_59 : (.arrayClass .int : Cond) ∈ bw := mw 59 (by decide +kernel) rfl
theorem m_60 : (.classLink "MoveDesk" 27 "MoveDesk$Machine" : Cond) ∈ bw := mw 60 (by decide +kernel) rfl
theorem m_61 : (.instantiable "MoveDesk$Machine" 16 : Cond) ∈ bw := mw 61 (by decide +kernel) rfl
theorem m_62 : (.methodLink "MoveDesk" 29 ⟨"MoveDesk$Machine", "<init>", "(LMoveDesk$Code;[I)V"⟩ : Cond) ∈ bw := mw 62 (by decide +kernel) rfl
theorem m_63 : (.instanceMethod ⟨"MoveDesk$Machine", "<init>", "(LMoveDesk$Code;[I)V"⟩ : Cond) ∈ bw := mw 63 (by decide +kernel) rfl
theorem m_64 : (.code ⟨"MoveDesk$Machine", "<init>", "(LMoveDesk$Code;[I)V"⟩ prog_5_method_1_code 3 none : Cond) ∈ bw := mw 64 (by decide +kernel) rfl
theorem m_65 : (.methodLink "MoveDesk$Machine" 3 ⟨"java/lang/Object", "<init>", "()V"⟩ : Cond) ∈ bw := mw 65 (by decide +kernel) rfl
theorem m_66 : (.classLink "MoveDesk$Machine" 9 "MoveDesk$Bundle" : Cond) ∈ bw := mw 66 (by decide +kernel) rfl
theorem m_67 : (.instantiable "MoveDesk$Bundle" 8 : Cond) ∈ bw := mw 67 (by decide +kernel) rfl
theorem m_69 : (.instanceMethod ⟨"MoveDesk$Bundle", "<init>", "()V"⟩ : Cond) ∈ bw := mw 69 (by decide +kernel) rfl
theorem m_70 : (.code ⟨"MoveDesk$Bundle", "<init>", "()V"⟩ prog_2_method_1_code 1 none : Cond) ∈ bw := mw 70 (by decide +kernel) rfl
theorem m_71 : (.methodLink "MoveDesk$Bundle" 3 ⟨"java/lang/Object", "<init>", "()V"⟩ : Cond) ∈ bw := mw 71 (by decide +kernel) rfl
theorem m_152 : (.classLink "MoveDesk" 36 "MoveDesk$Operations" : Cond) ∈ bw := mw 152 (by decide +kernel) rfl
theorem m_153 : (.instantiable "MoveDesk$Operations" 7 : Cond) ∈ bw := mw 153 (by decide +kernel) rfl
theorem m_155 : (.instanceMethod ⟨"MoveDesk$Operations", "<init>", "()V"⟩ : Cond) ∈ bw := mw 155 (by decide +kernel) rfl
theorem m_156 : (.code ⟨"MoveDesk$Operations", "<init>", "()V"⟩ prog_6_method_1_code 1 none : Cond) ∈ bw := mw 156 (by decide +kernel) rfl
theorem m_157 : (.methodLink "MoveDesk$Operations" 3 ⟨"java/lang/Object", "<init>", "()V"⟩ : Cond) ∈ bw := mw 157 (by decide +kernel) rfl
theorem m_180 : (.classLink "MoveDesk" 43 "MoveDesk$Planner" : Cond) ∈ bw := mw 180 (by decide +kernel) rfl
theorem m_181 : (.instantiable "MoveDesk$Planner" 12 : Cond) ∈ bw := mw 181 (by decide +kernel) rfl
theorem m_182 : (.methodLink "MoveDesk" 45 ⟨"MoveDesk$Planner", "<init>", "(LMoveDesk$Code;LMoveDesk$Operations;[I)V"⟩ : Cond) ∈ bw := mw 182 (by decide +kernel) rfl
theorem m_183 : (.instanceMethod ⟨"MoveDesk$Planner", "<init>", "(LMoveDesk$Code;LMoveDesk$Operations;[I)V"⟩ : Cond) ∈ bw := mw 183 (by decide +kernel) rfl
theorem m_184 : (.code ⟨"MoveDesk$Planner", "<init>", "(LMoveDesk$Code;LMoveDesk$Operations;[I)V"⟩ prog_7_method_1_code 4 none : Cond) ∈ bw := mw 184 (by decide +kernel) rfl
theorem m_185 : (.methodLink "MoveDesk$Planner" 3 ⟨"java/lang/Object", "<init>", "()V"⟩ : Cond) ∈ bw := mw 185 (by decide +kernel) rfl
theorem m_223 : (.arrayClass .boolean : Cond) ∈ bw := mw 223 (by decide +kernel) rfl
theorem m_224 : (.classLink "MoveDesk" 52 "MoveDesk$Judge" : Cond) ∈ bw := mw 224 (by decide +kernel) rfl
theorem m_225 : (.instantiable "MoveDesk$Judge" 10 : Cond) ∈ bw := mw 225 (by decide +kernel) rfl
theorem m_226 : (.methodLink "MoveDesk" 54 ⟨"MoveDesk$Judge", "<init>", "(LMoveDesk$Code;[I)V"⟩ : Cond) ∈ bw := mw 226 (by decide +kernel) rfl
theorem m_227 : (.instanceMethod ⟨"MoveDesk$Judge", "<init>", "(LMoveDesk$Code;[I)V"⟩ : Cond) ∈ bw := mw 227 (by decide +kernel) rfl
theorem m_228 : (.code ⟨"MoveDesk$Judge", "<init>", "(LMoveDesk$Code;[I)V"⟩ prog_4_method_1_code 4 none : Cond) ∈ bw := mw 228 (by decide +kernel) rfl
theorem m_229 : (.methodLink "MoveDesk$Judge" 5 ⟨"java/lang/Object", "<init>", "()V"⟩ : Cond) ∈ bw := mw 229 (by decide +kernel) rfl
theorem m_230 : (.classLink "MoveDesk$Judge" 11 "MoveDesk$Bundle" : Cond) ∈ bw := mw 230 (by decide +kernel) rfl
theorem m_232 : (.methodLink "MoveDesk$Judge" 39 ⟨"MoveDesk$Judge", "agesWhere", "(II)J"⟩ : Cond) ∈ bw := mw 232 (by decide +kernel) rfl
theorem m_233 : (.static ⟨"MoveDesk$Judge", "agesWhere", "(II)J"⟩ : Cond) ∈ bw := mw 233 (by decide +kernel) rfl
theorem m_234 : (.code ⟨"MoveDesk$Judge", "agesWhere", "(II)J"⟩ prog_4_method_2_code 5 (some .long) : Cond) ∈ bw := mw 234 (by decide +kernel) rfl
theorem m_270 : (.arrayClass .long : Cond) ∈ bw := mw 270 (by decide +kernel) rfl
abbrev b_Bu_init : ByteArray := prog_2_method_1_code
abbrev y_Bu_init : MethodName := ⟨"MoveDesk$Bundle", "<init>", "()V"⟩
theorem hs_Bu_init : y_Bu_init.cls ≠ "java/lang/invoke/MethodHandle" ∧ y_Bu_init.cls ≠ "java/lang/invoke/VarHandle" ∧ (parseMethodDescriptor y_Bu_init.desc).map (fun d => d.parameters.length) = some 0 := by decide +kernel
theorem d_Bu_init_0 : decode b_Bu_init 0 = .ok (.aload_n 0, 1) := by decide +kernel
theorem d_Bu_init_1 : decode b_Bu_init 1 = .ok (.invokespecial 3, 3) := by decide +kernel
theorem d_Bu_init_4 : decode b_Bu_init 4 = .ok (.return_, 1) := by decide +kernel
abbrev b_Co_init : ByteArray := prog_3_method_1_code
abbrev y_Co_init : MethodName := ⟨"MoveDesk$Code", "<init>", "(I)V"⟩
theorem hs_Co_init : y_Co_init.cls ≠ "java/lang/invoke/MethodHandle" ∧ y_Co_init.cls ≠ "java/lang/invoke/VarHandle" ∧ (parseMethodDescriptor y_Co_init.desc).map (fun d => d.parameters.length) = some 1 := by decide +kernel
theorem d_Co_init_0 : decode b_Co_init 0 = .ok (.aload_n 0, 1) := by decide +kernel
theorem d_Co_init_1 : decode b_Co_init 1 = .ok (.invokespecial 3, 3) := by decide +kernel
theorem d_Co_init_4 : decode b_Co_init 4 = .ok (.aload_n 0, 1) := by decide +kernel
theorem d_Co_init_5 : decode b_Co_init 5 = .ok (.bipush 64, 2) := by decide +kernel
theorem d_Co_init_7 : decode b_Co_init 7 = .ok (.newarray .int, 2) := by decide +kernel
theorem d_Co_init_9 : decode b_Co_init 9 = .ok (.putfield 9, 3) := by decide +kernel
theorem d_Co_init_12 : decode b_Co_init 12 = .ok (.aload_n 0, 1) := by decide +kernel
theorem d_Co_init_13 : decode b_Co_init 13 = .ok (.sipush 256, 3) := by decide +kernel
theorem d_Co_init_16 : decode b_Co_init 16 = .ok (.newarray .int, 2) := by decide +kernel
theorem d_Co_init_18 : decode b_Co_init 18 = .ok (.putfield 15, 3) := by decide +kernel
theorem d_Co_init_21 : decode b_Co_init 21 = .ok (.aload_n 0, 1) := by decide +kernel
theorem d_Co_init_22 : decode b_Co_init 22 = .ok (.sipush 256, 3) := by decide +kernel
theorem d_Co_init_25 : decode b_Co_init 25 = .ok (.newarray .int, 2) := by decide +kernel
theorem d_Co_init_27 : decode b_Co_init 27 = .ok (.putfield 18, 3) := by decide +kernel
theorem d_Co_init_30 : decode b_Co_init 30 = .ok (.aload_n 0, 1) := by decide +kernel
theorem d_Co_init_31 : decode b_Co_init 31 = .ok (.sipush 256, 3) := by decide +kernel
theorem d_Co_init_34 : decode b_Co_init 34 = .ok (.newarray .int, 2) := by decide +kernel
theorem d_Co_init_36 : decode b_Co_init 36 = .ok (.putfield 21, 3) := by decide +kernel
theorem d_Co_init_39 : decode b_Co_init 39 = .ok (.aload_n 0, 1) := by decide +kernel
theorem d_Co_init_40 : decode b_Co_init 40 = .ok (.sipush 256, 3) := by decide +kernel
theorem d_Co_init_43 : decode b_Co_init 43 = .ok (.newarray .int, 2) := by decide +kernel
theorem d_Co_init_45 : decode b_Co_init 45 = .ok (.putfield 24, 3) := by decide +kernel
theorem d_Co_init_48 : decode b_Co_init 48 = .ok (.aload_n 0, 1) := by decide +kernel
theorem d_Co_init_49 : decode b_Co_init 49 = .ok (.iload_n 1, 1) := by decide +kernel
theorem d_Co_init_50 : decode b_Co_init 50 = .ok (.putfield 27, 3) := by decide +kernel
theorem d_Co_init_53 : decode b_Co_init 53 = .ok (.return_, 1) := by decide +kernel
abbrev w_ma_7_6ff0 (g : GT) (a_lat : Nat) (a_co : Nat) (a_ma : Nat) (a_bu : Nat) (a_wo : Nat) (a_od : Nat) (a_rs : Nat) (a_ca : Nat) (a_cm : Nat) (r_ma : Nat → Int32) (r_bu : Nat → Int32) (r_wo : Nat → Int32) (r_od : Nat → Int32) (r_rs : Nat → Int32) (r_ca : Nat → Int32) (r_cm : Nat → Int32) : va_W := [kO a_ma 3 [.ref a_co, .ref a_lat, .ref a_bu, .ref a_wo, .ref a_od, .ref a_rs, .ref a_ca, .ref a_cm, .int (r_ma 8), .int (r_ma 9), .int (r_ma 10), .int (r_ma 11), .int (r_ma 12), .int (r_ma 13), .int (r_ma 14), .int (r_ma 15)], kO a_bu 0 [.int (r_bu 0), .int (r_bu 1), .int (r_bu 2), .int (r_bu 3), .int (r_bu 4), .int (r_bu 5), .int (r_bu 6), .int (r_bu 7)], kI g a_wo 72 r_wo, kI g a_od 3 r_od, kI g a_rs 3 r_rs, kI g a_ca 4 r_ca, kI g a_cm 12 r_cm]
abbrev b_Ma_init : ByteArray := prog_5_method_1_code
abbrev y_Ma_init : MethodName := ⟨"MoveDesk$Machine", "<init>", "(LMoveDesk$Code;[I)V"⟩
theorem hs_Ma_init : y_Ma_init.cls ≠ "java/lang/invoke/MethodHandle" ∧ y_Ma_init.cls ≠ "java/lang/invoke/VarHandle" ∧ (parseMethodDescriptor y_Ma_init.desc).map (fun d => d.parameters.length) = some 2 := by decide +kernel
theorem d_Ma_init_0 : decode b_Ma_init 0 = .ok (.aload_n 0, 1) := by decide +kernel
theorem d_Ma_init_1 : decode b_Ma_init 1 = .ok (.invokespecial 3, 3) := by decide +kernel
theorem d_Ma_init_4 : decode b_Ma_init 4 = .ok (.aload_n 0, 1) := by decide +kernel
theorem d_Ma_init_5 : decode b_Ma_init 5 = .ok (.new 9, 3) := by decide +kernel
theorem d_Ma_init_8 : decode b_Ma_init 8 = .ok (.dup, 1) := by decide +kernel
theorem d_Ma_init_9 : decode b_Ma_init 9 = .ok (.invokespecial 11, 3) := by decide +kernel
theorem d_Ma_init_12 : decode b_Ma_init 12 = .ok (.putfield 12, 3) := by decide +kernel
theorem d_Ma_init_15 : decode b_Ma_init 15 = .ok (.aload_n 0, 1) := by decide +kernel
theorem d_Ma_init_16 : decode b_Ma_init 16 = .ok (.bipush 72, 2) := by decide +kernel
theorem d_Ma_init_18 : decode b_Ma_init 18 = .ok (.newarray .int, 2) := by decide +kernel
theorem d_Ma_init_20 : decode b_Ma_init 20 = .ok (.putfield 18, 3) := by decide +kernel
theorem d_Ma_init_23 : decode b_Ma_init 23 = .ok (.aload_n 0, 1) := by decide +kernel
theorem d_Ma_init_24 : decode b_Ma_init 24 = .ok (.iconst 3, 1) := by decide +kernel
theorem d_Ma_init_25 : decode b_Ma_init 25 = .ok (.newarray .int, 2) := by decide +kernel
theorem d_Ma_init_27 : decode b_Ma_init 27 = .ok (.putfield 22, 3) := by decide +kernel
theorem d_Ma_init_30 : decode b_Ma_init 30 = .ok (.aload_n 0, 1) := by decide +kernel
theorem d_Ma_init_31 : decode b_Ma_init 31 = .ok (.iconst 3, 1) := by decide +kernel
theorem d_Ma_init_32 : decode b_Ma_init 32 = .ok (.newarray .int, 2) := by decide +kernel
theorem d_Ma_init_34 : decode b_Ma_init 34 = .ok (.putfield 25, 3) := by decide +kernel
theorem d_Ma_init_37 : decode b_Ma_init 37 = .ok (.aload_n 0, 1) := by decide +kernel
theorem d_Ma_init_38 : decode b_Ma_init 38 = .ok (.iconst 4, 1) := by decide +kernel
theorem d_Ma_init_39 : decode b_Ma_init 39 = .ok (.newarray .int, 2) := by decide +kernel
theorem d_Ma_init_41 : decode b_Ma_init 41 = .ok (.putfield 28, 3) := by decide +kernel
theorem d_Ma_init_44 : decode b_Ma_init 44 = .ok (.aload_n 0, 1) := by decide +kernel
theorem d_Ma_init_45 : decode b_Ma_init 45 = .ok (.bipush 12, 2) := by decide +kernel
theorem d_Ma_init_47 : decode b_Ma_init 47 = .ok (.newarray .int, 2) := by decide +kernel
theorem d_Ma_init_49 : decode b_Ma_init 49 = .ok (.putfield 31, 3) := by decide +kernel
theorem d_Ma_init_52 : decode b_Ma_init 52 = .ok (.aload_n 0, 1) := by decide +kernel
theorem d_Ma_init_53 : decode b_Ma_init 53 = .ok (.aload_n 1, 1) := by decide +kernel
theorem d_Ma_init_54 : decode b_Ma_init 54 = .ok (.putfield 34, 3) := by decide +kernel
theorem d_Ma_init_57 : decode b_Ma_init 57 = .ok (.aload_n 0, 1) := by decide +kernel
theorem d_Ma_init_58 : decode b_Ma_init 58 = .ok (.aload_n 2, 1) := by decide +kernel
theorem d_Ma_init_59 : decode b_Ma_init 59 = .ok (.putfield 38, 3) := by decide +kernel
theorem d_Ma_init_62 : decode b_Ma_init 62 = .ok (.return_, 1) := by decide +kernel
abbrev b_Op_init : ByteArray := prog_6_method_1_code
abbrev y_Op_init : MethodName := ⟨"MoveDesk$Operations", "<init>", "()V"⟩
theorem hs_Op_init : y_Op_init.cls ≠ "java/lang/invoke/MethodHandle" ∧ y_Op_init.cls ≠ "java/lang/invoke/VarHandle" ∧ (parseMethodDescriptor y_Op_init.desc).map (fun d => d.parameters.length) = some 0 := by decide +kernel
theorem d_Op_init_0 : decode b_Op_init 0 = .ok (.aload_n 0, 1) := by decide +kernel
theorem d_Op_init_1 : decode b_Op_init 1 = .ok (.invokespecial 3, 3) := by decide +kernel
theorem d_Op_init_4 : decode b_Op_init 4 = .ok (.aload_n 0, 1) := by decide +kernel
theorem d_Op_init_5 : decode b_Op_init 5 = .ok (.bipush 20, 2) := by decide +kernel
theorem d_Op_init_7 : decode b_Op_init 7 = .ok (.newarray .int, 2) := by decide +kernel
theorem d_Op_init_9 : decode b_Op_init 9 = .ok (.putfield 9, 3) := by decide +kernel
theorem d_Op_init_12 : decode b_Op_init 12 = .ok (.aload_n 0, 1) := by decide +kernel
theorem d_Op_init_13 : decode b_Op_init 13 = .ok (.bipush 20, 2) := by decide +kernel
theorem d_Op_init_15 : decode b_Op_init 15 = .ok (.newarray .int, 2) := by decide +kernel
theorem d_Op_init_17 : decode b_Op_init 17 = .ok (.putfield 15, 3) := by decide +kernel
theorem d_Op_init_20 : decode b_Op_init 20 = .ok (.aload_n 0, 1) := by decide +kernel
theorem d_Op_init_21 : decode b_Op_init 21 = .ok (.bipush 20, 2) := by decide +kernel
theorem d_Op_init_23 : decode b_Op_init 23 = .ok (.newarray .int, 2) := by decide +kernel
theorem d_Op_init_25 : decode b_Op_init 25 = .ok (.putfield 18, 3) := by decide +kernel
theorem d_Op_init_28 : decode b_Op_init 28 = .ok (.aload_n 0, 1) := by decide +kernel
theorem d_Op_init_29 : decode b_Op_init 29 = .ok (.bipush 20, 2) := by decide +kernel
theorem d_Op_init_31 : decode b_Op_init 31 = .ok (.newarray .int, 2) := by decide +kernel
theorem d_Op_init_33 : decode b_Op_init 33 = .ok (.putfield 21, 3) := by decide +kernel
theorem d_Op_init_36 : decode b_Op_init 36 = .ok (.aload_n 0, 1) := by decide +kernel
theorem d_Op_init_37 : decode b_Op_init 37 = .ok (.bipush 20, 2) := by decide +kernel
theorem d_Op_init_39 : decode b_Op_init 39 = .ok (.newarray .int, 2) := by decide +kernel
theorem d_Op_init_41 : decode b_Op_init 41 = .ok (.putfield 24, 3) := by decide +kernel
theorem d_Op_init_44 : decode b_Op_init 44 = .ok (.aload_n 0, 1) := by decide +kernel
theorem d_Op_init_45 : decode b_Op_init 45 = .ok (.bipush 72, 2) := by decide +kernel
theorem d_Op_init_47 : decode b_Op_init 47 = .ok (.newarray .int, 2) := by decide +kernel
theorem d_Op_init_49 : decode b_Op_init 49 = .ok (.putfield 27, 3) := by decide +kernel
theorem d_Op_init_52 : decode b_Op_init 52 = .ok (.return_, 1) := by decide +kernel
abbrev w_pl_10_18ae (g : GT) (a_lat : Nat) (a_co : Nat) (a_op : Nat) (a_pl : Nat) (a_bs : Nat) (a_rr : Nat) (a_hr : Nat) (a_lw : Nat) (a_lr : Nat) (a_lt : Nat) (a_lm : Nat) (a_tc : Nat) (a_rc : Nat) (r_bs : Nat → Int32) (r_rr : Nat → Int32) (r_hr : Nat → Int32) (r_lw : Nat → Int32) (r_lr : Nat → Int32) (r_lt : Nat → Int32) (r_lm : Nat → Int32) (r_tc : Nat → Int32) (r_rc : Nat → Int32) : va_W := [kO a_pl 5 [.ref a_co, .ref a_op, .ref a_lat, .ref a_bs, .ref a_rr, .ref a_hr, .ref a_lw, .ref a_lr, .ref a_lt, .ref a_lm, .ref a_tc, .ref a_rc], kI g a_bs 64 r_bs, kI g a_rr 64 r_rr, kZ g a_hr 64 r_hr, kI g a_lw 8 r_lw, kI g a_lr 8 r_lr, kI g a_lt 3 r_lt, kI g a_lm 3 r_lm, kI g a_tc 20 r_tc, kI g a_rc 20 r_rc]
abbrev b_Pl_init : ByteArray := prog_7_method_1_code
abbrev y_Pl_init : MethodName := ⟨"MoveDesk$Planner", "<init>", "(LMoveDesk$Code;LMoveDesk$Operations;[I)V"⟩
theorem hs_Pl_init : y_Pl_init.cls ≠ "java/lang/invoke/MethodHandle" ∧ y_Pl_init.cls ≠ "java/lang/invoke/VarHandle" ∧ (parseMethodDescriptor y_Pl_init.desc).map (fun d => d.parameters.length) = some 3 := by decide +kernel
theorem d_Pl_init_0 : decode b_Pl_init 0 = .ok (.aload_n 0, 1) := by decide +kernel
theorem d_Pl_init_1 : decode b_Pl_init 1 = .ok (.invokespecial 3, 3) := by decide +kernel
theorem d_Pl_init_4 : decode b_Pl_init 4 = .ok (.aload_n 0, 1) := by decide +kernel
theorem d_Pl_init_5 : decode b_Pl_init 5 = .ok (.bipush 64, 2) := by decide +kernel
theorem d_Pl_init_7 : decode b_Pl_init 7 = .ok (.newarray .int, 2) := by decide +kernel
theorem d_Pl_init_9 : decode b_Pl_init 9 = .ok (.putfield 9, 3) := by decide +kernel
theorem d_Pl_init_12 : decode b_Pl_init 12 = .ok (.aload_n 0, 1) := by decide +kernel
theorem d_Pl_init_13 : decode b_Pl_init 13 = .ok (.bipush 64, 2) := by decide +kernel
theorem d_Pl_init_15 : decode b_Pl_init 15 = .ok (.newarray .int, 2) := by decide +kernel
theorem d_Pl_init_17 : decode b_Pl_init 17 = .ok (.putfield 15, 3) := by decide +kernel
theorem d_Pl_init_20 : decode b_Pl_init 20 = .ok (.aload_n 0, 1) := by decide +kernel
theorem d_Pl_init_21 : decode b_Pl_init 21 = .ok (.bipush 64, 2) := by decide +kernel
theorem d_Pl_init_23 : decode b_Pl_init 23 = .ok (.newarray .boolean, 2) := by decide +kernel
theorem d_Pl_init_25 : decode b_Pl_init 25 = .ok (.putfield 18, 3) := by decide +kernel
theorem d_Pl_init_28 : decode b_Pl_init 28 = .ok (.aload_n 0, 1) := by decide +kernel
theorem d_Pl_init_29 : decode b_Pl_init 29 = .ok (.bipush 8, 2) := by decide +kernel
theorem d_Pl_init_31 : decode b_Pl_init 31 = .ok (.newarray .int, 2) := by decide +kernel
theorem d_Pl_init_33 : decode b_Pl_init 33 = .ok (.putfield 22, 3) := by decide +kernel
theorem d_Pl_init_36 : decode b_Pl_init 36 = .ok (.aload_n 0, 1) := by decide +kernel
theorem d_Pl_init_37 : decode b_Pl_init 37 = .ok (.bipush 8, 2) := by decide +kernel
theorem d_Pl_init_39 : decode b_Pl_init 39 = .ok (.newarray .int, 2) := by decide +kernel
theorem d_Pl_init_41 : decode b_Pl_init 41 = .ok (.putfield 25, 3) := by decide +kernel
theorem d_Pl_init_44 : decode b_Pl_init 44 = .ok (.aload_n 0, 1) := by decide +kernel
theorem d_Pl_init_45 : decode b_Pl_init 45 = .ok (.iconst 3, 1) := by decide +kernel
theorem d_Pl_init_46 : decode b_Pl_init 46 = .ok (.newarray .int, 2) := by decide +kernel
theorem d_Pl_init_48 : decode b_Pl_init 48 = .ok (.putfield 28, 3) := by decide +kernel
theorem d_Pl_init_51 : decode b_Pl_init 51 = .ok (.aload_n 0, 1) := by decide +kernel
theorem d_Pl_init_52 : decode b_Pl_init 52 = .ok (.iconst 3, 1) := by decide +kernel
theorem d_Pl_init_53 : decode b_Pl_init 53 = .ok (.newarray .int, 2) := by decide +kernel
theorem d_Pl_init_55 : decode b_Pl_init 55 = .ok (.putfield 31, 3) := by decide +kernel
theorem d_Pl_init_58 : decode b_Pl_init 58 = .ok (.aload_n 0, 1) := by decide +kernel
theorem d_Pl_init_59 : decode b_Pl_init 59 = .ok (.bipush 20, 2) := by decide +kernel
theorem d_Pl_init_61 : decode b_Pl_init 61 = .ok (.newarray .int, 2) := by decide +kernel
theorem d_Pl_init_63 : decode b_Pl_init 63 = .ok (.putfield 34, 3) := by decide +kernel
theorem d_Pl_init_66 : decode b_Pl_init 66 = .ok (.aload_n 0, 1) := by decide +kernel
theorem d_Pl_init_67 : decode b_Pl_init 67 = .ok (.bipush 20, 2) := by decide +kernel
theorem d_Pl_init_69 : decode b_Pl_init 69 = .ok (.newarray .int, 2) := by decide +kernel
theorem d_Pl_init_71 : decode b_Pl_init 71 = .ok (.putfield 37, 3) := by decide +kernel
theorem d_Pl_init_74 : decode b_Pl_init 74 = .ok (.aload_n 0, 1) := by decide +kernel
theorem d_Pl_init_75 : decode b_Pl_init 75 = .ok (.aload_n 1, 1) := by decide +kernel
theorem d_Pl_init_76 : decode b_Pl_init 76 = .ok (.putfield 40, 3) := by decide +kernel
theorem d_Pl_init_79 : decode b_Pl_init 79 = .ok (.aload_n 0, 1) := by decide +kernel
theorem d_Pl_init_80 : decode b_Pl_init 80 = .ok (.aload_n 2, 1) := by decide +kernel
theorem d_Pl_init_81 : decode b_Pl_init 81 = .ok (.putfield 44, 3) := by decide +kernel
theorem d_Pl_init_84 : decode b_Pl_init 84 = .ok (.aload_n 0, 1) := by decide +kernel
theorem d_Pl_init_85 : decode b_Pl_init 85 = .ok (.aload_n 3, 1) := by decide +kernel
theorem d_Pl_init_86 : decode b_Pl_init 86 = .ok (.putfield 48, 3) := by decide +kernel
theorem d_Pl_init_89 : decode b_Pl_init 89 = .ok (.return_, 1) := by decide +kernel
abbrev w_lat_8_1dac (g : GT) (a_lat : Nat) (a_co : Nat) (a_ju : Nat) (a_jb : Nat) (a_ch : Nat) (a_rd : Nat) (a_fr : Nat) (a_ub : Nat) (a_wr : Nat) (r_lat : Nat → Int32) (r_ju : Nat → Int32) (r_jb : Nat → Int32) (r_ch : Nat → Int32) (r_rd : Nat → Int64) (r_fr : Nat → Int64) (r_ub : Nat → Int64) (r_wr : Nat → Int64) : va_W := [kI g a_lat 3 r_lat, kO a_ju 2 [.ref a_co, .ref a_jb, .ref a_ch, .ref a_rd, .ref a_fr, .ref a_ub, .ref a_wr, .int (r_ju 7), .int (r_ju 8), .int (r_ju 9)], kO a_jb 0 [.int (r_jb 0), .int (r_jb 1), .int (r_jb 2), .int (r_jb 3), .int (r_jb 4), .int (r_jb 5), .int (r_jb 6), .int (r_jb 7)], kI g a_ch 64 r_ch, kJ g a_rd 576 r_rd, kJ g a_fr 576 r_fr, kJ g a_ub 3 r_ub, kJ g a_wr 3 r_wr]
abbrev b_Ju_init : ByteArray := prog_4_method_1_code
abbrev y_Ju_init : MethodName := ⟨"MoveDesk$Judge", "<init>", "(LMoveDesk$Code;[I)V"⟩
theorem hs_Ju_init : y_Ju_init.cls ≠ "java/lang/invoke/MethodHandle" ∧ y_Ju_init.cls ≠ "java/lang/invoke/VarHandle" ∧ (parseMethodDescriptor y_Ju_init.desc).map (fun d => d.parameters.length) = some 2 := by decide +kernel
theorem d_Ju_init_0 : decode b_Ju_init 0 = .ok (.aload_n 0, 1) := by decide +kernel
theorem d_Ju_init_1 : decode b_Ju_init 1 = .ok (.invokespecial 5, 3) := by decide +kernel
theorem d_Ju_init_4 : decode b_Ju_init 4 = .ok (.aload_n 0, 1) := by decide +kernel
theorem d_Ju_init_5 : decode b_Ju_init 5 = .ok (.new 11, 3) := by decide +kernel
theorem d_Ju_init_8 : decode b_Ju_init 8 = .ok (.dup, 1) := by decide +kernel
theorem d_Ju_init_9 : decode b_Ju_init 9 = .ok (.invokespecial 13, 3) := by decide +kernel
theorem d_Ju_init_12 : decode b_Ju_init 12 = .ok (.putfield 14, 3) := by decide +kernel
theorem d_Ju_init_15 : decode b_Ju_init 15 = .ok (.aload_n 0, 1) := by decide +kernel
theorem d_Ju_init_16 : decode b_Ju_init 16 = .ok (.bipush 64, 2) := by decide +kernel
theorem d_Ju_init_18 : decode b_Ju_init 18 = .ok (.newarray .int, 2) := by decide +kernel
theorem d_Ju_init_20 : decode b_Ju_init 20 = .ok (.putfield 18, 3) := by decide +kernel
theorem d_Ju_init_23 : decode b_Ju_init 23 = .ok (.aload_n 0, 1) := by decide +kernel
theorem d_Ju_init_24 : decode b_Ju_init 24 = .ok (.sipush 576, 3) := by decide +kernel
theorem d_Ju_init_27 : decode b_Ju_init 27 = .ok (.newarray .long, 2) := by decide +kernel
theorem d_Ju_init_29 : decode b_Ju_init 29 = .ok (.putfield 22, 3) := by decide +kernel
theorem d_Ju_init_32 : decode b_Ju_init 32 = .ok (.aload_n 0, 1) := by decide +kernel
theorem d_Ju_init_33 : decode b_Ju_init 33 = .ok (.sipush 576, 3) := by decide +kernel
theorem d_Ju_init_36 : decode b_Ju_init 36 = .ok (.newarray .long, 2) := by decide +kernel
theorem d_Ju_init_38 : decode b_Ju_init 38 = .ok (.putfield 26, 3) := by decide +kernel
theorem d_Ju_init_41 : decode b_Ju_init 41 = .ok (.aload_n 0, 1) := by decide +kernel
theorem d_Ju_init_42 : decode b_Ju_init 42 = .ok (.iconst 3, 1) := by decide +kernel
theorem d_Ju_init_43 : decode b_Ju_init 43 = .ok (.newarray .long, 2) := by decide +kernel
theorem d_Ju_init_45 : decode b_Ju_init 45 = .ok (.putfield 29, 3) := by decide +kernel
theorem d_Ju_init_48 : decode b_Ju_init 48 = .ok (.aload_n 0, 1) := by decide +kernel
theorem d_Ju_init_49 : decode b_Ju_init 49 = .ok (.iconst 3, 1) := by decide +kernel
theorem d_Ju_init_50 : decode b_Ju_init 50 = .ok (.newarray .long, 2) := by decide +kernel
theorem d_Ju_init_52 : decode b_Ju_init 52 = .ok (.putfield 32, 3) := by decide +kernel
theorem d_Ju_init_55 : decode b_Ju_init 55 = .ok (.aload_n 0, 1) := by decide +kernel
theorem d_Ju_init_56 : decode b_Ju_init 56 = .ok (.aload_n 1, 1) := by decide +kernel
theorem d_Ju_init_57 : decode b_Ju_init 57 = .ok (.putfield 35, 3) := by decide +kernel
theorem d_Ju_init_60 : decode b_Ju_init 60 = .ok (.iconst 0, 1) := by decide +kernel
theorem d_Ju_init_61 : decode b_Ju_init 61 = .ok (.istore_n 3, 1) := by decide +kernel
theorem d_Ju_init_62 : decode b_Ju_init 62 = .ok (.iload_n 3, 1) := by decide +kernel
theorem d_Ju_init_63 : decode b_Ju_init 63 = .ok (.iconst 3, 1) := by decide +kernel
theorem d_Ju_init_64 : decode b_Ju_init 64 = .ok (.if_icmp .ge 33, 3) := by decide +kernel
theorem d_Ju_init_67 : decode b_Ju_init 67 = .ok (.aload_n 0, 1) := by decide +kernel
theorem d_Ju_init_68 : decode b_Ju_init 68 = .ok (.getfield 29, 3) := by decide +kernel
theorem d_Ju_init_71 : decode b_Ju_init 71 = .ok (.iload_n 3, 1) := by decide +kernel
theorem d_Ju_init_72 : decode b_Ju_init 72 = .ok (.iload_n 3, 1) := by decide +kernel
theorem d_Ju_init_73 : decode b_Ju_init 73 = .ok (.iconst 0, 1) := by decide +kernel
theorem d_Ju_init_74 : decode b_Ju_init 74 = .ok (.invokestatic 39, 3) := by decide +kernel
theorem d_Ju_init_77 : decode b_Ju_init 77 = .ok (.lastore, 1) := by decide +kernel
theorem d_Ju_init_78 : decode b_Ju_init 78 = .ok (.aload_n 0, 1) := by decide +kernel
theorem d_Ju_init_79 : decode b_Ju_init 79 = .ok (.getfield 32, 3) := by decide +kernel
theorem d_Ju_init_82 : decode b_Ju_init 82 = .ok (.iload_n 3, 1) := by decide +kernel
theorem d_Ju_init_83 : decode b_Ju_init 83 = .ok (.iload_n 3, 1) := by decide +kernel
theorem d_Ju_init_84 : decode b_Ju_init 84 = .ok (.aload_n 2, 1) := by decide +kernel
theorem d_Ju_init_85 : decode b_Ju_init 85 = .ok (.iload_n 3, 1) := by decide +kernel
theorem d_Ju_init_86 : decode b_Ju_init 86 = .ok (.iaload, 1) := by decide +kernel
theorem d_Ju_init_87 : decode b_Ju_init 87 = .ok (.invokestatic 39, 3) := by decide +kernel
theorem d_Ju_init_90 : decode b_Ju_init 90 = .ok (.lastore, 1) := by decide +kernel
theorem d_Ju_init_91 : decode b_Ju_init 91 = .ok (.iinc 3 1, 3) := by decide +kernel
theorem d_Ju_init_94 : decode b_Ju_init 94 = .ok (.goto (-32), 3) := by decide +kernel
theorem d_Ju_init_97 : decode b_Ju_init 97 = .ok (.return_, 1) := by decide +kernel
abbrev w_md_39_9e6d (g : GT) (a_md : Nat) (a_lat : Nat) (a_co : Nat) (a_ta : Nat) (a_gu : Nat) (a_so : Nat) (a_cn : Nat) (a_de : Nat) (a_ma : Nat) (a_bu : Nat) (a_wo : Nat) (a_od : Nat) (a_rs : Nat) (a_ca : Nat) (a_cm : Nat) (a_op : Nat) (a_ki : Nat) (a_tg : Nat) (a_fi : Nat) (a_se : Nat) (a_oc : Nat) (a_cp : Nat) (a_pl : Nat) (a_bs : Nat) (a_rr : Nat) (a_hr : Nat) (a_lw : Nat) (a_lr : Nat) (a_lt : Nat) (a_lm : Nat) (a_tc : Nat) (a_rc : Nat) (a_ju : Nat) (a_jb : Nat) (a_ch : Nat) (a_rd : Nat) (a_fr : Nat) (a_ub : Nat) (a_wr : Nat) (r_md : Nat → Int32) (r_lat : Nat → Int32) (r_co : Nat → Int32) (r_ta : Nat → Int32) (r_gu : Nat → Int32) (r_so : Nat → Int32) (r_cn : Nat → Int32) (r_de : Nat → Int32) (r_ma : Nat → Int32) (r_bu : Nat → Int32) (r_wo : Nat → Int32) (r_od : Nat → Int32) (r_rs : Nat → Int32) (r_ca : Nat → Int32) (r_cm : Nat → Int32) (r_op : Nat → Int32) (r_ki : Nat → Int32) (r_tg : Nat → Int32) (r_fi : Nat → Int32) (r_se : Nat → Int32) (r_oc : Nat → Int32) (r_cp : Nat → Int32) (r_bs : Nat → Int32) (r_rr : Nat → Int32) (r_hr : Nat → Int32) (r_lw : Nat → Int32) (r_lr : Nat → Int32) (r_lt : Nat → Int32) (r_lm : Nat → Int32) (r_tc : Nat → Int32) (r_rc : Nat → Int32) (r_ju : Nat → Int32) (r_jb : Nat → Int32) (r_ch : Nat → Int32) (r_rd : Nat → Int64) (r_fr : Nat → Int64) (r_ub : Nat → Int64) (r_wr : Nat → Int64) : va_W := [kO a_md 6 [.ref a_co, .ref a_ma, .ref a_op, .ref a_pl, .ref a_ju, .int (r_md 5), .int (r_md 6)], kI g a_lat 3 r_lat, kO a_co 1 [.int (r_co 0), .ref a_ta, .ref a_gu, .ref a_so, .ref a_cn, .ref a_de], kI g a_ta 64 r_ta, kI g a_gu 256 r_gu, kI g a_so 256 r_so, kI g a_cn 256 r_cn, kI g a_de 256 r_de, kO a_ma 3 [.ref a_co, .ref a_lat, .ref a_bu, .ref a_wo, .ref a_od, .ref a_rs, .ref a_ca, .ref a_cm, .int (r_ma 8), .int (r_ma 9), .int (r_ma 10), .int (r_ma 11), .int (r_ma 12), .int (r_ma 13), .int (r_ma 14), .int (r_ma 15)], kO a_bu 0 [.int (r_bu 0), .int (r_bu 1), .int (r_bu 2), .int (r_bu 3), .int (r_bu 4), .int (r_bu 5), .int (r_bu 6), .int (r_bu 7)], kI g a_wo 72 r_wo, kI g a_od 3 r_od, kI g a_rs 3 r_rs, kI g a_ca 4 r_ca, kI g a_cm 12 r_cm, kO a_op 4 [.ref a_ki, .ref a_tg, .ref a_fi, .ref a_se, .ref a_oc, .ref a_cp, .int (r_op 6)], kI g a_ki 20 r_ki, kI g a_tg 20 r_tg, kI g a_fi 20 r_fi, kI g a_se 20 r_se, kI g a_oc 20 r_oc, kI g a_cp 72 r_cp, kO a_pl 5 [.ref a_co, .ref a_op, .ref a_lat, .ref a_bs, .ref a_rr, .ref a_hr, .ref a_lw, .ref a_lr, .ref a_lt, .ref a_lm, .ref a_tc, .ref a_rc], kI g a_bs 64 r_bs, kI g a_rr 64 r_rr, kZ g a_hr 64 r_hr, kI g a_lw 8 r_lw, kI g a_lr 8 r_lr, kI g a_lt 3 r_lt, kI g a_lm 3 r_lm, kI g a_tc 20 r_tc, kI g a_rc 20 r_rc, kO a_ju 2 [.ref a_co, .ref a_jb, .ref a_ch, .ref a_rd, .ref a_fr, .ref a_ub, .ref a_wr, .int (r_ju 7), .int (r_ju 8), .int (r_ju 9)], kO a_jb 0 [.int (r_jb 0), .int (r_jb 1), .int (r_jb 2), .int (r_jb 3), .int (r_jb 4), .int (r_jb 5), .int (r_jb 6), .int (r_jb 7)], kI g a_ch 64 r_ch, kJ g a_rd 576 r_rd, kJ g a_fr 576 r_fr, kJ g a_ub 3 r_ub, kJ g a_wr 3 r_wr]
abbrev b_Md_init : ByteArray := prog_1_method_1_code
abbrev y_Md_init : MethodName := ⟨"MoveDesk", "<init>", "(III)V"⟩
theorem hs_Md_init : y_Md_init.cls ≠ "java/lang/invoke/MethodHandle" ∧ y_Md_init.cls ≠ "java/lang/invoke/VarHandle" ∧ (parseMethodDescriptor y_Md_init.desc).map (fun d => d.parameters.length) = some 3 := by decide +kernel
theorem d_Md_init_0 : decode b_Md_init 0 = .ok (.aload_n 0, 1) := by decide +kernel
theorem d_Md_init_1 : decode b_Md_init 1 = .ok (.invokespecial 3, 3) := by decide +kernel
theorem d_Md_init_4 : decode b_Md_init 4 = .ok (.iconst 3, 1) := by decide +kernel
theorem d_Md_init_5 : decode b_Md_init 5 = .ok (.newarray .int, 2) := by decide +kernel
theorem d_Md_init_7 : decode b_Md_init 7 = .ok (.astore 4, 2) := by decide +kernel
theorem d_Md_init_9 : decode b_Md_init 9 = .ok (.aload 4, 2) := by decide +kernel
theorem d_Md_init_11 : decode b_Md_init 11 = .ok (.iconst 0, 1) := by decide +kernel
theorem d_Md_init_12 : decode b_Md_init 12 = .ok (.iconst 1, 1) := by decide +kernel
theorem d_Md_init_13 : decode b_Md_init 13 = .ok (.iastore, 1) := by decide +kernel
theorem d_Md_init_14 : decode b_Md_init 14 = .ok (.aload 4, 2) := by decide +kernel
theorem d_Md_init_16 : decode b_Md_init 16 = .ok (.iconst 1, 1) := by decide +kernel
theorem d_Md_init_17 : decode b_Md_init 17 = .ok (.iconst 1, 1) := by decide +kernel
theorem d_Md_init_18 : decode b_Md_init 18 = .ok (.iconst 4, 1) := by decide +kernel
theorem d_Md_init_19 : decode b_Md_init 19 = .ok (.iload_n 2, 1) := by decide +kernel
theorem d_Md_init_20 : decode b_Md_init 20 = .ok (.invokestatic 9, 3) := by decide +kernel
theorem d_Md_init_23 : decode b_Md_init 23 = .ok (.invokestatic 15, 3) := by decide +kernel
theorem d_Md_init_26 : decode b_Md_init 26 = .ok (.iastore, 1) := by decide +kernel
theorem d_Md_init_27 : decode b_Md_init 27 = .ok (.aload 4, 2) := by decide +kernel
theorem d_Md_init_29 : decode b_Md_init 29 = .ok (.iconst 2, 1) := by decide +kernel
theorem d_Md_init_30 : decode b_Md_init 30 = .ok (.iconst 1, 1) := by decide +kernel
theorem d_Md_init_31 : decode b_Md_init 31 = .ok (.iconst 3, 1) := by decide +kernel
theorem d_Md_init_32 : decode b_Md_init 32 = .ok (.iload_n 3, 1) := by decide +kernel
theorem d_Md_init_33 : decode b_Md_init 33 = .ok (.invokestatic 9, 3) := by decide +kernel
theorem d_Md_init_36 : decode b_Md_init 36 = .ok (.invokestatic 15, 3) := by decide +kernel
theorem d_Md_init_39 : decode b_Md_init 39 = .ok (.iastore, 1) := by decide +kernel
theorem d_Md_init_40 : decode b_Md_init 40 = .ok (.aload_n 0, 1) := by decide +kernel
theorem d_Md_init_41 : decode b_Md_init 41 = .ok (.new 18, 3) := by decide +kernel
theorem d_Md_init_44 : decode b_Md_init 44 = .ok (.dup, 1) := by decide +kernel
theorem d_Md_init_45 : decode b_Md_init 45 = .ok (.iconst 2, 1) := by decide +kernel
theorem d_Md_init_46 : decode b_Md_init 46 = .ok (.iconst 4, 1) := by decide +kernel
theorem d_Md_init_47 : decode b_Md_init 47 = .ok (.iload_n 1, 1) := by decide +kernel
theorem d_Md_init_48 : decode b_Md_init 48 = .ok (.invokestatic 9, 3) := by decide +kernel
theorem d_Md_init_51 : decode b_Md_init 51 = .ok (.invokestatic 15, 3) := by decide +kernel
theorem d_Md_init_54 : decode b_Md_init 54 = .ok (.invokespecial 20, 3) := by decide +kernel
theorem d_Md_init_57 : decode b_Md_init 57 = .ok (.putfield 23, 3) := by decide +kernel
theorem d_Md_init_60 : decode b_Md_init 60 = .ok (.aload_n 0, 1) := by decide +kernel
theorem d_Md_init_61 : decode b_Md_init 61 = .ok (.new 27, 3) := by decide +kernel
theorem d_Md_init_64 : decode b_Md_init 64 = .ok (.dup, 1) := by decide +kernel
theorem d_Md_init_65 : decode b_Md_init 65 = .ok (.aload_n 0, 1) := by decide +kernel
theorem d_Md_init_66 : decode b_Md_init 66 = .ok (.getfield 23, 3) := by decide +kernel
theorem d_Md_init_69 : decode b_Md_init 69 = .ok (.aload 4, 2) := by decide +kernel
theorem d_Md_init_71 : decode b_Md_init 71 = .ok (.invokespecial 29, 3) := by decide +kernel
theorem d_Md_init_74 : decode b_Md_init 74 = .ok (.putfield 32, 3) := by decide +kernel
theorem d_Md_init_77 : decode b_Md_init 77 = .ok (.aload_n 0, 1) := by decide +kernel
theorem d_Md_init_78 : decode b_Md_init 78 = .ok (.new 36, 3) := by decide +kernel
theorem d_Md_init_81 : decode b_Md_init 81 = .ok (.dup, 1) := by decide +kernel
theorem d_Md_init_82 : decode b_Md_init 82 = .ok (.invokespecial 38, 3) := by decide +kernel
theorem d_Md_init_85 : decode b_Md_init 85 = .ok (.putfield 39, 3) := by decide +kernel
theorem d_Md_init_88 : decode b_Md_init 88 = .ok (.aload_n 0, 1) := by decide +kernel
theorem d_Md_init_89 : decode b_Md_init 89 = .ok (.new 43, 3) := by decide +kernel
theorem d_Md_init_92 : decode b_Md_init 92 = .ok (.dup, 1) := by decide +kernel
theorem d_Md_init_93 : decode b_Md_init 93 = .ok (.aload_n 0, 1) := by decide +kernel
theorem d_Md_init_94 : decode b_Md_init 94 = .ok (.getfield 23, 3) := by decide +kernel
theorem d_Md_init_97 : decode b_Md_init 97 = .ok (.aload_n 0, 1) := by decide +kernel
theorem d_Md_init_98 : decode b_Md_init 98 = .ok (.getfield 39, 3) := by decide +kernel
theorem d_Md_init_101 : decode b_Md_init 101 = .ok (.aload 4, 2) := by decide +kernel
theorem d_Md_init_103 : decode b_Md_init 103 = .ok (.invokespecial 45, 3) := by decide +kernel
theorem d_Md_init_106 : decode b_Md_init 106 = .ok (.putfield 48, 3) := by decide +kernel
theorem d_Md_init_109 : decode b_Md_init 109 = .ok (.aload_n 0, 1) := by decide +kernel
theorem d_Md_init_110 : decode b_Md_init 110 = .ok (.new 52, 3) := by decide +kernel
theorem d_Md_init_113 : decode b_Md_init 113 = .ok (.dup, 1) := by decide +kernel
theorem d_Md_init_114 : decode b_Md_init 114 = .ok (.aload_n 0, 1) := by decide +kernel
theorem d_Md_init_115 : decode b_Md_init 115 = .ok (.getfield 23, 3) := by decide +kernel
theorem d_Md_init_118 : decode b_Md_init 118 = .ok (.aload 4, 2) := by decide +kernel
theorem d_Md_init_120 : decode b_Md_init 120 = .ok (.invokespecial 54, 3) := by decide +kernel
theorem d_Md_init_123 : decode b_Md_init 123 = .ok (.putfield 55, 3) := by decide +kernel
theorem d_Md_init_126 : decode b_Md_init 126 = .ok (.aload_n 0, 1) := by decide +kernel
theorem d_Md_init_127 : decode b_Md_init 127 = .ok (.iconst 0, 1) := by decide +kernel
theorem d_Md_init_128 : decode b_Md_init 128 = .ok (.putfield 59, 3) := by decide +kernel
theorem d_Md_init_131 : decode b_Md_init 131 = .ok (.aload_n 0, 1) := by decide +kernel
theorem d_Md_init_132 : decode b_Md_init 132 = .ok (.iconst 0, 1) := by decide +kernel
theorem d_Md_init_133 : decode b_Md_init 133 = .ok (.putfield 63, 3) := by decide +kernel
theorem d_Md_init_136 : decode b_Md_init 136 = .ok (.return_, 1) := by decide +kernel
def f_Ju_init_62 : Nat → (Nat → Int32) → (Nat → Int32) → (Nat → Int32) → (Nat → Int32) → (Nat → Int64) → (Nat → Int64) → (Nat → Int64) → (Nat → Int64) → Int32 → Option ((Nat → Int64) × (Nat → Int64))
  | 0, _, _, _, _, _, _, _, _, _ => none
  | n + 1, r_lat, r_ju, r_jb, r_ch, r_rd, r_fr, r_ub, r_wr, v3 =>
    if (3 : Int32) ≤ v3 then
      some (r_ub, r_wr)
    else
      (f_Ju_agesWhere v3 (0 : Int32)).bind fun y2 =>
      ck v3 3 <|
      ck v3 3 <|
      (f_Ju_agesWhere v3 (r_lat v3.toNatClampNeg)).bind fun y5 =>
      ck v3 3 <|
      nm (v3 + 1) fun x7 =>
      f_Ju_init_62 n r_lat r_ju r_jb r_ch r_rd r_fr (vp_updL r_ub v3.toNatClampNeg y2) (vp_updL r_wr v3.toNatClampNeg y5) x7
def f_Ju_init_60 (r_lat : Nat → Int32) (r_ju : Nat → Int32) (r_jb : Nat → Int32) (r_ch : Nat → Int32) (r_rd : Nat → Int64) (r_fr : Nat → Int64) (r_ub : Nat → Int64) (r_wr : Nat → Int64)  : Option ((Nat → Int64) × (Nat → Int64)) :=
  f_Ju_init_62 5000 r_lat r_ju r_jb r_ch r_rd r_fr r_ub r_wr 0
def f_Ju_init (r_lat : Nat → Int32)  : Option ((Nat → Int64) × (Nat → Int64)) :=
  f_Ju_init_60 r_lat z32 z32 z32 z64 z64 z64 z64
abbrev rm_Bu_init : Room := { frames := 1, cells := 0, slots := 0, locals := 12 }
set_option maxHeartbeats 4000000 in
set_option maxRecDepth 100000 in
theorem c_Bu_init (l : Launch) (g : GT) (a_bu : Nat)   : CtN l y_Bu_init (.code y_Bu_init b_Bu_init 1 none) rm_Bu_init g [.ref a_bu] [kO a_bu 0 [.int 0, .int 0, .int 0, .int 0, .int 0, .int 0, .int 0, .int 0]] (fun q => (w_bu g a_bu z32)) 0 0 := by
  refine ct_inN (C := "MoveDesk$Bundle") rfl (by decide) rfl (Nat.le_of_ble_eq_true rfl) (fun p e s m below meth c A ls M hin hP hD hS hl => ?_)
  obtain ⟨hx, hb, hr, hml, hown, hts, hlocks, hA, hK, hG⟩ := id M
  have hl : lv_has ls 1 [(0, .ref a_bu)] := hl
  refine lv_aload_n hx hb d_Bu_init_0 rfl (lv_at hl 0 rfl) ?_
  refine W.objInit hx hb hown (hts _ m_71) (hts _ m_25) (hts _ m_26) rfl (hl.1.trans hml.symm) rfl d_Bu_init_1 (by decide) (Nat.le_of_ble_eq_true rfl) ?_
  refine W.eq (g2 := F0 m 4 ls []) rfl ?_
  have hP9 := P_map (ws' := (w_bu g a_bu z32)) hP [0] rfl
  have hD9 := hD.sub (ws' := (w_bu g a_bu z32)) [0] rfl rfl
  exact W.vret hx hb hr (fun t ht hW => ⟨⟨rfl, (fun i => ([] : List Nat).getD i 0), by rw [ht]; exact hP9, va_K.moved hW.alike hK, hD9⟩, hS.F ht⟩) hS.2.2 d_Bu_init_4 hlocks
abbrev rm_Co_init : Room := { frames := 1, cells := 5, slots := 1088, locals := 12 }
set_option maxHeartbeats 4000000 in
set_option maxRecDepth 100000 in
theorem c_Co_init (l : Launch) (g : GT) (a_co : Nat)  (v1 : Int32) : CtN l y_Co_init (.code y_Co_init b_Co_init 2 none) rm_Co_init g [.ref a_co, .int v1] [kO a_co 1 [.int 0, .null, .null, .null, .null, .null]] (fun q => (w_co_ta_gu_so_cn_de g a_co (q 0) (q 1) (q 2) (q 3) (q 4) (upd z32 0 v1) z32 z32 z32 z32 z32)) 5 1088 := by
  refine ct_inN (C := "MoveDesk$Code") rfl (by decide) rfl (Nat.le_of_ble_eq_true rfl) (fun p e s m below meth c A ls M hin hP hD hS hl => ?_)
  obtain ⟨hx, hb, hr, hml, hown, hts, hlocks, hA, hK, hG⟩ := id M
  have hl : lv_has ls 2 [(0, .ref a_co), (1, .int v1)] := hl
  refine lv_aload_n hx hb d_Co_init_0 rfl (lv_at hl 0 rfl) ?_
  refine W.objInit hx hb hown (hts _ m_38) (hts _ m_25) (hts _ m_26) rfl (hl.1.trans hml.symm) rfl d_Co_init_1 (by decide) (Nat.le_of_ble_eq_true rfl) ?_
  refine W.eq (g2 := F0 m 4 ls []) rfl ?_
  refine lv_aload_n hx hb d_Co_init_4 rfl (lv_at hl 0 rfl) ?_
  refine lv_bipush (v := 64) hx hb d_Co_init_5 (by decide) ?_
  refine k_newI (N := 64) M hP hD hS m_59 (by decide) (by decide) (by decide) (Nat.le_of_ble_eq_true rfl) (Nat.le_of_ble_eq_true rfl) d_Co_init_7 (fun a_ta H hP hD hS => ?_)
  have hP : va_P g.1 classes [kO a_co 1 [.int 0, .null, .null, .null, .null, .null], kI g a_ta 64 z32] H := hP
  have hD : va_D A [kO a_co 1 [.int 0, .null, .null, .null, .null, .null], kI g a_ta 64 z32] := hD
  refine W.widen (k := 1) (n := 64) (by decide) (by decide) ?_
  refine va_putF (D := g.1) (ci := 1) (v := .ref a_ta) (ty := .array .int) (C := "MoveDesk$Code") (T := F_Co) (N := 6) hx hb hts i_Co t_Co t_Co_ok n_Co hown hK hP hD hS 0 rfl rfl 1 (by decide) (hts _ m_41) (fun _ h9 => h9) rfl hin rfl (by decide +kernel) rfl rfl (Nat.le_of_ble_eq_true rfl) d_Co_init_9 (fun H locs hP hD hS => ?_)
  have hP : va_P g.1 classes [kO a_co 1 [.int 0, .ref a_ta, .null, .null, .null, .null], kI g a_ta 64 z32] H := hP
  have hD : va_D A [kO a_co 1 [.int 0, .ref a_ta, .null, .null, .null, .null], kI g a_ta 64 z32] := hD
  refine lv_aload_n hx hb d_Co_init_12 rfl (lv_at hl 0 rfl) ?_
  refine lv_sipush (v := 256) hx hb d_Co_init_13 (by decide) ?_
  refine k_newI (N := 256) M hP hD hS m_59 (by decide) (by decide) (by decide) (Nat.le_of_ble_eq_true rfl) (Nat.le_of_ble_eq_true rfl) d_Co_init_16 (fun a_gu H hP hD hS => ?_)
  have hP : va_P g.1 classes [kO a_co 1 [.int 0, .ref a_ta, .null, .null, .null, .null], kI g a_ta 64 z32, kI g a_gu 256 z32] H := hP
  have hD : va_D A [kO a_co 1 [.int 0, .ref a_ta, .null, .null, .null, .null], kI g a_ta 64 z32, kI g a_gu 256 z32] := hD
  refine W.widen (k := 2) (n := 320) (by decide) (by decide) ?_
  refine va_putF (D := g.1) (ci := 1) (v := .ref a_gu) (ty := .array .int) (C := "MoveDesk$Code") (T := F_Co) (N := 6) hx hb hts i_Co t_Co t_Co_ok n_Co hown hK hP hD hS 0 rfl rfl 2 (by decide) (hts _ m_42) (fun _ h9 => h9) rfl hin rfl (by decide +kernel) rfl rfl (Nat.le_of_ble_eq_true rfl) d_Co_init_18 (fun H locs hP hD hS => ?_)
  have hP : va_P g.1 classes [kO a_co 1 [.int 0, .ref a_ta, .ref a_gu, .null, .null, .null], kI g a_ta 64 z32, kI g a_gu 256 z32] H := hP
  have hD : va_D A [kO a_co 1 [.int 0, .ref a_ta, .ref a_gu, .null, .null, .null], kI g a_ta 64 z32, kI g a_gu 256 z32] := hD
  refine lv_aload_n hx hb d_Co_init_21 rfl (lv_at hl 0 rfl) ?_
  refine lv_sipush (v := 256) hx hb d_Co_init_22 (by decide) ?_
  refine k_newI (N := 256) M hP hD hS m_59 (by decide) (by decide) (by decide) (Nat.le_of_ble_eq_true rfl) (Nat.le_of_ble_eq_true rfl) d_Co_init_25 (fun a_so H hP hD hS => ?_)
  have hP : va_P g.1 classes [kO a_co 1 [.int 0, .ref a_ta, .ref a_gu, .null, .null, .null], kI g a_ta 64 z32, kI g a_gu 256 z32, kI g a_so 256 z32] H := hP
  have hD : va_D A [kO a_co 1 [.int 0, .ref a_ta, .ref a_gu, .null, .null, .null], kI g a_ta 64 z32, kI g a_gu 256 z32, kI g a_so 256 z32] := hD
  refine W.widen (k := 3) (n := 576) (by decide) (by decide) ?_
  refine va_putF (D := g.1) (ci := 1) (v := .ref a_so) (ty := .array .int) (C := "MoveDesk$Code") (T := F_Co) (N := 6) hx hb hts i_Co t_Co t_Co_ok n_Co hown hK hP hD hS 0 rfl rfl 3 (by decide) (hts _ m_43) (fun _ h9 => h9) rfl hin rfl (by decide +kernel) rfl rfl (Nat.le_of_ble_eq_true rfl) d_Co_init_27 (fun H locs hP hD hS => ?_)
  have hP : va_P g.1 classes [kO a_co 1 [.int 0, .ref a_ta, .ref a_gu, .ref a_so, .null, .null], kI g a_ta 64 z32, kI g a_gu 256 z32, kI g a_so 256 z32] H := hP
  have hD : va_D A [kO a_co 1 [.int 0, .ref a_ta, .ref a_gu, .ref a_so, .null, .null], kI g a_ta 64 z32, kI g a_gu 256 z32, kI g a_so 256 z32] := hD
  refine lv_aload_n hx hb d_Co_init_30 rfl (lv_at hl 0 rfl) ?_
  refine lv_sipush (v := 256) hx hb d_Co_init_31 (by decide) ?_
  refine k_newI (N := 256) M hP hD hS m_59 (by decide) (by decide) (by decide) (Nat.le_of_ble_eq_true rfl) (Nat.le_of_ble_eq_true rfl) d_Co_init_34 (fun a_cn H hP hD hS => ?_)
  have hP : va_P g.1 classes [kO a_co 1 [.int 0, .ref a_ta, .ref a_gu, .ref a_so, .null, .null], kI g a_ta 64 z32, kI g a_gu 256 z32, kI g a_so 256 z32, kI g a_cn 256 z32] H := hP
  have hD : va_D A [kO a_co 1 [.int 0, .ref a_ta, .ref a_gu, .ref a_so, .null, .null], kI g a_ta 64 z32, kI g a_gu 256 z32, kI g a_so 256 z32, kI g a_cn 256 z32] := hD
  refine W.widen (k := 4) (n := 832) (by decide) (by decide) ?_
  refine va_putF (D := g.1) (ci := 1) (v := .ref a_cn) (ty := .array .int) (C := "MoveDesk$Code") (T := F_Co) (N := 6) hx hb hts i_Co t_Co t_Co_ok n_Co hown hK hP hD hS 0 rfl rfl 4 (by decide) (hts _ m_44) (fun _ h9 => h9) rfl hin rfl (by decide +kernel) rfl rfl (Nat.le_of_ble_eq_true rfl) d_Co_init_36 (fun H locs hP hD hS => ?_)
  have hP : va_P g.1 classes [kO a_co 1 [.int 0, .ref a_ta, .ref a_gu, .ref a_so, .ref a_cn, .null], kI g a_ta 64 z32, kI g a_gu 256 z32, kI g a_so 256 z32, kI g a_cn 256 z32] H := hP
  have hD : va_D A [kO a_co 1 [.int 0, .ref a_ta, .ref a_gu, .ref a_so, .ref a_cn, .null], kI g a_ta 64 z32, kI g a_gu 256 z32, kI g a_so 256 z32, kI g a_cn 256 z32] := hD
  refine lv_aload_n hx hb d_Co_init_39 rfl (lv_at hl 0 rfl) ?_
  refine lv_sipush (v := 256) hx hb d_Co_init_40 (by decide) ?_
  refine k_newI (N := 256) M hP hD hS m_59 (by decide) (by decide) (by decide) (Nat.le_of_ble_eq_true rfl) (Nat.le_of_ble_eq_true rfl) d_Co_init_43 (fun a_de H hP hD hS => ?_)
  have hP : va_P g.1 classes [kO a_co 1 [.int 0, .ref a_ta, .ref a_gu, .ref a_so, .ref a_cn, .null], kI g a_ta 64 z32, kI g a_gu 256 z32, kI g a_so 256 z32, kI g a_cn 256 z32, kI g a_de 256 z32] H := hP
  have hD : va_D A [kO a_co 1 [.int 0, .ref a_ta, .ref a_gu, .ref a_so, .ref a_cn, .null], kI g a_ta 64 z32, kI g a_gu 256 z32, kI g a_so 256 z32, kI g a_cn 256 z32, kI g a_de 256 z32] := hD
  refine W.widen (k := 5) (n := 1088) (by decide) (by decide) ?_
  refine va_putF (D := g.1) (ci := 1) (v := .ref a_de) (ty := .array .int) (C := "MoveDesk$Code") (T := F_Co) (N := 6) hx hb hts i_Co t_Co t_Co_ok n_Co hown hK hP hD hS 0 rfl rfl 5 (by decide) (hts _ m_45) (fun _ h9 => h9) rfl hin rfl (by decide +kernel) rfl rfl (Nat.le_of_ble_eq_true rfl) d_Co_init_45 (fun H locs hP hD hS => ?_)
  have hP : va_P g.1 classes [kO a_co 1 [.int 0, .ref a_ta, .ref a_gu, .ref a_so, .ref a_cn, .ref a_de], kI g a_ta 64 z32, kI g a_gu 256 z32, kI g a_so 256 z32, kI g a_cn 256 z32, kI g a_de 256 z32] H := hP
  have hD : va_D A [kO a_co 1 [.int 0, .ref a_ta, .ref a_gu, .ref a_so, .ref a_cn, .ref a_de], kI g a_ta 64 z32, kI g a_gu 256 z32, kI g a_so 256 z32, kI g a_cn 256 z32, kI g a_de 256 z32] := hD
  refine lv_aload_n hx hb d_Co_init_48 rfl (lv_at hl 0 rfl) ?_
  refine lv_iload_n hx hb d_Co_init_49 rfl (lv_at hl 1 rfl) ?_
  refine va_putF (D := g.1) (ci := 1) (v := .int v1) (ty := .int) (C := "MoveDesk$Code") (T := F_Co) (N := 6) hx hb hts i_Co t_Co t_Co_ok n_Co hown hK hP hD hS 0 rfl rfl 0 (by decide) (hts _ m_39) (fun _ h9 => h9) rfl hin rfl (by decide +kernel) rfl rfl (Nat.le_of_ble_eq_true rfl) d_Co_init_50 (fun H locs hP hD hS => ?_)
  have hP : va_P g.1 classes [kO a_co 1 [.int v1, .ref a_ta, .ref a_gu, .ref a_so, .ref a_cn, .ref a_de], kI g a_ta 64 z32, kI g a_gu 256 z32, kI g a_so 256 z32, kI g a_cn 256 z32, kI g a_de 256 z32] H := hP
  have hD : va_D A [kO a_co 1 [.int v1, .ref a_ta, .ref a_gu, .ref a_so, .ref a_cn, .ref a_de], kI g a_ta 64 z32, kI g a_gu 256 z32, kI g a_so 256 z32, kI g a_cn 256 z32, kI g a_de 256 z32] := hD
  have hP9 := P_map (ws' := (w_co_ta_gu_so_cn_de g a_co a_ta a_gu a_so a_cn a_de (upd z32 0 v1) z32 z32 z32 z32 z32)) hP [0, 1, 2, 3, 4, 5] rfl
  have hD9 := hD.sub (ws' := (w_co_ta_gu_so_cn_de g a_co a_ta a_gu a_so a_cn a_de (upd z32 0 v1) z32 z32 z32 z32 z32)) [0, 1, 2, 3, 4, 5] rfl rfl
  exact W.vret hx hb hr (fun t ht hW => ⟨⟨rfl, (fun i => ([a_ta, a_gu, a_so, a_cn, a_de] : List Nat).getD i 0), by rw [ht]; exact hP9, va_K.moved hW.alike hK, hD9⟩, hS.F ht⟩) hS.2.2 d_Co_init_53 hlocks
abbrev rm_Ma_init : Room := { frames := 2, cells := 6, slots := 102, locals := 32 }
set_option maxHeartbeats 4000000 in
set_option maxRecDepth 100000 in
theorem c_Ma_init (l : Launch) (g : GT) (a_ma : Nat) (a_co : Nat) (a_lat : Nat)   : CtN l y_Ma_init (.code y_Ma_init b_Ma_init 3 none) rm_Ma_init g [.ref a_ma, .ref a_co, .ref a_lat] [kO a_ma 3 [.null, .null, .null, .null, .null, .null, .null, .null, .int 0, .int 0, .int 0, .int 0, .int 0, .int 0, .int 0, .int 0]] (fun q => (w_ma_7_6ff0 g a_lat a_co a_ma (q 0) (q 1) (q 2) (q 3) (q 4) (q 5) z32 z32 z32 z32 z32 z32 z32)) 6 102 := by
  refine ct_inN (C := "MoveDesk$Machine") rfl (by decide) rfl (Nat.le_of_ble_eq_true rfl) (fun p e s m below meth c A ls M hin hP hD hS hl => ?_)
  obtain ⟨hx, hb, hr, hml, hown, hts, hlocks, hA, hK, hG⟩ := id M
  have hl : lv_has ls 3 [(0, .ref a_ma), (1, .ref a_co), (2, .ref a_lat)] := hl
  refine lv_aload_n hx hb d_Ma_init_0 rfl (lv_at hl 0 rfl) ?_
  refine W.objInit hx hb hown (hts _ m_65) (hts _ m_25) (hts _ m_26) rfl (hl.1.trans hml.symm) rfl d_Ma_init_1 (by decide) (Nat.le_of_ble_eq_true rfl) ?_
  refine W.eq (g2 := F0 m 4 ls []) rfl ?_
  refine lv_aload_n hx hb d_Ma_init_4 rfl (lv_at hl 0 rfl) ?_
  refine va_new (ci := 0) (fs := [.int 0, .int 0, .int 0, .int 0, .int 0, .int 0, .int 0, .int 0]) (C := "MoveDesk$Bundle") (T := F_Bu) (N := 8) hx hb hts i_Bu t_Bu t_Bu_ok hown (hts _ m_66) (hts _ m_67) (hts _ m_5) hK hP hD hS hA rfl (fun j hj => by rcases (show j = 0 ∨ j = 1 ∨ j = 2 ∨ j = 3 ∨ j = 4 ∨ j = 5 ∨ j = 6 ∨ j = 7 by omega) with rfl | rfl | rfl | rfl | rfl | rfl | rfl | rfl <;> rfl) (Nat.le_of_ble_eq_true rfl) (Nat.le_of_ble_eq_true rfl) d_Ma_init_5 (fun a_bu H hP hD hS => ?_)
  have hP : va_P g.1 classes [kO a_ma 3 [.null, .null, .null, .null, .null, .null, .null, .null, .int 0, .int 0, .int 0, .int 0, .int 0, .int 0, .int 0, .int 0], kO a_bu 0 [.int 0, .int 0, .int 0, .int 0, .int 0, .int 0, .int 0, .int 0]] H := hP
  have hD : va_D A [kO a_ma 3 [.null, .null, .null, .null, .null, .null, .null, .null, .int 0, .int 0, .int 0, .int 0, .int 0, .int 0, .int 0, .int 0], kO a_bu 0 [.int 0, .int 0, .int 0, .int 0, .int 0, .int 0, .int 0, .int 0]] := hD
  refine W.widen (k := 1) (n := 8) (by decide) (by decide) ?_
  refine lv_dup hx hb d_Ma_init_8 rfl ?_
  refine kIN (index := 11) (As := []) (rest := [.ref a_bu, .ref a_ma]) M hP hD hS hl.1 (c_Bu_init l g a_bu  ) nw_68 m_69 m_5 m_70 rfl hs_Bu_init rfl rfl rfl ⟨by decide, by decide⟩ ⟨Nat.le_of_ble_eq_true rfl, Nat.le_of_ble_eq_true rfl⟩ [1] [0] rfl rfl rfl rfl (by decide) rfl (Nat.le_of_ble_eq_true rfl) d_Ma_init_9 (fun q9 H locs hP hD hS => ?_)
  have hP : va_P g.1 classes [kO a_ma 3 [.null, .null, .null, .null, .null, .null, .null, .null, .int 0, .int 0, .int 0, .int 0, .int 0, .int 0, .int 0, .int 0], kO a_bu 0 [.int (z32 0), .int (z32 1), .int (z32 2), .int (z32 3), .int (z32 4), .int (z32 5), .int (z32 6), .int (z32 7)]] H := hP
  have hD : va_D A [kO a_ma 3 [.null, .null, .null, .null, .null, .null, .null, .null, .int 0, .int 0, .int 0, .int 0, .int 0, .int 0, .int 0, .int 0], kO a_bu 0 [.int (z32 0), .int (z32 1), .int (z32 2), .int (z32 3), .int (z32 4), .int (z32 5), .int (z32 6), .int (z32 7)]] := hD
  refine W.widen (k := 1) (n := 8) (by decide) (by decide) ?_
  refine W.eq (g2 := F0 m 12 ls [.ref a_bu, .ref a_ma]) rfl ?_
  refine va_putF (D := g.1) (ci := 3) (v := .ref a_bu) (ty := .object "MoveDesk$Bundle") (C := "MoveDesk$Machine") (T := F_Ma) (N := 16) hx hb hts i_Ma t_Ma t_Ma_ok n_Ma hown hK hP hD hS 0 rfl rfl 2 (by decide) (hts _ m_104) (fun _ h9 => h9) rfl hin rfl (by decide +kernel) rfl rfl (Nat.le_of_ble_eq_true rfl) d_Ma_init_12 (fun H locs hP hD hS => ?_)
  have hP : va_P g.1 classes [kO a_ma 3 [.null, .null, .ref a_bu, .null, .null, .null, .null, .null, .int 0, .int 0, .int 0, .int 0, .int 0, .int 0, .int 0, .int 0], kO a_bu 0 [.int (z32 0), .int (z32 1), .int (z32 2), .int (z32 3), .int (z32 4), .int (z32 5), .int (z32 6), .int (z32 7)]] H := hP
  have hD : va_D A [kO a_ma 3 [.null, .null, .ref a_bu, .null, .null, .null, .null, .null, .int 0, .int 0, .int 0, .int 0, .int 0, .int 0, .int 0, .int 0], kO a_bu 0 [.int (z32 0), .int (z32 1), .int (z32 2), .int (z32 3), .int (z32 4), .int (z32 5), .int (z32 6), .int (z32 7)]] := hD
  refine lv_aload_n hx hb d_Ma_init_15 rfl (lv_at hl 0 rfl) ?_
  refine lv_bipush (v := 72) hx hb d_Ma_init_16 (by decide) ?_
  refine k_newI (N := 72) M hP hD hS m_59 (by decide) (by decide) (by decide) (Nat.le_of_ble_eq_true rfl) (Nat.le_of_ble_eq_true rfl) d_Ma_init_18 (fun a_wo H hP hD hS => ?_)
  have hP : va_P g.1 classes [kO a_ma 3 [.null, .null, .ref a_bu, .null, .null, .null, .null, .null, .int 0, .int 0, .int 0, .int 0, .int 0, .int 0, .int 0, .int 0], kO a_bu 0 [.int (z32 0), .int (z32 1), .int (z32 2), .int (z32 3), .int (z32 4), .int (z32 5), .int (z32 6), .int (z32 7)], kI g a_wo 72 z32] H := hP
  have hD : va_D A [kO a_ma 3 [.null, .null, .ref a_bu, .null, .null, .null, .null, .null, .int 0, .int 0, .int 0, .int 0, .int 0, .int 0, .int 0, .int 0], kO a_bu 0 [.int (z32 0), .int (z32 1), .int (z32 2), .int (z32 3), .int (z32 4), .int (z32 5), .int (z32 6), .int (z32 7)], kI g a_wo 72 z32] := hD
  refine W.widen (k := 2) (n := 80) (by decide) (by decide) ?_
  refine va_putF (D := g.1) (ci := 3) (v := .ref a_wo) (ty := .array .int) (C := "MoveDesk$Machine") (T := F_Ma) (N := 16) hx hb hts i_Ma t_Ma t_Ma_ok n_Ma hown hK hP hD hS 0 rfl rfl 3 (by decide) (hts _ m_105) (fun _ h9 => h9) rfl hin rfl (by decide +kernel) rfl rfl (Nat.le_of_ble_eq_true rfl) d_Ma_init_20 (fun H locs hP hD hS => ?_)
  have hP : va_P g.1 classes [kO a_ma 3 [.null, .null, .ref a_bu, .ref a_wo, .null, .null, .null, .null, .int 0, .int 0, .int 0, .int 0, .int 0, .int 0, .int 0, .int 0], kO a_bu 0 [.int (z32 0), .int (z32 1), .int (z32 2), .int (z32 3), .int (z32 4), .int (z32 5), .int (z32 6), .int (z32 7)], kI g a_wo 72 z32] H := hP
  have hD : va_D A [kO a_ma 3 [.null, .null, .ref a_bu, .ref a_wo, .null, .null, .null, .null, .int 0, .int 0, .int 0, .int 0, .int 0, .int 0, .int 0, .int 0], kO a_bu 0 [.int (z32 0), .int (z32 1), .int (z32 2), .int (z32 3), .int (z32 4), .int (z32 5), .int (z32 6), .int (z32 7)], kI g a_wo 72 z32] := hD
  refine lv_aload_n hx hb d_Ma_init_23 rfl (lv_at hl 0 rfl) ?_
  refine lv_iconst (v := 3) hx hb d_Ma_init_24 (by decide) ?_
  refine k_newI (N := 3) M hP hD hS m_59 (by decide) (by decide) (by decide) (Nat.le_of_ble_eq_true rfl) (Nat.le_of_ble_eq_true rfl) d_Ma_init_25 (fun a_od H hP hD hS => ?_)
  have hP : va_P g.1 classes [kO a_ma 3 [.null, .null, .ref a_bu, .ref a_wo, .null, .null, .null, .null, .int 0, .int 0, .int 0, .int 0, .int 0, .int 0, .int 0, .int 0], kO a_bu 0 [.int (z32 0), .int (z32 1), .int (z32 2), .int (z32 3), .int (z32 4), .int (z32 5), .int (z32 6), .int (z32 7)], kI g a_wo 72 z32, kI g a_od 3 z32] H := hP
  have hD : va_D A [kO a_ma 3 [.null, .null, .ref a_bu, .ref a_wo, .null, .null, .null, .null, .int 0, .int 0, .int 0, .int 0, .int 0, .int 0, .int 0, .int 0], kO a_bu 0 [.int (z32 0), .int (z32 1), .int (z32 2), .int (z32 3), .int (z32 4), .int (z32 5), .int (z32 6), .int (z32 7)], kI g a_wo 72 z32, kI g a_od 3 z32] := hD
  refine W.widen (k := 3) (n := 83) (by decide) (by decide) ?_
  refine va_putF (D := g.1) (ci := 3) (v := .ref a_od) (ty := .array .int) (C := "MoveDesk$Machine") (T := F_Ma) (N := 16) hx hb hts i_Ma t_Ma t_Ma_ok n_Ma hown hK hP hD hS 0 rfl rfl 4 (by decide) (hts _ m_107) (fun _ h9 => h9) rfl hin rfl (by decide +kernel) rfl rfl (Nat.le_of_ble_eq_true rfl) d_Ma_init_27 (fun H locs hP hD hS => ?_)
  have hP : va_P g.1 classes [kO a_ma 3 [.null, .null, .ref a_bu, .ref a_wo, .ref a_od, .null, .null, .null, .int 0, .int 0, .int 0, .int 0, .int 0, .int 0, .int 0, .int 0], kO a_bu 0 [.int (z32 0), .int (z32 1), .int (z32 2), .int (z32 3), .int (z32 4), .int (z32 5), .int (z32 6), .int (z32 7)], kI g a_wo 72 z32, kI g a_od 3 z32] H := hP
  have hD : va_D A [kO a_ma 3 [.null, .null, .ref a_bu, .ref a_wo, .ref a_od, .null, .null, .null, .int 0, .int 0, .int 0, .int 0, .int 0, .int 0, .int 0, .int 0], kO a_bu 0 [.int (z32 0), .int (z32 1), .int (z32 2), .int (z32 3), .int (z32 4), .int (z32 5), .int (z32 6), .int (z32 7)], kI g a_wo 72 z32, kI g a_od 3 z32] := hD
  refine lv_aload_n hx hb d_Ma_init_30 rfl (lv_at hl 0 rfl) ?_
  refine lv_iconst (v := 3) hx hb d_Ma_init_31 (by decide) ?_
  refine k_newI (N := 3) M hP hD hS m_59 (by decide) (by decide) (by decide) (Nat.le_of_ble_eq_true rfl) (Nat.le_of_ble_eq_true rfl) d_Ma_init_32 (fun a_rs H hP hD hS => ?_)
  have hP : va_P g.1 classes [kO a_ma 3 [.null, .null, .ref a_bu, .ref a_wo, .ref a_od, .null, .null, .null, .int 0, .int 0, .int 0, .int 0, .int 0, .int 0, .int 0, .int 0], kO a_bu 0 [.int (z32 0), .int (z32 1), .int (z32 2), .int (z32 3), .int (z32 4), .int (z32 5), .int (z32 6), .int (z32 7)], kI g a_wo 72 z32, kI g a_od 3 z32, kI g a_rs 3 z32] H := hP
  have hD : va_D A [kO a_ma 3 [.null, .null, .ref a_bu, .ref a_wo, .ref a_od, .null, .null, .null, .int 0, .int 0, .int 0, .int 0, .int 0, .int 0, .int 0, .int 0], kO a_bu 0 [.int (z32 0), .int (z32 1), .int (z32 2), .int (z32 3), .int (z32 4), .int (z32 5), .int (z32 6), .int (z32 7)], kI g a_wo 72 z32, kI g a_od 3 z32, kI g a_rs 3 z32] := hD
  refine W.widen (k := 4) (n := 86) (by decide) (by decide) ?_
  refine va_putF (D := g.1) (ci := 3) (v := .ref a_rs) (ty := .array .int) (C := "MoveDesk$Machine") (T := F_Ma) (N := 16) hx hb hts i_Ma t_Ma t_Ma_ok n_Ma hown hK hP hD hS 0 rfl rfl 5 (by decide) (hts _ m_108) (fun _ h9 => h9) rfl hin rfl (by decide +kernel) rfl rfl (Nat.le_of_ble_eq_true rfl) d_Ma_init_34 (fun H locs hP hD hS => ?_)
  have hP : va_P g.1 classes [kO a_ma 3 [.null, .null, .ref a_bu, .ref a_wo, .ref a_od, .ref a_rs, .null, .null, .int 0, .int 0, .int 0, .int 0, .int 0, .int 0, .int 0, .int 0], kO a_bu 0 [.int (z32 0), .int (z32 1), .int (z32 2), .int (z32 3), .int (z32 4), .int (z32 5), .int (z32 6), .int (z32 7)], kI g a_wo 72 z32, kI g a_od 3 z32, kI g a_rs 3 z32] H := hP
  have hD : va_D A [kO a_ma 3 [.null, .null, .ref a_bu, .ref a_wo, .ref a_od, .ref a_rs, .null, .null, .int 0, .int 0, .int 0, .int 0, .int 0, .int 0, .int 0, .int 0], kO a_bu 0 [.int (z32 0), .int (z32 1), .int (z32 2), .int (z32 3), .int (z32 4), .int (z32 5), .int (z32 6), .int (z32 7)], kI g a_wo 72 z32, kI g a_od 3 z32, kI g a_rs 3 z32] := hD
  refine lv_aload_n hx hb d_Ma_init_37 rfl (lv_at hl 0 rfl) ?_
  refine lv_iconst (v := 4) hx hb d_Ma_init_38 (by decide) ?_
  refine k_newI (N := 4) M hP hD hS m_59 (by decide) (by decide) (by decide) (Nat.le_of_ble_eq_true rfl) (Nat.le_of_ble_eq_true rfl) d_Ma_init_39 (fun a_ca H hP hD hS => ?_)
  have hP : va_P g.1 classes [kO a_ma 3 [.null, .null, .ref a_bu, .ref a_wo, .ref a_od, .ref a_rs, .null, .null, .int 0, .int 0, .int 0, .int 0, .int 0, .int 0, .int 0, .int 0], kO a_bu 0 [.int (z32 0), .int (z32 1), .int (z32 2), .int (z32 3), .int (z32 4), .int (z32 5), .int (z32 6), .int (z32 7)], kI g a_wo 72 z32, kI g a_od 3 z32, kI g a_rs 3 z32, kI g a_ca 4 z32] H := hP
  have hD : va_D A [kO a_ma 3 [.null, .null, .ref a_bu, .ref a_wo, .ref a_od, .ref a_rs, .null, .null, .int 0, .int 0, .int 0, .int 0, .int 0, .int 0, .int 0, .int 0], kO a_bu 0 [.int (z32 0), .int (z32 1), .int (z32 2), .int (z32 3), .int (z32 4), .int (z32 5), .int (z32 6), .int (z32 7)], kI g a_wo 72 z32, kI g a_od 3 z32, kI g a_rs 3 z32, kI g a_ca 4 z32] := hD
  refine W.widen (k := 5) (n := 90) (by decide) (by decide) ?_
  refine va_putF (D := g.1) (ci := 3) (v := .ref a_ca) (ty := .array .int) (C := "MoveDesk$Machine") (T := F_Ma) (N := 16) hx hb hts i_Ma t_Ma t_Ma_ok n_Ma hown hK hP hD hS 0 rfl rfl 6 (by decide) (hts _ m_109) (fun _ h9 => h9) rfl hin rfl (by decide +kernel) rfl rfl (Nat.le_of_ble_eq_true rfl) d_Ma_init_41 (fun H locs hP hD hS => ?_)
  have hP : va_P g.1 classes [kO a_ma 3 [.null, .null, .ref a_bu, .ref a_wo, .ref a_od, .ref a_rs, .ref a_ca, .null, .int 0, .int 0, .int 0, .int 0, .int 0, .int 0, .int 0, .int 0], kO a_bu 0 [.int (z32 0), .int (z32 1), .int (z32 2), .int (z32 3), .int (z32 4), .int (z32 5), .int (z32 6), .int (z32 7)], kI g a_wo 72 z32, kI g a_od 3 z32, kI g a_rs 3 z32, kI g a_ca 4 z32] H := hP
  have hD : va_D A [kO a_ma 3 [.null, .null, .ref a_bu, .ref a_wo, .ref a_od, .ref a_rs, .ref a_ca, .null, .int 0, .int 0, .int 0, .int 0, .int 0, .int 0, .int 0, .int 0], kO a_bu 0 [.int (z32 0), .int (z32 1), .int (z32 2), .int (z32 3), .int (z32 4), .int (z32 5), .int (z32 6), .int (z32 7)], kI g a_wo 72 z32, kI g a_od 3 z32, kI g a_rs 3 z32, kI g a_ca 4 z32] := hD
  refine lv_aload_n hx hb d_Ma_init_44 rfl (lv_at hl 0 rfl) ?_
  refine lv_bipush (v := 12) hx hb d_Ma_init_45 (by decide) ?_
  refine k_newI (N := 12) M hP hD hS m_59 (by decide) (by decide) (by decide) (Nat.le_of_ble_eq_true rfl) (Nat.le_of_ble_eq_true rfl) d_Ma_init_47 (fun a_cm H hP hD hS => ?_)
  have hP : va_P g.1 classes [kO a_ma 3 [.null, .null, .ref a_bu, .ref a_wo, .ref a_od, .ref a_rs, .ref a_ca, .null, .int 0, .int 0, .int 0, .int 0, .int 0, .int 0, .int 0, .int 0], kO a_bu 0 [.int (z32 0), .int (z32 1), .int (z32 2), .int (z32 3), .int (z32 4), .int (z32 5), .int (z32 6), .int (z32 7)], kI g a_wo 72 z32, kI g a_od 3 z32, kI g a_rs 3 z32, kI g a_ca 4 z32, kI g a_cm 12 z32] H := hP
  have hD : va_D A [kO a_ma 3 [.null, .null, .ref a_bu, .ref a_wo, .ref a_od, .ref a_rs, .ref a_ca, .null, .int 0, .int 0, .int 0, .int 0, .int 0, .int 0, .int 0, .int 0], kO a_bu 0 [.int (z32 0), .int (z32 1), .int (z32 2), .int (z32 3), .int (z32 4), .int (z32 5), .int (z32 6), .int (z32 7)], kI g a_wo 72 z32, kI g a_od 3 z32, kI g a_rs 3 z32, kI g a_ca 4 z32, kI g a_cm 12 z32] := hD
  refine W.widen (k := 6) (n := 102) (by decide) (by decide) ?_
  refine va_putF (D := g.1) (ci := 3) (v := .ref a_cm) (ty := .array .int) (C := "MoveDesk$Machine") (T := F_Ma) (N := 16) hx hb hts i_Ma t_Ma t_Ma_ok n_Ma hown hK hP hD hS 0 rfl rfl 7 (by decide) (hts _ m_110) (fun _ h9 => h9) rfl hin rfl (by decide +kernel) rfl rfl (Nat.le_of_ble_eq_true rfl) d_Ma_init_49 (fun H locs hP hD hS => ?_)
  have hP : va_P g.1 classes [kO a_ma 3 [.null, .null, .ref a_bu, .ref a_wo, .ref a_od, .ref a_rs, .ref a_ca, .ref a_cm, .int 0, .int 0, .int 0, .int 0, .int 0, .int 0, .int 0, .int 0], kO a_bu 0 [.int (z32 0), .int (z32 1), .int (z32 2), .int (z32 3), .int (z32 4), .int (z32 5), .int (z32 6), .int (z32 7)], kI g a_wo 72 z32, kI g a_od 3 z32, kI g a_rs 3 z32, kI g a_ca 4 z32, kI g a_cm 12 z32] H := hP
  have hD : va_D A [kO a_ma 3 [.null, .null, .ref a_bu, .ref a_wo, .ref a_od, .ref a_rs, .ref a_ca, .ref a_cm, .int 0, .int 0, .int 0, .int 0, .int 0, .int 0, .int 0, .int 0], kO a_bu 0 [.int (z32 0), .int (z32 1), .int (z32 2), .int (z32 3), .int (z32 4), .int (z32 5), .int (z32 6), .int (z32 7)], kI g a_wo 72 z32, kI g a_od 3 z32, kI g a_rs 3 z32, kI g a_ca 4 z32, kI g a_cm 12 z32] := hD
  refine lv_aload_n hx hb d_Ma_init_52 rfl (lv_at hl 0 rfl) ?_
  refine lv_aload_n hx hb d_Ma_init_53 rfl (lv_at hl 1 rfl) ?_
  refine va_putF (D := g.1) (ci := 3) (v := .ref a_co) (ty := .object "MoveDesk$Code") (C := "MoveDesk$Machine") (T := F_Ma) (N := 16) hx hb hts i_Ma t_Ma t_Ma_ok n_Ma hown hK hP hD hS 0 rfl rfl 0 (by decide) (hts _ m_102) (fun _ h9 => h9) rfl hin rfl (by decide +kernel) rfl rfl (Nat.le_of_ble_eq_true rfl) d_Ma_init_54 (fun H locs hP hD hS => ?_)
  have hP : va_P g.1 classes [kO a_ma 3 [.ref a_co, .null, .ref a_bu, .ref a_wo, .ref a_od, .ref a_rs, .ref a_ca, .ref a_cm, .int 0, .int 0, .int 0, .int 0, .int 0, .int 0, .int 0, .int 0], kO a_bu 0 [.int (z32 0), .int (z32 1), .int (z32 2), .int (z32 3), .int (z32 4), .int (z32 5), .int (z32 6), .int (z32 7)], kI g a_wo 72 z32, kI g a_od 3 z32, kI g a_rs 3 z32, kI g a_ca 4 z32, kI g a_cm 12 z32] H := hP
  have hD : va_D A [kO a_ma 3 [.ref a_co, .null, .ref a_bu, .ref a_wo, .ref a_od, .ref a_rs, .ref a_ca, .ref a_cm, .int 0, .int 0, .int 0, .int 0, .int 0, .int 0, .int 0, .int 0], kO a_bu 0 [.int (z32 0), .int (z32 1), .int (z32 2), .int (z32 3), .int (z32 4), .int (z32 5), .int (z32 6), .int (z32 7)], kI g a_wo 72 z32, kI g a_od 3 z32, kI g a_rs 3 z32, kI g a_ca 4 z32, kI g a_cm 12 z32] := hD
  refine lv_aload_n hx hb d_Ma_init_57 rfl (lv_at hl 0 rfl) ?_
  refine lv_aload_n hx hb d_Ma_init_58 rfl (lv_at hl 2 rfl) ?_
  refine va_putF (D := g.1) (ci := 3) (v := .ref a_lat) (ty := .array .int) (C := "MoveDesk$Machine") (T := F_Ma) (N := 16) hx hb hts i_Ma t_Ma t_Ma_ok n_Ma hown hK hP hD hS 0 rfl rfl 1 (by decide) (hts _ m_103) (fun _ h9 => h9) rfl hin rfl (by decide +kernel) rfl rfl (Nat.le_of_ble_eq_true rfl) d_Ma_init_59 (fun H locs hP hD hS => ?_)
  have hP : va_P g.1 classes [kO a_ma 3 [.ref a_co, .ref a_lat, .ref a_bu, .ref a_wo, .ref a_od, .ref a_rs, .ref a_ca, .ref a_cm, .int 0, .int 0, .int 0, .int 0, .int 0, .int 0, .int 0, .int 0], kO a_bu 0 [.int (z32 0), .int (z32 1), .int (z32 2), .int (z32 3), .int (z32 4), .int (z32 5), .int (z32 6), .int (z32 7)], kI g a_wo 72 z32, kI g a_od 3 z32, kI g a_rs 3 z32, kI g a_ca 4 z32, kI g a_cm 12 z32] H := hP
  have hD : va_D A [kO a_ma 3 [.ref a_co, .ref a_lat, .ref a_bu, .ref a_wo, .ref a_od, .ref a_rs, .ref a_ca, .ref a_cm, .int 0, .int 0, .int 0, .int 0, .int 0, .int 0, .int 0, .int 0], kO a_bu 0 [.int (z32 0), .int (z32 1), .int (z32 2), .int (z32 3), .int (z32 4), .int (z32 5), .int (z32 6), .int (z32 7)], kI g a_wo 72 z32, kI g a_od 3 z32, kI g a_rs 3 z32, kI g a_ca 4 z32, kI g a_cm 12 z32] := hD
  have hP9 := P_map (ws' := (w_ma_7_6ff0 g a_lat a_co a_ma a_bu a_wo a_od a_rs a_ca a_cm z32 z32 z32 z32 z32 z32 z32)) hP [0, 1, 2, 3, 4, 5, 6] rfl
  have hD9 := hD.sub (ws' := (w_ma_7_6ff0 g a_lat a_co a_ma a_bu a_wo a_od a_rs a_ca a_cm z32 z32 z32 z32 z32 z32 z32)) [0, 1, 2, 3, 4, 5, 6] rfl rfl
  exact W.vret hx hb hr (fun t ht hW => ⟨⟨rfl, (fun i => ([a_bu, a_wo, a_od, a_rs, a_ca, a_cm] : List Nat).getD i 0), by rw [ht]; exact hP9, va_K.moved hW.alike hK, hD9⟩, hS.F ht⟩) hS.2.2 d_Ma_init_62 hlocks
abbrev rm_Op_init : Room := { frames := 1, cells := 6, slots := 172, locals := 12 }
set_option maxHeartbeats 4000000 in
set_option maxRecDepth 100000 in
theorem c_Op_init (l : Launch) (g : GT) (a_op : Nat)   : CtN l y_Op_init (.code y_Op_init b_Op_init 1 none) rm_Op_init g [.ref a_op] [kO a_op 4 [.null, .null, .null, .null, .null, .null, .int 0]] (fun q => (w_op_7_27ce g a_op (q 0) (q 1) (q 2) (q 3) (q 4) (q 5) z32 z32 z32 z32 z32 z32 z32)) 6 172 := by
  refine ct_inN (C := "MoveDesk$Operations") rfl (by decide) rfl (Nat.le_of_ble_eq_true rfl) (fun p e s m below meth c A ls M hin hP hD hS hl => ?_)
  obtain ⟨hx, hb, hr, hml, hown, hts, hlocks, hA, hK, hG⟩ := id M
  have hl : lv_has ls 1 [(0, .ref a_op)] := hl
  refine lv_aload_n hx hb d_Op_init_0 rfl (lv_at hl 0 rfl) ?_
  refine W.objInit hx hb hown (hts _ m_157) (hts _ m_25) (hts _ m_26) rfl (hl.1.trans hml.symm) rfl d_Op_init_1 (by decide) (Nat.le_of_ble_eq_true rfl) ?_
  refine W.eq (g2 := F0 m 4 ls []) rfl ?_
  refine lv_aload_n hx hb d_Op_init_4 rfl (lv_at hl 0 rfl) ?_
  refine lv_bipush (v := 20) hx hb d_Op_init_5 (by decide) ?_
  refine k_newI (N := 20) M hP hD hS m_59 (by decide) (by decide) (by decide) (Nat.le_of_ble_eq_true rfl) (Nat.le_of_ble_eq_true rfl) d_Op_init_7 (fun a_ki H hP hD hS => ?_)
  have hP : va_P g.1 classes [kO a_op 4 [.null, .null, .null, .null, .null, .null, .int 0], kI g a_ki 20 z32] H := hP
  have hD : va_D A [kO a_op 4 [.null, .null, .null, .null, .null, .null, .int 0], kI g a_ki 20 z32] := hD
  refine W.widen (k := 1) (n := 20) (by decide) (by decide) ?_
  refine va_putF (D := g.1) (ci := 4) (v := .ref a_ki) (ty := .array .int) (C := "MoveDesk$Operations") (T := F_Op) (N := 7) hx hb hts i_Op t_Op t_Op_ok n_Op hown hK hP hD hS 0 rfl rfl 0 (by decide) (hts _ m_158) (fun _ h9 => h9) rfl hin rfl (by decide +kernel) rfl rfl (Nat.le_of_ble_eq_true rfl) d_Op_init_9 (fun H locs hP hD hS => ?_)
  have hP : va_P g.1 classes [kO a_op 4 [.ref a_ki, .null, .null, .null, .null, .null, .int 0], kI g a_ki 20 z32] H := hP
  have hD : va_D A [kO a_op 4 [.ref a_ki, .null, .null, .null, .null, .null, .int 0], kI g a_ki 20 z32] := hD
  refine lv_aload_n hx hb d_Op_init_12 rfl (lv_at hl 0 rfl) ?_
  refine lv_bipush (v := 20) hx hb d_Op_init_13 (by decide) ?_
  refine k_newI (N := 20) M hP hD hS m_59 (by decide) (by decide) (by decide) (Nat.le_of_ble_eq_true rfl) (Nat.le_of_ble_eq_true rfl) d_Op_init_15 (fun a_tg H hP hD hS => ?_)
  have hP : va_P g.1 classes [kO a_op 4 [.ref a_ki, .null, .null, .null, .null, .null, .int 0], kI g a_ki 20 z32, kI g a_tg 20 z32] H := hP
  have hD : va_D A [kO a_op 4 [.ref a_ki, .null, .null, .null, .null, .null, .int 0], kI g a_ki 20 z32, kI g a_tg 20 z32] := hD
  refine W.widen (k := 2) (n := 40) (by decide) (by decide) ?_
  refine va_putF (D := g.1) (ci := 4) (v := .ref a_tg) (ty := .array .int) (C := "MoveDesk$Operations") (T := F_Op) (N := 7) hx hb hts i_Op t_Op t_Op_ok n_Op hown hK hP hD hS 0 rfl rfl 1 (by decide) (hts _ m_159) (fun _ h9 => h9) rfl hin rfl (by decide +kernel) rfl rfl (Nat.le_of_ble_eq_true rfl) d_Op_init_17 (fun H locs hP hD hS => ?_)
  have hP : va_P g.1 classes [kO a_op 4 [.ref a_ki, .ref a_tg, .null, .null, .null, .null, .int 0], kI g a_ki 20 z32, kI g a_tg 20 z32] H := hP
  have hD : va_D A [kO a_op 4 [.ref a_ki, .ref a_tg, .null, .null, .null, .null, .int 0], kI g a_ki 20 z32, kI g a_tg 20 z32] := hD
  refine lv_aload_n hx hb d_Op_init_20 rfl (lv_at hl 0 rfl) ?_
  refine lv_bipush (v := 20) hx hb d_Op_init_21 (by decide) ?_
  refine k_newI (N := 20) M hP hD hS m_59 (by decide) (by decide) (by decide) (Nat.le_of_ble_eq_true rfl) (Nat.le_of_ble_eq_true rfl) d_Op_init_23 (fun a_fi H hP hD hS => ?_)
  have hP : va_P g.1 classes [kO a_op 4 [.ref a_ki, .ref a_tg, .null, .null, .null, .null, .int 0], kI g a_ki 20 z32, kI g a_tg 20 z32, kI g a_fi 20 z32] H := hP
  have hD : va_D A [kO a_op 4 [.ref a_ki, .ref a_tg, .null, .null, .null, .null, .int 0], kI g a_ki 20 z32, kI g a_tg 20 z32, kI g a_fi 20 z32] := hD
  refine W.widen (k := 3) (n := 60) (by decide) (by decide) ?_
  refine va_putF (D := g.1) (ci := 4) (v := .ref a_fi) (ty := .array .int) (C := "MoveDesk$Operations") (T := F_Op) (N := 7) hx hb hts i_Op t_Op t_Op_ok n_Op hown hK hP hD hS 0 rfl rfl 2 (by decide) (hts _ m_160) (fun _ h9 => h9) rfl hin rfl (by decide +kernel) rfl rfl (Nat.le_of_ble_eq_true rfl) d_Op_init_25 (fun H locs hP hD hS => ?_)
  have hP : va_P g.1 classes [kO a_op 4 [.ref a_ki, .ref a_tg, .ref a_fi, .null, .null, .null, .int 0], kI g a_ki 20 z32, kI g a_tg 20 z32, kI g a_fi 20 z32] H := hP
  have hD : va_D A [kO a_op 4 [.ref a_ki, .ref a_tg, .ref a_fi, .null, .null, .null, .int 0], kI g a_ki 20 z32, kI g a_tg 20 z32, kI g a_fi 20 z32] := hD
  refine lv_aload_n hx hb d_Op_init_28 rfl (lv_at hl 0 rfl) ?_
  refine lv_bipush (v := 20) hx hb d_Op_init_29 (by decide) ?_
  refine k_newI (N := 20) M hP hD hS m_59 (by decide) (by decide) (by decide) (Nat.le_of_ble_eq_true rfl) (Nat.le_of_ble_eq_true rfl) d_Op_init_31 (fun a_se H hP hD hS => ?_)
  have hP : va_P g.1 classes [kO a_op 4 [.ref a_ki, .ref a_tg, .ref a_fi, .null, .null, .null, .int 0], kI g a_ki 20 z32, kI g a_tg 20 z32, kI g a_fi 20 z32, kI g a_se 20 z32] H := hP
  have hD : va_D A [kO a_op 4 [.ref a_ki, .ref a_tg, .ref a_fi, .null, .null, .null, .int 0], kI g a_ki 20 z32, kI g a_tg 20 z32, kI g a_fi 20 z32, kI g a_se 20 z32] := hD
  refine W.widen (k := 4) (n := 80) (by decide) (by decide) ?_
  refine va_putF (D := g.1) (ci := 4) (v := .ref a_se) (ty := .array .int) (C := "MoveDesk$Operations") (T := F_Op) (N := 7) hx hb hts i_Op t_Op t_Op_ok n_Op hown hK hP hD hS 0 rfl rfl 3 (by decide) (hts _ m_161) (fun _ h9 => h9) rfl hin rfl (by decide +kernel) rfl rfl (Nat.le_of_ble_eq_true rfl) d_Op_init_33 (fun H locs hP hD hS => ?_)
  have hP : va_P g.1 classes [kO a_op 4 [.ref a_ki, .ref a_tg, .ref a_fi, .ref a_se, .null, .null, .int 0], kI g a_ki 20 z32, kI g a_tg 20 z32, kI g a_fi 20 z32, kI g a_se 20 z32] H := hP
  have hD : va_D A [kO a_op 4 [.ref a_ki, .ref a_tg, .ref a_fi, .ref a_se, .null, .null, .int 0], kI g a_ki 20 z32, kI g a_tg 20 z32, kI g a_fi 20 z32, kI g a_se 20 z32] := hD
  refine lv_aload_n hx hb d_Op_init_36 rfl (lv_at hl 0 rfl) ?_
  refine lv_bipush (v := 20) hx hb d_Op_init_37 (by decide) ?_
  refine k_newI (N := 20) M hP hD hS m_59 (by decide) (by decide) (by decide) (Nat.le_of_ble_eq_true rfl) (Nat.le_of_ble_eq_true rfl) d_Op_init_39 (fun a_oc H hP hD hS => ?_)
  have hP : va_P g.1 classes [kO a_op 4 [.ref a_ki, .ref a_tg, .ref a_fi, .ref a_se, .null, .null, .int 0], kI g a_ki 20 z32, kI g a_tg 20 z32, kI g a_fi 20 z32, kI g a_se 20 z32, kI g a_oc 20 z32] H := hP
  have hD : va_D A [kO a_op 4 [.ref a_ki, .ref a_tg, .ref a_fi, .ref a_se, .null, .null, .int 0], kI g a_ki 20 z32, kI g a_tg 20 z32, kI g a_fi 20 z32, kI g a_se 20 z32, kI g a_oc 20 z32] := hD
  refine W.widen (k := 5) (n := 100) (by decide) (by decide) ?_
  refine va_putF (D := g.1) (ci := 4) (v := .ref a_oc) (ty := .array .int) (C := "MoveDesk$Operations") (T := F_Op) (N := 7) hx hb hts i_Op t_Op t_Op_ok n_Op hown hK hP hD hS 0 rfl rfl 4 (by decide) (hts _ m_162) (fun _ h9 => h9) rfl hin rfl (by decide +kernel) rfl rfl (Nat.le_of_ble_eq_true rfl) d_Op_init_41 (fun H locs hP hD hS => ?_)
  have hP : va_P g.1 classes [kO a_op 4 [.ref a_ki, .ref a_tg, .ref a_fi, .ref a_se, .ref a_oc, .null, .int 0], kI g a_ki 20 z32, kI g a_tg 20 z32, kI g a_fi 20 z32, kI g a_se 20 z32, kI g a_oc 20 z32] H := hP
  have hD : va_D A [kO a_op 4 [.ref a_ki, .ref a_tg, .ref a_fi, .ref a_se, .ref a_oc, .null, .int 0], kI g a_ki 20 z32, kI g a_tg 20 z32, kI g a_fi 20 z32, kI g a_se 20 z32, kI g a_oc 20 z32] := hD
  refine lv_aload_n hx hb d_Op_init_44 rfl (lv_at hl 0 rfl) ?_
  refine lv_bipush (v := 72) hx hb d_Op_init_45 (by decide) ?_
  refine k_newI (N := 72) M hP hD hS m_59 (by decide) (by decide) (by decide) (Nat.le_of_ble_eq_true rfl) (Nat.le_of_ble_eq_true rfl) d_Op_init_47 (fun a_cp H hP hD hS => ?_)
  have hP : va_P g.1 classes [kO a_op 4 [.ref a_ki, .ref a_tg, .ref a_fi, .ref a_se, .ref a_oc, .null, .int 0], kI g a_ki 20 z32, kI g a_tg 20 z32, kI g a_fi 20 z32, kI g a_se 20 z32, kI g a_oc 20 z32, kI g a_cp 72 z32] H := hP
  have hD : va_D A [kO a_op 4 [.ref a_ki, .ref a_tg, .ref a_fi, .ref a_se, .ref a_oc, .null, .int 0], kI g a_ki 20 z32, kI g a_tg 20 z32, kI g a_fi 20 z32, kI g a_se 20 z32, kI g a_oc 20 z32, kI g a_cp 72 z32] := hD
  refine W.widen (k := 6) (n := 172) (by decide) (by decide) ?_
  refine va_putF (D := g.1) (ci := 4) (v := .ref a_cp) (ty := .array .int) (C := "MoveDesk$Operations") (T := F_Op) (N := 7) hx hb hts i_Op t_Op t_Op_ok n_Op hown hK hP hD hS 0 rfl rfl 5 (by decide) (hts _ m_163) (fun _ h9 => h9) rfl hin rfl (by decide +kernel) rfl rfl (Nat.le_of_ble_eq_true rfl) d_Op_init_49 (fun H locs hP hD hS => ?_)
  have hP : va_P g.1 classes [kO a_op 4 [.ref a_ki, .ref a_tg, .ref a_fi, .ref a_se, .ref a_oc, .ref a_cp, .int 0], kI g a_ki 20 z32, kI g a_tg 20 z32, kI g a_fi 20 z32, kI g a_se 20 z32, kI g a_oc 20 z32, kI g a_cp 72 z32] H := hP
  have hD : va_D A [kO a_op 4 [.ref a_ki, .ref a_tg, .ref a_fi, .ref a_se, .ref a_oc, .ref a_cp, .int 0], kI g a_ki 20 z32, kI g a_tg 20 z32, kI g a_fi 20 z32, kI g a_se 20 z32, kI g a_oc 20 z32, kI g a_cp 72 z32] := hD
  have hP9 := P_map (ws' := (w_op_7_27ce g a_op a_ki a_tg a_fi a_se a_oc a_cp z32 z32 z32 z32 z32 z32 z32)) hP [0, 1, 2, 3, 4, 5, 6] rfl
  have hD9 := hD.sub (ws' := (w_op_7_27ce g a_op a_ki a_tg a_fi a_se a_oc a_cp z32 z32 z32 z32 z32 z32 z32)) [0, 1, 2, 3, 4, 5, 6] rfl rfl
  exact W.vret hx hb hr (fun t ht hW => ⟨⟨rfl, (fun i => ([a_ki, a_tg, a_fi, a_se, a_oc, a_cp] : List Nat).getD i 0), by rw [ht]; exact hP9, va_K.moved hW.alike hK, hD9⟩, hS.F ht⟩) hS.2.2 d_Op_init_52 hlocks
abbrev rm_Pl_init : Room := { frames := 1, cells := 9, slots := 254, locals := 12 }
set_option maxHeartbeats 4000000 in
set_option maxRecDepth 100000 in
theorem c_Pl_init (l : Launch) (g : GT) (a_pl : Nat) (a_co : Nat) (a_op : Nat) (a_lat : Nat)   : CtN l y_Pl_init (.code y_Pl_init b_Pl_init 4 none) rm_Pl_init g [.ref a_pl, .ref a_co, .ref a_op, .ref a_lat] [kO a_pl 5 [.null, .null, .null, .null, .null, .null, .null, .null, .null, .null, .null, .null]] (fun q => (w_pl_10_18ae g a_lat a_co a_op a_pl (q 0) (q 1) (q 2) (q 3) (q 4) (q 5) (q 6) (q 7) (q 8) z32 z32 z32 z32 z32 z32 z32 z32 z32)) 9 254 := by
  refine ct_inN (C := "MoveDesk$Planner") rfl (by decide) rfl (Nat.le_of_ble_eq_true rfl) (fun p e s m below meth c A ls M hin hP hD hS hl => ?_)
  obtain ⟨hx, hb, hr, hml, hown, hts, hlocks, hA, hK, hG⟩ := id M
  have hl : lv_has ls 4 [(0, .ref a_pl), (1, .ref a_co), (2, .ref a_op), (3, .ref a_lat)] := hl
  refine lv_aload_n hx hb d_Pl_init_0 rfl (lv_at hl 0 rfl) ?_
  refine W.objInit hx hb hown (hts _ m_185) (hts _ m_25) (hts _ m_26) rfl (hl.1.trans hml.symm) rfl d_Pl_init_1 (by decide) (Nat.le_of_ble_eq_true rfl) ?_
  refine W.eq (g2 := F0 m 4 ls []) rfl ?_
  refine lv_aload_n hx hb d_Pl_init_4 rfl (lv_at hl 0 rfl) ?_
  refine lv_bipush (v := 64) hx hb d_Pl_init_5 (by decide) ?_
  refine k_newI (N := 64) M hP hD hS m_59 (by decide) (by decide) (by decide) (Nat.le_of_ble_eq_true rfl) (Nat.le_of_ble_eq_true rfl) d_Pl_init_7 (fun a_bs H hP hD hS => ?_)
  have hP : va_P g.1 classes [kO a_pl 5 [.null, .null, .null, .null, .null, .null, .null, .null, .null, .null, .null, .null], kI g a_bs 64 z32] H := hP
  have hD : va_D A [kO a_pl 5 [.null, .null, .null, .null, .null, .null, .null, .null, .null, .null, .null, .null], kI g a_bs 64 z32] := hD
  refine W.widen (k := 1) (n := 64) (by decide) (by decide) ?_
  refine va_putF (D := g.1) (ci := 5) (v := .ref a_bs) (ty := .array .int) (C := "MoveDesk$Planner") (T := F_Pl) (N := 12) hx hb hts i_Pl t_Pl t_Pl_ok n_Pl hown hK hP hD hS 0 rfl rfl 3 (by decide) (hts _ m_189) (fun _ h9 => h9) rfl hin rfl (by decide +kernel) rfl rfl (Nat.le_of_ble_eq_true rfl) d_Pl_init_9 (fun H locs hP hD hS => ?_)
  have hP : va_P g.1 classes [kO a_pl 5 [.null, .null, .null, .ref a_bs, .null, .null, .null, .null, .null, .null, .null, .null], kI g a_bs 64 z32] H := hP
  have hD : va_D A [kO a_pl 5 [.null, .null, .null, .ref a_bs, .null, .null, .null, .null, .null, .null, .null, .null], kI g a_bs 64 z32] := hD
  refine lv_aload_n hx hb d_Pl_init_12 rfl (lv_at hl 0 rfl) ?_
  refine lv_bipush (v := 64) hx hb d_Pl_init_13 (by decide) ?_
  refine k_newI (N := 64) M hP hD hS m_59 (by decide) (by decide) (by decide) (Nat.le_of_ble_eq_true rfl) (Nat.le_of_ble_eq_true rfl) d_Pl_init_15 (fun a_rr H hP hD hS => ?_)
  have hP : va_P g.1 classes [kO a_pl 5 [.null, .null, .null, .ref a_bs, .null, .null, .null, .null, .null, .null, .null, .null], kI g a_bs 64 z32, kI g a_rr 64 z32] H := hP
  have hD : va_D A [kO a_pl 5 [.null, .null, .null, .ref a_bs, .null, .null, .null, .null, .null, .null, .null, .null], kI g a_bs 64 z32, kI g a_rr 64 z32] := hD
  refine W.widen (k := 2) (n := 128) (by decide) (by decide) ?_
  refine va_putF (D := g.1) (ci := 5) (v := .ref a_rr) (ty := .array .int) (C := "MoveDesk$Planner") (T := F_Pl) (N := 12) hx hb hts i_Pl t_Pl t_Pl_ok n_Pl hown hK hP hD hS 0 rfl rfl 4 (by decide) (hts _ m_190) (fun _ h9 => h9) rfl hin rfl (by decide +kernel) rfl rfl (Nat.le_of_ble_eq_true rfl) d_Pl_init_17 (fun H locs hP hD hS => ?_)
  have hP : va_P g.1 classes [kO a_pl 5 [.null, .null, .null, .ref a_bs, .ref a_rr, .null, .null, .null, .null, .null, .null, .null], kI g a_bs 64 z32, kI g a_rr 64 z32] H := hP
  have hD : va_D A [kO a_pl 5 [.null, .null, .null, .ref a_bs, .ref a_rr, .null, .null, .null, .null, .null, .null, .null], kI g a_bs 64 z32, kI g a_rr 64 z32] := hD
  refine lv_aload_n hx hb d_Pl_init_20 rfl (lv_at hl 0 rfl) ?_
  refine lv_bipush (v := 64) hx hb d_Pl_init_21 (by decide) ?_
  refine k_newZ (N := 64) M hP hD hS m_223 (by decide) (by decide) (by decide) (Nat.le_of_ble_eq_true rfl) (Nat.le_of_ble_eq_true rfl) d_Pl_init_23 (fun a_hr H hP hD hS => ?_)
  have hP : va_P g.1 classes [kO a_pl 5 [.null, .null, .null, .ref a_bs, .ref a_rr, .null, .null, .null, .null, .null, .null, .null], kI g a_bs 64 z32, kI g a_rr 64 z32, kZ g a_hr 64 z32] H := hP
  have hD : va_D A [kO a_pl 5 [.null, .null, .null, .ref a_bs, .ref a_rr, .null, .null, .null, .null, .null, .null, .null], kI g a_bs 64 z32, kI g a_rr 64 z32, kZ g a_hr 64 z32] := hD
  refine W.widen (k := 3) (n := 192) (by decide) (by decide) ?_
  refine va_putF (D := g.1) (ci := 5) (v := .ref a_hr) (ty := .array .boolean) (C := "MoveDesk$Planner") (T := F_Pl) (N := 12) hx hb hts i_Pl t_Pl t_Pl_ok n_Pl hown hK hP hD hS 0 rfl rfl 5 (by decide) (hts _ m_191) (fun _ h9 => h9) rfl hin rfl (by decide +kernel) rfl rfl (Nat.le_of_ble_eq_true rfl) d_Pl_init_25 (fun H locs hP hD hS => ?_)
  have hP : va_P g.1 classes [kO a_pl 5 [.null, .null, .null, .ref a_bs, .ref a_rr, .ref a_hr, .null, .null, .null, .null, .null, .null], kI g a_bs 64 z32, kI g a_rr 64 z32, kZ g a_hr 64 z32] H := hP
  have hD : va_D A [kO a_pl 5 [.null, .null, .null, .ref a_bs, .ref a_rr, .ref a_hr, .null, .null, .null, .null, .null, .null], kI g a_bs 64 z32, kI g a_rr 64 z32, kZ g a_hr 64 z32] := hD
  refine lv_aload_n hx hb d_Pl_init_28 rfl (lv_at hl 0 rfl) ?_
  refine lv_bipush (v := 8) hx hb d_Pl_init_29 (by decide) ?_
  refine k_newI (N := 8) M hP hD hS m_59 (by decide) (by decide) (by decide) (Nat.le_of_ble_eq_true rfl) (Nat.le_of_ble_eq_true rfl) d_Pl_init_31 (fun a_lw H hP hD hS => ?_)
  have hP : va_P g.1 classes [kO a_pl 5 [.null, .null, .null, .ref a_bs, .ref a_rr, .ref a_hr, .null, .null, .null, .null, .null, .null], kI g a_bs 64 z32, kI g a_rr 64 z32, kZ g a_hr 64 z32, kI g a_lw 8 z32] H := hP
  have hD : va_D A [kO a_pl 5 [.null, .null, .null, .ref a_bs, .ref a_rr, .ref a_hr, .null, .null, .null, .null, .null, .null], kI g a_bs 64 z32, kI g a_rr 64 z32, kZ g a_hr 64 z32, kI g a_lw 8 z32] := hD
  refine W.widen (k := 4) (n := 200) (by decide) (by decide) ?_
  refine va_putF (D := g.1) (ci := 5) (v := .ref a_lw) (ty := .array .int) (C := "MoveDesk$Planner") (T := F_Pl) (N := 12) hx hb hts i_Pl t_Pl t_Pl_ok n_Pl hown hK hP hD hS 0 rfl rfl 6 (by decide) (hts _ m_192) (fun _ h9 => h9) rfl hin rfl (by decide +kernel) rfl rfl (Nat.le_of_ble_eq_true rfl) d_Pl_init_33 (fun H locs hP hD hS => ?_)
  have hP : va_P g.1 classes [kO a_pl 5 [.null, .null, .null, .ref a_bs, .ref a_rr, .ref a_hr, .ref a_lw, .null, .null, .null, .null, .null], kI g a_bs 64 z32, kI g a_rr 64 z32, kZ g a_hr 64 z32, kI g a_lw 8 z32] H := hP
  have hD : va_D A [kO a_pl 5 [.null, .null, .null, .ref a_bs, .ref a_rr, .ref a_hr, .ref a_lw, .null, .null, .null, .null, .null], kI g a_bs 64 z32, kI g a_rr 64 z32, kZ g a_hr 64 z32, kI g a_lw 8 z32] := hD
  refine lv_aload_n hx hb d_Pl_init_36 rfl (lv_at hl 0 rfl) ?_
  refine lv_bipush (v := 8) hx hb d_Pl_init_37 (by decide) ?_
  refine k_newI (N := 8) M hP hD hS m_59 (by decide) (by decide) (by decide) (Nat.le_of_ble_eq_true rfl) (Nat.le_of_ble_eq_true rfl) d_Pl_init_39 (fun a_lr H hP hD hS => ?_)
  have hP : va_P g.1 classes [kO a_pl 5 [.null, .null, .null, .ref a_bs, .ref a_rr, .ref a_hr, .ref a_lw, .null, .null, .null, .null, .null], kI g a_bs 64 z32, kI g a_rr 64 z32, kZ g a_hr 64 z32, kI g a_lw 8 z32, kI g a_lr 8 z32] H := hP
  have hD : va_D A [kO a_pl 5 [.null, .null, .null, .ref a_bs, .ref a_rr, .ref a_hr, .ref a_lw, .null, .null, .null, .null, .null], kI g a_bs 64 z32, kI g a_rr 64 z32, kZ g a_hr 64 z32, kI g a_lw 8 z32, kI g a_lr 8 z32] := hD
  refine W.widen (k := 5) (n := 208) (by decide) (by decide) ?_
  refine va_putF (D := g.1) (ci := 5) (v := .ref a_lr) (ty := .array .int) (C := "MoveDesk$Planner") (T := F_Pl) (N := 12) hx hb hts i_Pl t_Pl t_Pl_ok n_Pl hown hK hP hD hS 0 rfl rfl 7 (by decide) (hts _ m_193) (fun _ h9 => h9) rfl hin rfl (by decide +kernel) rfl rfl (Nat.le_of_ble_eq_true rfl) d_Pl_init_41 (fun H locs hP hD hS => ?_)
  have hP : va_P g.1 classes [kO a_pl 5 [.null, .null, .null, .ref a_bs, .ref a_rr, .ref a_hr, .ref a_lw, .ref a_lr, .null, .null, .null, .null], kI g a_bs 64 z32, kI g a_rr 64 z32, kZ g a_hr 64 z32, kI g a_lw 8 z32, kI g a_lr 8 z32] H := hP
  have hD : va_D A [kO a_pl 5 [.null, .null, .null, .ref a_bs, .ref a_rr, .ref a_hr, .ref a_lw, .ref a_lr, .null, .null, .null, .null], kI g a_bs 64 z32, kI g a_rr 64 z32, kZ g a_hr 64 z32, kI g a_lw 8 z32, kI g a_lr 8 z32] := hD
  refine lv_aload_n hx hb d_Pl_init_44 rfl (lv_at hl 0 rfl) ?_
  refine lv_iconst (v := 3) hx hb d_Pl_init_45 (by decide) ?_
  refine k_newI (N := 3) M hP hD hS m_59 (by decide) (by decide) (by decide) (Nat.le_of_ble_eq_true rfl) (Nat.le_of_ble_eq_true rfl) d_Pl_init_46 (fun a_lt H hP hD hS => ?_)
  have hP : va_P g.1 classes [kO a_pl 5 [.null, .null, .null, .ref a_bs, .ref a_rr, .ref a_hr, .ref a_lw, .ref a_lr, .null, .null, .null, .null], kI g a_bs 64 z32, kI g a_rr 64 z32, kZ g a_hr 64 z32, kI g a_lw 8 z32, kI g a_lr 8 z32, kI g a_lt 3 z32] H := hP
  have hD : va_D A [kO a_pl 5 [.null, .null, .null, .ref a_bs, .ref a_rr, .ref a_hr, .ref a_lw, .ref a_lr, .null, .null, .null, .null], kI g a_bs 64 z32, kI g a_rr 64 z32, kZ g a_hr 64 z32, kI g a_lw 8 z32, kI g a_lr 8 z32, kI g a_lt 3 z32] := hD
  refine W.widen (k := 6) (n := 211) (by decide) (by decide) ?_
  refine va_putF (D := g.1) (ci := 5) (v := .ref a_lt) (ty := .array .int) (C := "MoveDesk$Planner") (T := F_Pl) (N := 12) hx hb hts i_Pl t_Pl t_Pl_ok n_Pl hown hK hP hD hS 0 rfl rfl 8 (by decide) (hts _ m_194) (fun _ h9 => h9) rfl hin rfl (by decide +kernel) rfl rfl (Nat.le_of_ble_eq_true rfl) d_Pl_init_48 (fun H locs hP hD hS => ?_)
  have hP : va_P g.1 classes [kO a_pl 5 [.null, .null, .null, .ref a_bs, .ref a_rr, .ref a_hr, .ref a_lw, .ref a_lr, .ref a_lt, .null, .null, .null], kI g a_bs 64 z32, kI g a_rr 64 z32, kZ g a_hr 64 z32, kI g a_lw 8 z32, kI g a_lr 8 z32, kI g a_lt 3 z32] H := hP
  have hD : va_D A [kO a_pl 5 [.null, .null, .null, .ref a_bs, .ref a_rr, .ref a_hr, .ref a_lw, .ref a_lr, .ref a_lt, .null, .null, .null], kI g a_bs 64 z32, kI g a_rr 64 z32, kZ g a_hr 64 z32, kI g a_lw 8 z32, kI g a_lr 8 z32, kI g a_lt 3 z32] := hD
  refine lv_aload_n hx hb d_Pl_init_51 rfl (lv_at hl 0 rfl) ?_
  refine lv_iconst (v := 3) hx hb d_Pl_init_52 (by decide) ?_
  refine k_newI (N := 3) M hP hD hS m_59 (by decide) (by decide) (by decide) (Nat.le_of_ble_eq_true rfl) (Nat.le_of_ble_eq_true rfl) d_Pl_init_53 (fun a_lm H hP hD hS => ?_)
  have hP : va_P g.1 classes [kO a_pl 5 [.null, .null, .null, .ref a_bs, .ref a_rr, .ref a_hr, .ref a_lw, .ref a_lr, .ref a_lt, .null, .null, .null], kI g a_bs 64 z32, kI g a_rr 64 z32, kZ g a_hr 64 z32, kI g a_lw 8 z32, kI g a_lr 8 z32, kI g a_lt 3 z32, kI g a_lm 3 z32] H := hP
  have hD : va_D A [kO a_pl 5 [.null, .null, .null, .ref a_bs, .ref a_rr, .ref a_hr, .ref a_lw, .ref a_lr, .ref a_lt, .null, .null, .null], kI g a_bs 64 z32, kI g a_rr 64 z32, kZ g a_hr 64 z32, kI g a_lw 8 z32, kI g a_lr 8 z32, kI g a_lt 3 z32, kI g a_lm 3 z32] := hD
  refine W.widen (k := 7) (n := 214) (by decide) (by decide) ?_
  refine va_putF (D := g.1) (ci := 5) (v := .ref a_lm) (ty := .array .int) (C := "MoveDesk$Planner") (T := F_Pl) (N := 12) hx hb hts i_Pl t_Pl t_Pl_ok n_Pl hown hK hP hD hS 0 rfl rfl 9 (by decide) (hts _ m_195) (fun _ h9 => h9) rfl hin rfl (by decide +kernel) rfl rfl (Nat.le_of_ble_eq_true rfl) d_Pl_init_55 (fun H locs hP hD hS => ?_)
  have hP : va_P g.1 classes [kO a_pl 5 [.null, .null, .null, .ref a_bs, .ref a_rr, .ref a_hr, .ref a_lw, .ref a_lr, .ref a_lt, .ref a_lm, .null, .null], kI g a_bs 64 z32, kI g a_rr 64 z32, kZ g a_hr 64 z32, kI g a_lw 8 z32, kI g a_lr 8 z32, kI g a_lt 3 z32, kI g a_lm 3 z32] H := hP
  have hD : va_D A [kO a_pl 5 [.null, .null, .null, .ref a_bs, .ref a_rr, .ref a_hr, .ref a_lw, .ref a_lr, .ref a_lt, .ref a_lm, .null, .null], kI g a_bs 64 z32, kI g a_rr 64 z32, kZ g a_hr 64 z32, kI g a_lw 8 z32, kI g a_lr 8 z32, kI g a_lt 3 z32, kI g a_lm 3 z32] := hD
  refine lv_aload_n hx hb d_Pl_init_58 rfl (lv_at hl 0 rfl) ?_
  refine lv_bipush (v := 20) hx hb d_Pl_init_59 (by decide) ?_
  refine k_newI (N := 20) M hP hD hS m_59 (by decide) (by decide) (by decide) (Nat.le_of_ble_eq_true rfl) (Nat.le_of_ble_eq_true rfl) d_Pl_init_61 (fun a_tc H hP hD hS => ?_)
  have hP : va_P g.1 classes [kO a_pl 5 [.null, .null, .null, .ref a_bs, .ref a_rr, .ref a_hr, .ref a_lw, .ref a_lr, .ref a_lt, .ref a_lm, .null, .null], kI g a_bs 64 z32, kI g a_rr 64 z32, kZ g a_hr 64 z32, kI g a_lw 8 z32, kI g a_lr 8 z32, kI g a_lt 3 z32, kI g a_lm 3 z32, kI g a_tc 20 z32] H := hP
  have hD : va_D A [kO a_pl 5 [.null, .null, .null, .ref a_bs, .ref a_rr, .ref a_hr, .ref a_lw, .ref a_lr, .ref a_lt, .ref a_lm, .null, .null], kI g a_bs 64 z32, kI g a_rr 64 z32, kZ g a_hr 64 z32, kI g a_lw 8 z32, kI g a_lr 8 z32, kI g a_lt 3 z32, kI g a_lm 3 z32, kI g a_tc 20 z32] := hD
  refine W.widen (k := 8) (n := 234) (by decide) (by decide) ?_
  refine va_putF (D := g.1) (ci := 5) (v := .ref a_tc) (ty := .array .int) (C := "MoveDesk$Planner") (T := F_Pl) (N := 12) hx hb hts i_Pl t_Pl t_Pl_ok n_Pl hown hK hP hD hS 0 rfl rfl 10 (by decide) (hts _ m_196) (fun _ h9 => h9) rfl hin rfl (by decide +kernel) rfl rfl (Nat.le_of_ble_eq_true rfl) d_Pl_init_63 (fun H locs hP hD hS => ?_)
  have hP : va_P g.1 classes [kO a_pl 5 [.null, .null, .null, .ref a_bs, .ref a_rr, .ref a_hr, .ref a_lw, .ref a_lr, .ref a_lt, .ref a_lm, .ref a_tc, .null], kI g a_bs 64 z32, kI g a_rr 64 z32, kZ g a_hr 64 z32, kI g a_lw 8 z32, kI g a_lr 8 z32, kI g a_lt 3 z32, kI g a_lm 3 z32, kI g a_tc 20 z32] H := hP
  have hD : va_D A [kO a_pl 5 [.null, .null, .null, .ref a_bs, .ref a_rr, .ref a_hr, .ref a_lw, .ref a_lr, .ref a_lt, .ref a_lm, .ref a_tc, .null], kI g a_bs 64 z32, kI g a_rr 64 z32, kZ g a_hr 64 z32, kI g a_lw 8 z32, kI g a_lr 8 z32, kI g a_lt 3 z32, kI g a_lm 3 z32, kI g a_tc 20 z32] := hD
  refine lv_aload_n hx hb d_Pl_init_66 rfl (lv_at hl 0 rfl) ?_
  refine lv_bipush (v := 20) hx hb d_Pl_init_67 (by decide) ?_
  refine k_newI (N := 20) M hP hD hS m_59 (by decide) (by decide) (by decide) (Nat.le_of_ble_eq_true rfl) (Nat.le_of_ble_eq_true rfl) d_Pl_init_69 (fun a_rc H hP hD hS => ?_)
  have hP : va_P g.1 classes [kO a_pl 5 [.null, .null, .null, .ref a_bs, .ref a_rr, .ref a_hr, .ref a_lw, .ref a_lr, .ref a_lt, .ref a_lm, .ref a_tc, .null], kI g a_bs 64 z32, kI g a_rr 64 z32, kZ g a_hr 64 z32, kI g a_lw 8 z32, kI g a_lr 8 z32, kI g a_lt 3 z32, kI g a_lm 3 z32, kI g a_tc 20 z32, kI g a_rc 20 z32] H := hP
  have hD : va_D A [kO a_pl 5 [.null, .null, .null, .ref a_bs, .ref a_rr, .ref a_hr, .ref a_lw, .ref a_lr, .ref a_lt, .ref a_lm, .ref a_tc, .null], kI g a_bs 64 z32, kI g a_rr 64 z32, kZ g a_hr 64 z32, kI g a_lw 8 z32, kI g a_lr 8 z32, kI g a_lt 3 z32, kI g a_lm 3 z32, kI g a_tc 20 z32, kI g a_rc 20 z32] := hD
  refine W.widen (k := 9) (n := 254) (by decide) (by decide) ?_
  refine va_putF (D := g.1) (ci := 5) (v := .ref a_rc) (ty := .array .int) (C := "MoveDesk$Planner") (T := F_Pl) (N := 12) hx hb hts i_Pl t_Pl t_Pl_ok n_Pl hown hK hP hD hS 0 rfl rfl 11 (by decide) (hts _ m_197) (fun _ h9 => h9) rfl hin rfl (by decide +kernel) rfl rfl (Nat.le_of_ble_eq_true rfl) d_Pl_init_71 (fun H locs hP hD hS => ?_)
  have hP : va_P g.1 classes [kO a_pl 5 [.null, .null, .null, .ref a_bs, .ref a_rr, .ref a_hr, .ref a_lw, .ref a_lr, .ref a_lt, .ref a_lm, .ref a_tc, .ref a_rc], kI g a_bs 64 z32, kI g a_rr 64 z32, kZ g a_hr 64 z32, kI g a_lw 8 z32, kI g a_lr 8 z32, kI g a_lt 3 z32, kI g a_lm 3 z32, kI g a_tc 20 z32, kI g a_rc 20 z32] H := hP
  have hD : va_D A [kO a_pl 5 [.null, .null, .null, .ref a_bs, .ref a_rr, .ref a_hr, .ref a_lw, .ref a_lr, .ref a_lt, .ref a_lm, .ref a_tc, .ref a_rc], kI g a_bs 64 z32, kI g a_rr 64 z32, kZ g a_hr 64 z32, kI g a_lw 8 z32, kI g a_lr 8 z32, kI g a_lt 3 z32, kI g a_lm 3 z32, kI g a_tc 20 z32, kI g a_rc 20 z32] := hD
  refine lv_aload_n hx hb d_Pl_init_74 rfl (lv_at hl 0 rfl) ?_
  refine lv_aload_n hx hb d_Pl_init_75 rfl (lv_at hl 1 rfl) ?_
  refine va_putF (D := g.1) (ci := 5) (v := .ref a_co) (ty := .object "MoveDesk$Code") (C := "MoveDesk$Planner") (T := F_Pl) (N := 12) hx hb hts i_Pl t_Pl t_Pl_ok n_Pl hown hK hP hD hS 0 rfl rfl 0 (by decide) (hts _ m_186) (fun _ h9 => h9) rfl hin rfl (by decide +kernel) rfl rfl (Nat.le_of_ble_eq_true rfl) d_Pl_init_76 (fun H locs hP hD hS => ?_)
  have hP : va_P g.1 classes [kO a_pl 5 [.ref a_co, .null, .null, .ref a_bs, .ref a_rr, .ref a_hr, .ref a_lw, .ref a_lr, .ref a_lt, .ref a_lm, .ref a_tc, .ref a_rc], kI g a_bs 64 z32, kI g a_rr 64 z32, kZ g a_hr 64 z32, kI g a_lw 8 z32, kI g a_lr 8 z32, kI g a_lt 3 z32, kI g a_lm 3 z32, kI g a_tc 20 z32, kI g a_rc 20 z32] H := hP
  have hD : va_D A [kO a_pl 5 [.ref a_co, .null, .null, .ref a_bs, .ref a_rr, .ref a_hr, .ref a_lw, .ref a_lr, .ref a_lt, .ref a_lm, .ref a_tc, .ref a_rc], kI g a_bs 64 z32, kI g a_rr 64 z32, kZ g a_hr 64 z32, kI g a_lw 8 z32, kI g a_lr 8 z32, kI g a_lt 3 z32, kI g a_lm 3 z32, kI g a_tc 20 z32, kI g a_rc 20 z32] := hD
  refine lv_aload_n hx hb d_Pl_init_79 rfl (lv_at hl 0 rfl) ?_
  refine lv_aload_n hx hb d_Pl_init_80 rfl (lv_at hl 2 rfl) ?_
  refine va_putF (D := g.1) (ci := 5) (v := .ref a_op) (ty := .object "MoveDesk$Operations") (C := "MoveDesk$Planner") (T := F_Pl) (N := 12) hx hb hts i_Pl t_Pl t_Pl_ok n_Pl hown hK hP hD hS 0 rfl rfl 1 (by decide) (hts _ m_187) (fun _ h9 => h9) rfl hin rfl (by decide +kernel) rfl rfl (Nat.le_of_ble_eq_true rfl) d_Pl_init_81 (fun H locs hP hD hS => ?_)
  have hP : va_P g.1 classes [kO a_pl 5 [.ref a_co, .ref a_op, .null, .ref a_bs, .ref a_rr, .ref a_hr, .ref a_lw, .ref a_lr, .ref a_lt, .ref a_lm, .ref a_tc, .ref a_rc], kI g a_bs 64 z32, kI g a_rr 64 z32, kZ g a_hr 64 z32, kI g a_lw 8 z32, kI g a_lr 8 z32, kI g a_lt 3 z32, kI g a_lm 3 z32, kI g a_tc 20 z32, kI g a_rc 20 z32] H := hP
  have hD : va_D A [kO a_pl 5 [.ref a_co, .ref a_op, .null, .ref a_bs, .ref a_rr, .ref a_hr, .ref a_lw, .ref a_lr, .ref a_lt, .ref a_lm, .ref a_tc, .ref a_rc], kI g a_bs 64 z32, kI g a_rr 64 z32, kZ g a_hr 64 z32, kI g a_lw 8 z32, kI g a_lr 8 z32, kI g a_lt 3 z32, kI g a_lm 3 z32, kI g a_tc 20 z32, kI g a_rc 20 z32] := hD
  refine lv_aload_n hx hb d_Pl_init_84 rfl (lv_at hl 0 rfl) ?_
  refine lv_aload_n hx hb d_Pl_init_85 rfl (lv_at hl 3 rfl) ?_
  refine va_putF (D := g.1) (ci := 5) (v := .ref a_lat) (ty := .array .int) (C := "MoveDesk$Planner") (T := F_Pl) (N := 12) hx hb hts i_Pl t_Pl t_Pl_ok n_Pl hown hK hP hD hS 0 rfl rfl 2 (by decide) (hts _ m_188) (fun _ h9 => h9) rfl hin rfl (by decide +kernel) rfl rfl (Nat.le_of_ble_eq_true rfl) d_Pl_init_86 (fun H locs hP hD hS => ?_)
  have hP : va_P g.1 classes [kO a_pl 5 [.ref a_co, .ref a_op, .ref a_lat, .ref a_bs, .ref a_rr, .ref a_hr, .ref a_lw, .ref a_lr, .ref a_lt, .ref a_lm, .ref a_tc, .ref a_rc], kI g a_bs 64 z32, kI g a_rr 64 z32, kZ g a_hr 64 z32, kI g a_lw 8 z32, kI g a_lr 8 z32, kI g a_lt 3 z32, kI g a_lm 3 z32, kI g a_tc 20 z32, kI g a_rc 20 z32] H := hP
  have hD : va_D A [kO a_pl 5 [.ref a_co, .ref a_op, .ref a_lat, .ref a_bs, .ref a_rr, .ref a_hr, .ref a_lw, .ref a_lr, .ref a_lt, .ref a_lm, .ref a_tc, .ref a_rc], kI g a_bs 64 z32, kI g a_rr 64 z32, kZ g a_hr 64 z32, kI g a_lw 8 z32, kI g a_lr 8 z32, kI g a_lt 3 z32, kI g a_lm 3 z32, kI g a_tc 20 z32, kI g a_rc 20 z32] := hD
  have hP9 := P_map (ws' := (w_pl_10_18ae g a_lat a_co a_op a_pl a_bs a_rr a_hr a_lw a_lr a_lt a_lm a_tc a_rc z32 z32 z32 z32 z32 z32 z32 z32 z32)) hP [0, 1, 2, 3, 4, 5, 6, 7, 8, 9] rfl
  have hD9 := hD.sub (ws' := (w_pl_10_18ae g a_lat a_co a_op a_pl a_bs a_rr a_hr a_lw a_lr a_lt a_lm a_tc a_rc z32 z32 z32 z32 z32 z32 z32 z32 z32)) [0, 1, 2, 3, 4, 5, 6, 7, 8, 9] rfl rfl
  exact W.vret hx hb hr (fun t ht hW => ⟨⟨rfl, (fun i => ([a_bs, a_rr, a_hr, a_lw, a_lr, a_lt, a_lm, a_tc, a_rc] : List Nat).getD i 0), by rw [ht]; exact hP9, va_K.moved hW.alike hK, hD9⟩, hS.F ht⟩) hS.2.2 d_Pl_init_89 hlocks
abbrev rm_Ju_init : Room := { frames := 2, cells := 6, slots := 1230, locals := 32 }
set_option maxHeartbeats 4000000 in
set_option maxRecDepth 100000 in
theorem wl_Ju_init_62 {p : Program} {l : Launch} {e : Env} {s : State} {m : MethodId} {args : Array Value} {below : List Frame} {meth : Method} {c : Code} {A : Nat → Prop} {g : GT} {a_lat : Nat} {a_co : Nat} {a_ju : Nat} {a_jb : Nat} {a_ch : Nat} {a_rd : Nat} {a_fr : Nat} {a_ub : Nat} {a_wr : Nat} {y : (Nat → Int64) × (Nat → Int64)} (M : MX p s m args meth c b_Ju_init 4 none "MoveDesk$Judge" g A) (hin : meth.name = "<init>") : ∀ n : Nat, ∀ (r_lat : Nat → Int32) (r_ju : Nat → Int32) (r_jb : Nat → Int32) (r_ch : Nat → Int32) (r_rd : Nat → Int64) (r_fr : Nat → Int64) (r_ub : Nat → Int64) (r_wr : Nat → Int64) (v3 : Int32) (H : Heap) (locs : List Loc) (ls : Array Slot), some y = (f_Ju_init_62 n) r_lat r_ju r_jb r_ch r_rd r_fr r_ub r_wr v3 → va_P g.1 classes (w_lat_8_1dac g a_lat a_co a_ju a_jb a_ch a_rd a_fr a_ub a_wr r_lat r_ju r_jb r_ch r_rd r_fr r_ub r_wr) H → va_D A (w_lat_8_1dac g a_lat a_co a_ju a_jb a_ch a_rd a_fr a_ub a_wr r_lat r_ju r_jb r_ch r_rd r_fr r_ub r_wr) → va_S A s.heap H locs → lv_has ls 4 [(0, .ref a_ju), (2, .ref a_lat), (3, .int v3)] → W p l e rm_Ju_init s m args below meth c H locs 6 1230 (MQ below (QN g (fun q => (w_lat_8_1dac g a_lat a_co a_ju (q 0) (q 1) (q 2) (q 3) (q 4) (q 5) r_lat r_ju r_jb r_ch r_rd r_fr y.1 y.2)) A) args s 6 1230 A) (F0 m 62 ls []) := by
  obtain ⟨hx, hb, hr, hml, hown, hts, hlocks, hA, hK, hG⟩ := id M
  intro n
  induction n with
  | zero =>
    intro r_lat r_ju r_jb r_ch r_rd r_fr r_ub r_wr v3 H locs ls hE hP hD hS hl
    rw [f_Ju_init_62] at hE
    cases hE
  | succ n ih =>
    intro r_lat r_ju r_jb r_ch r_rd r_fr r_ub r_wr v3 H locs ls hE hP hD hS hl
    rw [f_Ju_init_62] at hE
    refine lv_iload_n hx hb d_Ju_init_62 rfl (lv_at hl 2 rfl) ?_
    refine lv_iconst (v := 3) hx hb d_Ju_init_63 (by decide) ?_
    refine lv_icmp_ge (tgt := 97) hx hb d_Ju_init_64 (by decide) (fun c1 => ?_) (fun c1 => ?_)
    · have hE := it_t hE c1
      have hE := Option.some.inj hE
      rw [hE]
      exact W.vret hx hb hr (fun t ht hW => ⟨⟨rfl, (fun i => ([a_jb, a_ch, a_rd, a_fr, a_ub, a_wr] : List Nat).getD i 0), by rw [ht]; exact hP, va_K.moved hW.alike hK, hD⟩, hS.F ht⟩) hS.2.2 d_Ju_init_97 hlocks
    · have hE := it_f hE c1
      refine lv_aload_n hx hb d_Ju_init_67 rfl (lv_at hl 0 rfl) ?_
      refine va_get (D := g.1) (ci := 2) (v := .ref a_ub) (C := "MoveDesk$Judge") (T := F_Ju) (N := 10) hx hb hts i_Ju hown hK hP 1 rfl rfl 5 (by decide) (hts _ m_244) (fun _ h9 => h9) rfl d_Ju_init_68 ?_
      refine lv_iload_n hx hb d_Ju_init_71 rfl (lv_at hl 2 rfl) ?_
      refine lv_iload_n hx hb d_Ju_init_72 rfl (lv_at hl 2 rfl) ?_
      refine lv_iconst (v := 0) hx hb d_Ju_init_73 (by decide) ?_
      obtain ⟨y2, hy2, hE⟩ := bd_at hE
      refine kS (index := 39) (As := [.int v3, .int 0]) (rest := [.int v3, .ref a_ub]) (ws2 := (w_lat_8_1dac g a_lat a_co a_ju a_jb a_ch a_rd a_fr a_ub a_wr r_lat r_ju r_jb r_ch r_rd r_fr r_ub r_wr)) M hP hD hS hl.1 (c_Ju_agesWhere l g   v3 (0 : Int32) y2 hy2) m_232 m_233 m_8 m_234 hs_Ju_agesWhere rfl rfl rfl ⟨by decide, by decide⟩ ⟨by decide, by decide⟩ [] [0, 1, 2, 3, 4, 5, 6, 7] [0, 1, 2, 3, 4, 5, 6, 7] rfl rfl rfl rfl (by decide) rfl rfl rfl (Nat.le_of_ble_eq_true rfl) d_Ju_init_74 (fun H locs hP hD hS => ?_)
      refine W.eq (g2 := F0 m 77 ls [.long y2, .int v3, .ref a_ub]) rfl ?_
      have ⟨h3, hE⟩ := ck_at hE
      refine va_last hx hb hK hP hD hS 6 2 rfl rfl h3 d_Ju_init_77 (fun H locs hP hD hS => ?_)
      have hP : va_P g.1 classes (w_lat_8_1dac g a_lat a_co a_ju a_jb a_ch a_rd a_fr a_ub a_wr r_lat r_ju r_jb r_ch r_rd r_fr (vp_updL r_ub v3.toNatClampNeg y2) r_wr) H := hP
      have hD : va_D A (w_lat_8_1dac g a_lat a_co a_ju a_jb a_ch a_rd a_fr a_ub a_wr r_lat r_ju r_jb r_ch r_rd r_fr (vp_updL r_ub v3.toNatClampNeg y2) r_wr) := hD
      refine lv_aload_n hx hb d_Ju_init_78 rfl (lv_at hl 0 rfl) ?_
      refine va_get (D := g.1) (ci := 2) (v := .ref a_wr) (C := "MoveDesk$Judge") (T := F_Ju) (N := 10) hx hb hts i_Ju hown hK hP 1 rfl rfl 6 (by decide) (hts _ m_245) (fun _ h9 => h9) rfl d_Ju_init_79 ?_
      refine lv_iload_n hx hb d_Ju_init_82 rfl (lv_at hl 2 rfl) ?_
      refine lv_iload_n hx hb d_Ju_init_83 rfl (lv_at hl 2 rfl) ?_
      refine lv_aload_n hx hb d_Ju_init_84 rfl (lv_at hl 1 rfl) ?_
      refine lv_iload_n hx hb d_Ju_init_85 rfl (lv_at hl 2 rfl) ?_
      have ⟨h4, hE⟩ := ck_at hE
      refine va_iald hx hb hK hP 0 0 rfl rfl h4 d_Ju_init_86 ?_
      obtain ⟨y5, hy5, hE⟩ := bd_at hE
      refine kS (index := 39) (As := [.int v3, .int (r_lat v3.toNatClampNeg)]) (rest := [.int v3, .ref a_wr]) (ws2 := (w_lat_8_1dac g a_lat a_co a_ju a_jb a_ch a_rd a_fr a_ub a_wr r_lat r_ju r_jb r_ch r_rd r_fr (vp_updL r_ub v3.toNatClampNeg y2) r_wr)) M hP hD hS hl.1 (c_Ju_agesWhere l g   v3 (r_lat v3.toNatClampNeg) y5 hy5) m_232 m_233 m_8 m_234 hs_Ju_agesWhere rfl rfl rfl ⟨by decide, by decide⟩ ⟨by decide, by decide⟩ [] [0, 1, 2, 3, 4, 5, 6, 7] [0, 1, 2, 3, 4, 5, 6, 7] rfl rfl rfl rfl (by decide) rfl rfl rfl (Nat.le_of_ble_eq_true rfl) d_Ju_init_87 (fun H locs hP hD hS => ?_)
      refine W.eq (g2 := F0 m 90 ls [.long y5, .int v3, .ref a_wr]) rfl ?_
      have ⟨h6, hE⟩ := ck_at hE
      refine va_last hx hb hK hP hD hS 7 2 rfl rfl h6 d_Ju_init_90 (fun H locs hP hD hS => ?_)
      have hP : va_P g.1 classes (w_lat_8_1dac g a_lat a_co a_ju a_jb a_ch a_rd a_fr a_ub a_wr r_lat r_ju r_jb r_ch r_rd r_fr (vp_updL r_ub v3.toNatClampNeg y2) (vp_updL r_wr v3.toNatClampNeg y5)) H := hP
      have hD : va_D A (w_lat_8_1dac g a_lat a_co a_ju a_jb a_ch a_rd a_fr a_ub a_wr r_lat r_ju r_jb r_ch r_rd r_fr (vp_updL r_ub v3.toNatClampNeg y2) (vp_updL r_wr v3.toNatClampNeg y5)) := hD
      obtain ⟨x7, ex7⟩ : ∃ z : Int32, z = v3 + 1 := ⟨_, rfl⟩
      have hE := nm_at hE ex7
      refine lv_iinc (v := x7) (lv' := [(3, .int x7), (0, .ref a_ju), (2, .ref a_lat)]) hx hb d_Ju_init_91 hl (k := 2) rfl (by rw [ex7]; rfl) (by decide) rfl (fun ls hl => ?_)
      refine lv_goto (tgt := 62) hx hb d_Ju_init_94 (by decide) ?_
      exact ih _ _ _ _ _ _ _ _ _ _ _ _ hE hP hD hS (lv_sub hl [1, 2, 0] rfl)
set_option maxHeartbeats 4000000 in
set_option maxRecDepth 100000 in
theorem wl_Ju_init_60 {p : Program} {l : Launch} {e : Env} {s : State} {m : MethodId} {args : Array Value} {below : List Frame} {meth : Method} {c : Code} {A : Nat → Prop} {g : GT} {a_lat : Nat} {a_co : Nat} {a_ju : Nat} {a_jb : Nat} {a_ch : Nat} {a_rd : Nat} {a_fr : Nat} {a_ub : Nat} {a_wr : Nat} {y : (Nat → Int64) × (Nat → Int64)} (M : MX p s m args meth c b_Ju_init 4 none "MoveDesk$Judge" g A) (hin : meth.name = "<init>") : ∀ (r_lat : Nat → Int32) (r_ju : Nat → Int32) (r_jb : Nat → Int32) (r_ch : Nat → Int32) (r_rd : Nat → Int64) (r_fr : Nat → Int64) (r_ub : Nat → Int64) (r_wr : Nat → Int64)  (H : Heap) (locs : List Loc) (ls : Array Slot), some y = f_Ju_init_60 r_lat r_ju r_jb r_ch r_rd r_fr r_ub r_wr → va_P g.1 classes (w_lat_8_1dac g a_lat a_co a_ju a_jb a_ch a_rd a_fr a_ub a_wr r_lat r_ju r_jb r_ch r_rd r_fr r_ub r_wr) H → va_D A (w_lat_8_1dac g a_lat a_co a_ju a_jb a_ch a_rd a_fr a_ub a_wr r_lat r_ju r_jb r_ch r_rd r_fr r_ub r_wr) → va_S A s.heap H locs → lv_has ls 4 [(0, .ref a_ju), (2, .ref a_lat)] → W p l e rm_Ju_init s m args below meth c H locs 6 1230 (MQ below (QN g (fun q => (w_lat_8_1dac g a_lat a_co a_ju (q 0) (q 1) (q 2) (q 3) (q 4) (q 5) r_lat r_ju r_jb r_ch r_rd r_fr y.1 y.2)) A) args s 6 1230 A) (F0 m 60 ls []) := by
  obtain ⟨hx, hb, hr, hml, hown, hts, hlocks, hA, hK, hG⟩ := id M
  intro r_lat r_ju r_jb r_ch r_rd r_fr r_ub r_wr H locs ls hE hP hD hS hl
  rw [f_Ju_init_60] at hE
  refine lv_iconst (v := 0) hx hb d_Ju_init_60 (by decide) ?_
  refine lv_istore_n (lv' := [(3, .int 0), (0, .ref a_ju), (2, .ref a_lat)]) hx hb d_Ju_init_61 rfl hl (by decide) rfl (fun ls hl => ?_)
  exact wl_Ju_init_62 M hin 5000 _ _ _ _ _ _ _ _ _ _ _ _ hE hP hD hS (lv_sub hl [1, 2, 0] rfl)
set_option maxHeartbeats 4000000 in
set_option maxRecDepth 100000 in
theorem c_Ju_init (l : Launch) (g : GT) (a_ju : Nat) (a_co : Nat) (a_lat : Nat) (r_lat : Nat → Int32)  (y : (Nat → Int64) × (Nat → Int64)) (hy : some y = f_Ju_init r_lat) : CtN l y_Ju_init (.code y_Ju_init b_Ju_init 4 none) rm_Ju_init g [.ref a_ju, .ref a_co, .ref a_lat] [kO a_ju 2 [.null, .null, .null, .null, .null, .null, .null, .int 0, .int 0, .int 0], kI g a_lat 3 r_lat] (fun q => (w_lat_8_1dac g a_lat a_co a_ju (q 0) (q 1) (q 2) (q 3) (q 4) (q 5) r_lat z32 z32 z32 z64 z64 y.1 y.2)) 6 1230 := by
  refine ct_inN (C := "MoveDesk$Judge") rfl (by decide) rfl (Nat.le_of_ble_eq_true rfl) (fun p e s m below meth c A ls M hin hP hD hS hl => ?_)
  obtain ⟨hx, hb, hr, hml, hown, hts, hlocks, hA, hK, hG⟩ := id M
  have hl : lv_has ls 4 [(0, .ref a_ju), (1, .ref a_co), (2, .ref a_lat)] := hl
  refine lv_aload_n hx hb d_Ju_init_0 rfl (lv_at hl 0 rfl) ?_
  refine W.objInit hx hb hown (hts _ m_229) (hts _ m_25) (hts _ m_26) rfl (hl.1.trans hml.symm) rfl d_Ju_init_1 (by decide) (Nat.le_of_ble_eq_true rfl) ?_
  refine W.eq (g2 := F0 m 4 ls []) rfl ?_
  refine lv_aload_n hx hb d_Ju_init_4 rfl (lv_at hl 0 rfl) ?_
  refine va_new (ci := 0) (fs := [.int 0, .int 0, .int 0, .int 0, .int 0, .int 0, .int 0, .int 0]) (C := "MoveDesk$Bundle") (T := F_Bu) (N := 8) hx hb hts i_Bu t_Bu t_Bu_ok hown (hts _ m_230) (hts _ m_67) (hts _ m_5) hK hP hD hS hA rfl (fun j hj => by rcases (show j = 0 ∨ j = 1 ∨ j = 2 ∨ j = 3 ∨ j = 4 ∨ j = 5 ∨ j = 6 ∨ j = 7 by omega) with rfl | rfl | rfl | rfl | rfl | rfl | rfl | rfl <;> rfl) (Nat.le_of_ble_eq_true rfl) (Nat.le_of_ble_eq_true rfl) d_Ju_init_5 (fun a_jb H hP hD hS => ?_)
  have hP : va_P g.1 classes [kO a_ju 2 [.null, .null, .null, .null, .null, .null, .null, .int 0, .int 0, .int 0], kI g a_lat 3 r_lat, kO a_jb 0 [.int 0, .int 0, .int 0, .int 0, .int 0, .int 0, .int 0, .int 0]] H := hP
  have hD : va_D A [kO a_ju 2 [.null, .null, .null, .null, .null, .null, .null, .int 0, .int 0, .int 0], kI g a_lat 3 r_lat, kO a_jb 0 [.int 0, .int 0, .int 0, .int 0, .int 0, .int 0, .int 0, .int 0]] := hD
  refine W.widen (k := 1) (n := 8) (by decide) (by decide) ?_
  refine lv_dup hx hb d_Ju_init_8 rfl ?_
  refine kIN (index := 13) (As := []) (rest := [.ref a_jb, .ref a_ju]) M hP hD hS hl.1 (c_Bu_init l g a_jb  ) nw_231 m_69 m_5 m_70 rfl hs_Bu_init rfl rfl rfl ⟨by decide, by decide⟩ ⟨Nat.le_of_ble_eq_true rfl, Nat.le_of_ble_eq_true rfl⟩ [2] [0, 1] rfl rfl rfl rfl (by decide) rfl (Nat.le_of_ble_eq_true rfl) d_Ju_init_9 (fun q9 H locs hP hD hS => ?_)
  have hP : va_P g.1 classes [kO a_ju 2 [.null, .null, .null, .null, .null, .null, .null, .int 0, .int 0, .int 0], kI g a_lat 3 r_lat, kO a_jb 0 [.int (z32 0), .int (z32 1), .int (z32 2), .int (z32 3), .int (z32 4), .int (z32 5), .int (z32 6), .int (z32 7)]] H := hP
  have hD : va_D A [kO a_ju 2 [.null, .null, .null, .null, .null, .null, .null, .int 0, .int 0, .int 0], kI g a_lat 3 r_lat, kO a_jb 0 [.int (z32 0), .int (z32 1), .int (z32 2), .int (z32 3), .int (z32 4), .int (z32 5), .int (z32 6), .int (z32 7)]] := hD
  refine W.widen (k := 1) (n := 8) (by decide) (by decide) ?_
  refine W.eq (g2 := F0 m 12 ls [.ref a_jb, .ref a_ju]) rfl ?_
  refine va_putF (D := g.1) (ci := 2) (v := .ref a_jb) (ty := .object "MoveDesk$Bundle") (C := "MoveDesk$Judge") (T := F_Ju) (N := 10) hx hb hts i_Ju t_Ju t_Ju_ok n_Ju hown hK hP hD hS 0 rfl rfl 1 (by decide) (hts _ m_240) (fun _ h9 => h9) rfl hin rfl (by decide +kernel) rfl rfl (Nat.le_of_ble_eq_true rfl) d_Ju_init_12 (fun H locs hP hD hS => ?_)
  have hP : va_P g.1 classes [kO a_ju 2 [.null, .ref a_jb, .null, .null, .null, .null, .null, .int 0, .int 0, .int 0], kI g a_lat 3 r_lat, kO a_jb 0 [.int (z32 0), .int (z32 1), .int (z32 2), .int (z32 3), .int (z32 4), .int (z32 5), .int (z32 6), .int (z32 7)]] H := hP
  have hD : va_D A [kO a_ju 2 [.null, .ref a_jb, .null, .null, .null, .null, .null, .int 0, .int 0, .int 0], kI g a_lat 3 r_lat, kO a_jb 0 [.int (z32 0), .int (z32 1), .int (z32 2), .int (z32 3), .int (z32 4), .int (z32 5), .int (z32 6), .int (z32 7)]] := hD
  refine lv_aload_n hx hb d_Ju_init_15 rfl (lv_at hl 0 rfl) ?_
  refine lv_bipush (v := 64) hx hb d_Ju_init_16 (by decide) ?_
  refine k_newI (N := 64) M hP hD hS m_59 (by decide) (by decide) (by decide) (Nat.le_of_ble_eq_true rfl) (Nat.le_of_ble_eq_true rfl) d_Ju_init_18 (fun a_ch H hP hD hS => ?_)
  have hP : va_P g.1 classes [kO a_ju 2 [.null, .ref a_jb, .null, .null, .null, .null, .null, .int 0, .int 0, .int 0], kI g a_lat 3 r_lat, kO a_jb 0 [.int (z32 0), .int (z32 1), .int (z32 2), .int (z32 3), .int (z32 4), .int (z32 5), .int (z32 6), .int (z32 7)], kI g a_ch 64 z32] H := hP
  have hD : va_D A [kO a_ju 2 [.null, .ref a_jb, .null, .null, .null, .null, .null, .int 0, .int 0, .int 0], kI g a_lat 3 r_lat, kO a_jb 0 [.int (z32 0), .int (z32 1), .int (z32 2), .int (z32 3), .int (z32 4), .int (z32 5), .int (z32 6), .int (z32 7)], kI g a_ch 64 z32] := hD
  refine W.widen (k := 2) (n := 72) (by decide) (by decide) ?_
  refine va_putF (D := g.1) (ci := 2) (v := .ref a_ch) (ty := .array .int) (C := "MoveDesk$Judge") (T := F_Ju) (N := 10) hx hb hts i_Ju t_Ju t_Ju_ok n_Ju hown hK hP hD hS 0 rfl rfl 2 (by decide) (hts _ m_241) (fun _ h9 => h9) rfl hin rfl (by decide +kernel) rfl rfl (Nat.le_of_ble_eq_true rfl) d_Ju_init_20 (fun H locs hP hD hS => ?_)
  have hP : va_P g.1 classes [kO a_ju 2 [.null, .ref a_jb, .ref a_ch, .null, .null, .null, .null, .int 0, .int 0, .int 0], kI g a_lat 3 r_lat, kO a_jb 0 [.int (z32 0), .int (z32 1), .int (z32 2), .int (z32 3), .int (z32 4), .int (z32 5), .int (z32 6), .int (z32 7)], kI g a_ch 64 z32] H := hP
  have hD : va_D A [kO a_ju 2 [.null, .ref a_jb, .ref a_ch, .null, .null, .null, .null, .int 0, .int 0, .int 0], kI g a_lat 3 r_lat, kO a_jb 0 [.int (z32 0), .int (z32 1), .int (z32 2), .int (z32 3), .int (z32 4), .int (z32 5), .int (z32 6), .int (z32 7)], kI g a_ch 64 z32] := hD
  refine lv_aload_n hx hb d_Ju_init_23 rfl (lv_at hl 0 rfl) ?_
  refine lv_sipush (v := 576) hx hb d_Ju_init_24 (by decide) ?_
  refine k_newJ (N := 576) M hP hD hS m_270 (by decide) (by decide) (by decide) (Nat.le_of_ble_eq_true rfl) (Nat.le_of_ble_eq_true rfl) d_Ju_init_27 (fun a_rd H hP hD hS => ?_)
  have hP : va_P g.1 classes [kO a_ju 2 [.null, .ref a_jb, .ref a_ch, .null, .null, .null, .null, .int 0, .int 0, .int 0], kI g a_lat 3 r_lat, kO a_jb 0 [.int (z32 0), .int (z32 1), .int (z32 2), .int (z32 3), .int (z32 4), .int (z32 5), .int (z32 6), .int (z32 7)], kI g a_ch 64 z32, kJ g a_rd 576 z64] H := hP
  have hD : va_D A [kO a_ju 2 [.null, .ref a_jb, .ref a_ch, .null, .null, .null, .null, .int 0, .int 0, .int 0], kI g a_lat 3 r_lat, kO a_jb 0 [.int (z32 0), .int (z32 1), .int (z32 2), .int (z32 3), .int (z32 4), .int (z32 5), .int (z32 6), .int (z32 7)], kI g a_ch 64 z32, kJ g a_rd 576 z64] := hD
  refine W.widen (k := 3) (n := 648) (by decide) (by decide) ?_
  refine va_putF (D := g.1) (ci := 2) (v := .ref a_rd) (ty := .array .long) (C := "MoveDesk$Judge") (T := F_Ju) (N := 10) hx hb hts i_Ju t_Ju t_Ju_ok n_Ju hown hK hP hD hS 0 rfl rfl 3 (by decide) (hts _ m_242) (fun _ h9 => h9) rfl hin rfl (by decide +kernel) rfl rfl (Nat.le_of_ble_eq_true rfl) d_Ju_init_29 (fun H locs hP hD hS => ?_)
  have hP : va_P g.1 classes [kO a_ju 2 [.null, .ref a_jb, .ref a_ch, .ref a_rd, .null, .null, .null, .int 0, .int 0, .int 0], kI g a_lat 3 r_lat, kO a_jb 0 [.int (z32 0), .int (z32 1), .int (z32 2), .int (z32 3), .int (z32 4), .int (z32 5), .int (z32 6), .int (z32 7)], kI g a_ch 64 z32, kJ g a_rd 576 z64] H := hP
  have hD : va_D A [kO a_ju 2 [.null, .ref a_jb, .ref a_ch, .ref a_rd, .null, .null, .null, .int 0, .int 0, .int 0], kI g a_lat 3 r_lat, kO a_jb 0 [.int (z32 0), .int (z32 1), .int (z32 2), .int (z32 3), .int (z32 4), .int (z32 5), .int (z32 6), .int (z32 7)], kI g a_ch 64 z32, kJ g a_rd 576 z64] := hD
  refine lv_aload_n hx hb d_Ju_init_32 rfl (lv_at hl 0 rfl) ?_
  refine lv_sipush (v := 576) hx hb d_Ju_init_33 (by decide) ?_
  refine k_newJ (N := 576) M hP hD hS m_270 (by decide) (by decide) (by decide) (Nat.le_of_ble_eq_true rfl) (Nat.le_of_ble_eq_true rfl) d_Ju_init_36 (fun a_fr H hP hD hS => ?_)
  have hP : va_P g.1 classes [kO a_ju 2 [.null, .ref a_jb, .ref a_ch, .ref a_rd, .null, .null, .null, .int 0, .int 0, .int 0], kI g a_lat 3 r_lat, kO a_jb 0 [.int (z32 0), .int (z32 1), .int (z32 2), .int (z32 3), .int (z32 4), .int (z32 5), .int (z32 6), .int (z32 7)], kI g a_ch 64 z32, kJ g a_rd 576 z64, kJ g a_fr 576 z64] H := hP
  have hD : va_D A [kO a_ju 2 [.null, .ref a_jb, .ref a_ch, .ref a_rd, .null, .null, .null, .int 0, .int 0, .int 0], kI g a_lat 3 r_lat, kO a_jb 0 [.int (z32 0), .int (z32 1), .int (z32 2), .int (z32 3), .int (z32 4), .int (z32 5), .int (z32 6), .int (z32 7)], kI g a_ch 64 z32, kJ g a_rd 576 z64, kJ g a_fr 576 z64] := hD
  refine W.widen (k := 4) (n := 1224) (by decide) (by decide) ?_
  refine va_putF (D := g.1) (ci := 2) (v := .ref a_fr) (ty := .array .long) (C := "MoveDesk$Judge") (T := F_Ju) (N := 10) hx hb hts i_Ju t_Ju t_Ju_ok n_Ju hown hK hP hD hS 0 rfl rfl 4 (by decide) (hts _ m_243) (fun _ h9 => h9) rfl hin rfl (by decide +kernel) rfl rfl (Nat.le_of_ble_eq_true rfl) d_Ju_init_38 (fun H locs hP hD hS => ?_)
  have hP : va_P g.1 classes [kO a_ju 2 [.null, .ref a_jb, .ref a_ch, .ref a_rd, .ref a_fr, .null, .null, .int 0, .int 0, .int 0], kI g a_lat 3 r_lat, kO a_jb 0 [.int (z32 0), .int (z32 1), .int (z32 2), .int (z32 3), .int (z32 4), .int (z32 5), .int (z32 6), .int (z32 7)], kI g a_ch 64 z32, kJ g a_rd 576 z64, kJ g a_fr 576 z64] H := hP
  have hD : va_D A [kO a_ju 2 [.null, .ref a_jb, .ref a_ch, .ref a_rd, .ref a_fr, .null, .null, .int 0, .int 0, .int 0], kI g a_lat 3 r_lat, kO a_jb 0 [.int (z32 0), .int (z32 1), .int (z32 2), .int (z32 3), .int (z32 4), .int (z32 5), .int (z32 6), .int (z32 7)], kI g a_ch 64 z32, kJ g a_rd 576 z64, kJ g a_fr 576 z64] := hD
  refine lv_aload_n hx hb d_Ju_init_41 rfl (lv_at hl 0 rfl) ?_
  refine lv_iconst (v := 3) hx hb d_Ju_init_42 (by decide) ?_
  refine k_newJ (N := 3) M hP hD hS m_270 (by decide) (by decide) (by decide) (Nat.le_of_ble_eq_true rfl) (Nat.le_of_ble_eq_true rfl) d_Ju_init_43 (fun a_ub H hP hD hS => ?_)
  have hP : va_P g.1 classes [kO a_ju 2 [.null, .ref a_jb, .ref a_ch, .ref a_rd, .ref a_fr, .null, .null, .int 0, .int 0, .int 0], kI g a_lat 3 r_lat, kO a_jb 0 [.int (z32 0), .int (z32 1), .int (z32 2), .int (z32 3), .int (z32 4), .int (z32 5), .int (z32 6), .int (z32 7)], kI g a_ch 64 z32, kJ g a_rd 576 z64, kJ g a_fr 576 z64, kJ g a_ub 3 z64] H := hP
  have hD : va_D A [kO a_ju 2 [.null, .ref a_jb, .ref a_ch, .ref a_rd, .ref a_fr, .null, .null, .int 0, .int 0, .int 0], kI g a_lat 3 r_lat, kO a_jb 0 [.int (z32 0), .int (z32 1), .int (z32 2), .int (z32 3), .int (z32 4), .int (z32 5), .int (z32 6), .int (z32 7)], kI g a_ch 64 z32, kJ g a_rd 576 z64, kJ g a_fr 576 z64, kJ g a_ub 3 z64] := hD
  refine W.widen (k := 5) (n := 1227) (by decide) (by decide) ?_
  refine va_putF (D := g.1) (ci := 2) (v := .ref a_ub) (ty := .array .long) (C := "MoveDesk$Judge") (T := F_Ju) (N := 10) hx hb hts i_Ju t_Ju t_Ju_ok n_Ju hown hK hP hD hS 0 rfl rfl 5 (by decide) (hts _ m_244) (fun _ h9 => h9) rfl hin rfl (by decide +kernel) rfl rfl (Nat.le_of_ble_eq_true rfl) d_Ju_init_45 (fun H locs hP hD hS => ?_)
  have hP : va_P g.1 classes [kO a_ju 2 [.null, .ref a_jb, .ref a_ch, .ref a_rd, .ref a_fr, .ref a_ub, .null, .int 0, .int 0, .int 0], kI g a_lat 3 r_lat, kO a_jb 0 [.int (z32 0), .int (z32 1), .int (z32 2), .int (z32 3), .int (z32 4), .int (z32 5), .int (z32 6), .int (z32 7)], kI g a_ch 64 z32, kJ g a_rd 576 z64, kJ g a_fr 576 z64, kJ g a_ub 3 z64] H := hP
  have hD : va_D A [kO a_ju 2 [.null, .ref a_jb, .ref a_ch, .ref a_rd, .ref a_fr, .ref a_ub, .null, .int 0, .int 0, .int 0], kI g a_lat 3 r_lat, kO a_jb 0 [.int (z32 0), .int (z32 1), .int (z32 2), .int (z32 3), .int (z32 4), .int (z32 5), .int (z32 6), .int (z32 7)], kI g a_ch 64 z32, kJ g a_rd 576 z64, kJ g a_fr 576 z64, kJ g a_ub 3 z64] := hD
  refine lv_aload_n hx hb d_Ju_init_48 rfl (lv_at hl 0 rfl) ?_
  refine lv_iconst (v := 3) hx hb d_Ju_init_49 (by decide) ?_
  refine k_newJ (N := 3) M hP hD hS m_270 (by decide) (by decide) (by decide) (Nat.le_of_ble_eq_true rfl) (Nat.le_of_ble_eq_true rfl) d_Ju_init_50 (fun a_wr H hP hD hS => ?_)
  have hP : va_P g.1 classes [kO a_ju 2 [.null, .ref a_jb, .ref a_ch, .ref a_rd, .ref a_fr, .ref a_ub, .null, .int 0, .int 0, .int 0], kI g a_lat 3 r_lat, kO a_jb 0 [.int (z32 0), .int (z32 1), .int (z32 2), .int (z32 3), .int (z32 4), .int (z32 5), .int (z32 6), .int (z32 7)], kI g a_ch 64 z32, kJ g a_rd 576 z64, kJ g a_fr 576 z64, kJ g a_ub 3 z64, kJ g a_wr 3 z64] H := hP
  have hD : va_D A [kO a_ju 2 [.null, .ref a_jb, .ref a_ch, .ref a_rd, .ref a_fr, .ref a_ub, .null, .int 0, .int 0, .int 0], kI g a_lat 3 r_lat, kO a_jb 0 [.int (z32 0), .int (z32 1), .int (z32 2), .int (z32 3), .int (z32 4), .int (z32 5), .int (z32 6), .int (z32 7)], kI g a_ch 64 z32, kJ g a_rd 576 z64, kJ g a_fr 576 z64, kJ g a_ub 3 z64, kJ g a_wr 3 z64] := hD
  refine W.widen (k := 6) (n := 1230) (by decide) (by decide) ?_
  refine va_putF (D := g.1) (ci := 2) (v := .ref a_wr) (ty := .array .long) (C := "MoveDesk$Judge") (T := F_Ju) (N := 10) hx hb hts i_Ju t_Ju t_Ju_ok n_Ju hown hK hP hD hS 0 rfl rfl 6 (by decide) (hts _ m_245) (fun _ h9 => h9) rfl hin rfl (by decide +kernel) rfl rfl (Nat.le_of_ble_eq_true rfl) d_Ju_init_52 (fun H locs hP hD hS => ?_)
  have hP : va_P g.1 classes [kO a_ju 2 [.null, .ref a_jb, .ref a_ch, .ref a_rd, .ref a_fr, .ref a_ub, .ref a_wr, .int 0, .int 0, .int 0], kI g a_lat 3 r_lat, kO a_jb 0 [.int (z32 0), .int (z32 1), .int (z32 2), .int (z32 3), .int (z32 4), .int (z32 5), .int (z32 6), .int (z32 7)], kI g a_ch 64 z32, kJ g a_rd 576 z64, kJ g a_fr 576 z64, kJ g a_ub 3 z64, kJ g a_wr 3 z64] H := hP
  have hD : va_D A [kO a_ju 2 [.null, .ref a_jb, .ref a_ch, .ref a_rd, .ref a_fr, .ref a_ub, .ref a_wr, .int 0, .int 0, .int 0], kI g a_lat 3 r_lat, kO a_jb 0 [.int (z32 0), .int (z32 1), .int (z32 2), .int (z32 3), .int (z32 4), .int (z32 5), .int (z32 6), .int (z32 7)], kI g a_ch 64 z32, kJ g a_rd 576 z64, kJ g a_fr 576 z64, kJ g a_ub 3 z64, kJ g a_wr 3 z64] := hD
  refine lv_aload_n hx hb d_Ju_init_55 rfl (lv_at hl 0 rfl) ?_
  refine lv_aload_n hx hb d_Ju_init_56 rfl (lv_at hl 1 rfl) ?_
  refine va_putF (D := g.1) (ci := 2) (v := .ref a_co) (ty := .object "MoveDesk$Code") (C := "MoveDesk$Judge") (T := F_Ju) (N := 10) hx hb hts i_Ju t_Ju t_Ju_ok n_Ju hown hK hP hD hS 0 rfl rfl 0 (by decide) (hts _ m_239) (fun _ h9 => h9) rfl hin rfl (by decide +kernel) rfl rfl (Nat.le_of_ble_eq_true rfl) d_Ju_init_57 (fun H locs hP hD hS => ?_)
  have hP : va_P g.1 classes [kO a_ju 2 [.ref a_co, .ref a_jb, .ref a_ch, .ref a_rd, .ref a_fr, .ref a_ub, .ref a_wr, .int 0, .int 0, .int 0], kI g a_lat 3 r_lat, kO a_jb 0 [.int (z32 0), .int (z32 1), .int (z32 2), .int (z32 3), .int (z32 4), .int (z32 5), .int (z32 6), .int (z32 7)], kI g a_ch 64 z32, kJ g a_rd 576 z64, kJ g a_fr 576 z64, kJ g a_ub 3 z64, kJ g a_wr 3 z64] H := hP
  have hD : va_D A [kO a_ju 2 [.ref a_co, .ref a_jb, .ref a_ch, .ref a_rd, .ref a_fr, .ref a_ub, .ref a_wr, .int 0, .int 0, .int 0], kI g a_lat 3 r_lat, kO a_jb 0 [.int (z32 0), .int (z32 1), .int (z32 2), .int (z32 3), .int (z32 4), .int (z32 5), .int (z32 6), .int (z32 7)], kI g a_ch 64 z32, kJ g a_rd 576 z64, kJ g a_fr 576 z64, kJ g a_ub 3 z64, kJ g a_wr 3 z64] := hD
  have hP9 := P_map (ws' := (w_lat_8_1dac g a_lat a_co a_ju a_jb a_ch a_rd a_fr a_ub a_wr r_lat z32 z32 z32 z64 z64 z64 z64)) hP [1, 0, 2, 3, 4, 5, 6, 7] rfl
  have hD9 := hD.sub (ws' := (w_lat_8_1dac g a_lat a_co a_ju a_jb a_ch a_rd a_fr a_ub a_wr r_lat z32 z32 z32 z64 z64 z64 z64)) [1, 0, 2, 3, 4, 5, 6, 7] rfl rfl
  have hE := hy
  rw [f_Ju_init] at hE
  exact wl_Ju_init_60 M hin _ _ _ _ _ _ _ _ _ _ _ hE hP9 hD9 hS (lv_sub hl [0, 2] rfl)
abbrev rm_Md_init : Room := { frames := 3, cells := 38, slots := 2900, locals := 55 }
set_option maxHeartbeats 4000000 in
set_option maxRecDepth 100000 in
theorem c_Md_init (l : Launch) (g : GT) (a_md : Nat)  (v1 : Int32) (v2 : Int32) (v3 : Int32) (z_Ju_init : (Nat → Int64) × (Nat → Int64)) (hz_Ju_init : some z_Ju_init = f_Ju_init (upd (upd (upd z32 0 1) 1 (if (1 : Int32) < (if v2 < (4 : Int32) then v2 else (4 : Int32)) then (if v2 < (4 : Int32) then v2 else (4 : Int32)) else (1 : Int32))) 2 (if (1 : Int32) < (if v3 < (3 : Int32) then v3 else (3 : Int32)) then (if v3 < (3 : Int32) then v3 else (3 : Int32)) else (1 : Int32)))) : CtN l y_Md_init (.code y_Md_init b_Md_init 5 none) rm_Md_init g [.ref a_md, .int v1, .int v2, .int v3] [kO a_md 6 [.null, .null, .null, .null, .null, .int 0, .int 0]] (fun q => (w_md_39_9e6d g a_md (q 0) (q 1) (q 2) (q 3) (q 4) (q 5) (q 6) (q 7) (q 8) (q 9) (q 10) (q 11) (q 12) (q 13) (q 14) (q 15) (q 16) (q 17) (q 18) (q 19) (q 20) (q 21) (q 22) (q 23) (q 24) (q 25) (q 26) (q 27) (q 28) (q 29) (q 30) (q 31) (q 32) (q 33) (q 34) (q 35) (q 36) (q 37) (upd (upd z32 5 0) 6 0) (upd (upd (upd z32 0 1) 1 (if (1 : Int32) < (if v2 < (4 : Int32) then v2 else (4 : Int32)) then (if v2 < (4 : Int32) then v2 else (4 : Int32)) else (1 : Int32))) 2 (if (1 : Int32) < (if v3 < (3 : Int32) then v3 else (3 : Int32)) then (if v3 < (3 : Int32) then v3 else (3 : Int32)) else (1 : Int32))) (upd z32 0 (if (2 : Int32) < (if v1 < (4 : Int32) then v1 else (4 : Int32)) then (if v1 < (4 : Int32) then v1 else (4 : Int32)) else (2 : Int32))) z32 z32 z32 z32 z32 z32 z32 z32 z32 z32 z32 z32 z32 z32 z32 z32 z32 z32 z32 z32 z32 z32 z32 z32 z32 z32 z32 z32 z32 z32 z32 z64 z64 z_Ju_init.1 z_Ju_init.2)) 38 2900 := by
  refine ct_inN (C := "MoveDesk") rfl (by decide) rfl (Nat.le_of_ble_eq_true rfl) (fun p e s m below meth c A ls M hin hP hD hS hl => ?_)
  obtain ⟨hx, hb, hr, hml, hown, hts, hlocks, hA, hK, hG⟩ := id M
  have hl : lv_has ls 5 [(0, .ref a_md), (1, .int v1), (2, .int v2), (3, .int v3)] := hl
  refine lv_aload_n hx hb d_Md_init_0 rfl (lv_at hl 0 rfl) ?_
  refine W.objInit hx hb hown (hts _ m_24) (hts _ m_25) (hts _ m_26) rfl (hl.1.trans hml.symm) rfl d_Md_init_1 (by decide) (Nat.le_of_ble_eq_true rfl) ?_
  refine W.eq (g2 := F0 m 4 ls []) rfl ?_
  refine lv_iconst (v := 3) hx hb d_Md_init_4 (by decide) ?_
  refine k_newI (N := 3) M hP hD hS m_59 (by decide) (by decide) (by decide) (Nat.le_of_ble_eq_true rfl) (Nat.le_of_ble_eq_true rfl) d_Md_init_5 (fun a_lat H hP hD hS => ?_)
  have hP : va_P g.1 classes [kO a_md 6 [.null, .null, .null, .null, .null, .int 0, .int 0], kI g a_lat 3 z32] H := hP
  have hD : va_D A [kO a_md 6 [.null, .null, .null, .null, .null, .int 0, .int 0], kI g a_lat 3 z32] := hD
  refine W.widen (k := 1) (n := 3) (by decide) (by decide) ?_
  refine lv_astore (lv' := [(4, .ref a_lat), (0, .ref a_md), (1, .int v1), (2, .int v2), (3, .int v3)]) hx hb d_Md_init_7 hl (by decide) rfl (fun ls hl => ?_)
  refine lv_aload hx hb d_Md_init_9 (lv_at hl 0 rfl) ?_
  refine lv_iconst (v := 0) hx hb d_Md_init_11 (by decide) ?_
  refine lv_iconst (v := 1) hx hb d_Md_init_12 (by decide) ?_
  refine va_iast hx hb hK hP hD hS 1 0 rfl rfl (show ¬ ((0 : Int32) < 0 ∨ 3 ≤ (0 : Int32).toNatClampNeg) by decide) d_Md_init_13 (fun H locs hP hD hS => ?_)
  have hP : va_P g.1 classes [kO a_md 6 [.null, .null, .null, .null, .null, .int 0, .int 0], kI g a_lat 3 (upd z32 0 1)] H := hP
  have hD : va_D A [kO a_md 6 [.null, .null, .null, .null, .null, .int 0, .int 0], kI g a_lat 3 (upd z32 0 1)] := hD
  refine lv_aload hx hb d_Md_init_14 (lv_at hl 0 rfl) ?_
  refine lv_iconst (v := 1) hx hb d_Md_init_16 (by decide) ?_
  refine lv_iconst (v := 1) hx hb d_Md_init_17 (by decide) ?_
  refine lv_iconst (v := 4) hx hb d_Md_init_18 (by decide) ?_
  refine lv_iload_n hx hb d_Md_init_19 rfl (lv_at hl 3 rfl) ?_
  refine va_mmin hx hb (hml.trans hl.1.symm) hown (hts _ m_27) (hts _ m_28) (hts _ m_2) (hts _ m_29) (by decide) (Nat.le_of_ble_eq_true rfl) (by decide) (by decide) d_Md_init_20 ?_
  refine va_mmax hx hb (hml.trans hl.1.symm) hown (hts _ m_30) (hts _ m_31) (hts _ m_2) (hts _ m_32) (by decide) (Nat.le_of_ble_eq_true rfl) (by decide) (by decide) d_Md_init_23 ?_
  refine va_iast hx hb hK hP hD hS 1 0 rfl rfl (show ¬ ((1 : Int32) < 0 ∨ 3 ≤ (1 : Int32).toNatClampNeg) by decide) d_Md_init_26 (fun H locs hP hD hS => ?_)
  have hP : va_P g.1 classes [kO a_md 6 [.null, .null, .null, .null, .null, .int 0, .int 0], kI g a_lat 3 (upd (upd z32 0 1) 1 (if (1 : Int32) < (if v2 < (4 : Int32) then v2 else (4 : Int32)) then (if v2 < (4 : Int32) then v2 else (4 : Int32)) else (1 : Int32)))] H := hP
  have hD : va_D A [kO a_md 6 [.null, .null, .null, .null, .null, .int 0, .int 0], kI g a_lat 3 (upd (upd z32 0 1) 1 (if (1 : Int32) < (if v2 < (4 : Int32) then v2 else (4 : Int32)) then (if v2 < (4 : Int32) then v2 else (4 : Int32)) else (1 : Int32)))] := hD
  refine lv_aload hx hb d_Md_init_27 (lv_at hl 0 rfl) ?_
  refine lv_iconst (v := 2) hx hb d_Md_init_29 (by decide) ?_
  refine lv_iconst (v := 1) hx hb d_Md_init_30 (by decide) ?_
  refine lv_iconst (v := 3) hx hb d_Md_init_31 (by decide) ?_
  refine lv_iload_n hx hb d_Md_init_32 rfl (lv_at hl 4 rfl) ?_
  refine va_mmin hx hb (hml.trans hl.1.symm) hown (hts _ m_27) (hts _ m_28) (hts _ m_2) (hts _ m_29) (by decide) (Nat.le_of_ble_eq_true rfl) (by decide) (by decide) d_Md_init_33 ?_
  refine va_mmax hx hb (hml.trans hl.1.symm) hown (hts _ m_30) (hts _ m_31) (hts _ m_2) (hts _ m_32) (by decide) (Nat.le_of_ble_eq_true rfl) (by decide) (by decide) d_Md_init_36 ?_
  refine va_iast hx hb hK hP hD hS 1 0 rfl rfl (show ¬ ((2 : Int32) < 0 ∨ 3 ≤ (2 : Int32).toNatClampNeg) by decide) d_Md_init_39 (fun H locs hP hD hS => ?_)
  have hP : va_P g.1 classes [kO a_md 6 [.null, .null, .null, .null, .null, .int 0, .int 0], kI g a_lat 3 (upd (upd (upd z32 0 1) 1 (if (1 : Int32) < (if v2 < (4 : Int32) then v2 else (4 : Int32)) then (if v2 < (4 : Int32) then v2 else (4 : Int32)) else (1 : Int32))) 2 (if (1 : Int32) < (if v3 < (3 : Int32) then v3 else (3 : Int32)) then (if v3 < (3 : Int32) then v3 else (3 : Int32)) else (1 : Int32)))] H := hP
  have hD : va_D A [kO a_md 6 [.null, .null, .null, .null, .null, .int 0, .int 0], kI g a_lat 3 (upd (upd (upd z32 0 1) 1 (if (1 : Int32) < (if v2 < (4 : Int32) then v2 else (4 : Int32)) then (if v2 < (4 : Int32) then v2 else (4 : Int32)) else (1 : Int32))) 2 (if (1 : Int32) < (if v3 < (3 : Int32) then v3 else (3 : Int32)) then (if v3 < (3 : Int32) then v3 else (3 : Int32)) else (1 : Int32)))] := hD
  refine lv_aload_n hx hb d_Md_init_40 rfl (lv_at hl 1 rfl) ?_
  refine va_new (ci := 1) (fs := [.int 0, .null, .null, .null, .null, .null]) (C := "MoveDesk$Code") (T := F_Co) (N := 6) hx hb hts i_Co t_Co t_Co_ok hown (hts _ m_33) (hts _ m_34) (hts _ m_3) hK hP hD hS hA rfl (fun j hj => by rcases (show j = 0 ∨ j = 1 ∨ j = 2 ∨ j = 3 ∨ j = 4 ∨ j = 5 by omega) with rfl | rfl | rfl | rfl | rfl | rfl <;> rfl) (Nat.le_of_ble_eq_true rfl) (Nat.le_of_ble_eq_true rfl) d_Md_init_41 (fun a_co H hP hD hS => ?_)
  have hP : va_P g.1 classes [kO a_md 6 [.null, .null, .null, .null, .null, .int 0, .int 0], kI g a_lat 3 (upd (upd (upd z32 0 1) 1 (if (1 : Int32) < (if v2 < (4 : Int32) then v2 else (4 : Int32)) then (if v2 < (4 : Int32) then v2 else (4 : Int32)) else (1 : Int32))) 2 (if (1 : Int32) < (if v3 < (3 : Int32) then v3 else (3 : Int32)) then (if v3 < (3 : Int32) then v3 else (3 : Int32)) else (1 : Int32))), kO a_co 1 [.int 0, .null, .null, .null, .null, .null]] H := hP
  have hD : va_D A [kO a_md 6 [.null, .null, .null, .null, .null, .int 0, .int 0], kI g a_lat 3 (upd (upd (upd z32 0 1) 1 (if (1 : Int32) < (if v2 < (4 : Int32) then v2 else (4 : Int32)) then (if v2 < (4 : Int32) then v2 else (4 : Int32)) else (1 : Int32))) 2 (if (1 : Int32) < (if v3 < (3 : Int32) then v3 else (3 : Int32)) then (if v3 < (3 : Int32) then v3 else (3 : Int32)) else (1 : Int32))), kO a_co 1 [.int 0, .null, .null, .null, .null, .null]] := hD
  refine W.widen (k := 2) (n := 9) (by decide) (by decide) ?_
  refine lv_dup hx hb d_Md_init_44 rfl ?_
  refine lv_iconst (v := 2) hx hb d_Md_init_45 (by decide) ?_
  refine lv_iconst (v := 4) hx hb d_Md_init_46 (by decide) ?_
  refine lv_iload_n hx hb d_Md_init_47 rfl (lv_at hl 2 rfl) ?_
  refine va_mmin hx hb (hml.trans hl.1.symm) hown (hts _ m_27) (hts _ m_28) (hts _ m_2) (hts _ m_29) (by decide) (Nat.le_of_ble_eq_true rfl) (by decide) (by decide) d_Md_init_48 ?_
  refine va_mmax hx hb (hml.trans hl.1.symm) hown (hts _ m_30) (hts _ m_31) (hts _ m_2) (hts _ m_32) (by decide) (Nat.le_of_ble_eq_true rfl) (by decide) (by decide) d_Md_init_51 ?_
  refine kI_ (index := 20) (As := [.int (if (2 : Int32) < (if v1 < (4 : Int32) then v1 else (4 : Int32)) then (if v1 < (4 : Int32) then v1 else (4 : Int32)) else (2 : Int32))]) (rest := [.ref a_co, .ref a_md]) M hP hD hS hl.1 (c_Co_init l g a_co  (if (2 : Int32) < (if v1 < (4 : Int32) then v1 else (4 : Int32)) then (if v1 < (4 : Int32) then v1 else (4 : Int32)) else (2 : Int32))) m_35 m_36 m_3 m_37 rfl hs_Co_init rfl rfl rfl ⟨by decide, by decide⟩ ⟨Nat.le_of_ble_eq_true rfl, Nat.le_of_ble_eq_true rfl⟩ [2] [0, 1] rfl rfl rfl rfl (by decide) rfl (Nat.le_of_ble_eq_true rfl) d_Md_init_54 (fun q54 H locs hP hD hS => ?_)
  generalize q54 0 = a_ta at hP hD
  generalize q54 1 = a_gu at hP hD
  generalize q54 2 = a_so at hP hD
  generalize q54 3 = a_cn at hP hD
  generalize q54 4 = a_de at hP hD
  have hP : va_P g.1 classes [kO a_md 6 [.null, .null, .null, .null, .null, .int 0, .int 0], kI g a_lat 3 (upd (upd (upd z32 0 1) 1 (if (1 : Int32) < (if v2 < (4 : Int32) then v2 else (4 : Int32)) then (if v2 < (4 : Int32) then v2 else (4 : Int32)) else (1 : Int32))) 2 (if (1 : Int32) < (if v3 < (3 : Int32) then v3 else (3 : Int32)) then (if v3 < (3 : Int32) then v3 else (3 : Int32)) else (1 : Int32))), kO a_co 1 [.int ((upd z32 0 (if (2 : Int32) < (if v1 < (4 : Int32) then v1 else (4 : Int32)) then (if v1 < (4 : Int32) then v1 else (4 : Int32)) else (2 : Int32))) 0), .ref a_ta, .ref a_gu, .ref a_so, .ref a_cn, .ref a_de], kI g a_ta 64 z32, kI g a_gu 256 z32, kI g a_so 256 z32, kI g a_cn 256 z32, kI g a_de 256 z32] H := hP
  have hD : va_D A [kO a_md 6 [.null, .null, .null, .null, .null, .int 0, .int 0], kI g a_lat 3 (upd (upd (upd z32 0 1) 1 (if (1 : Int32) < (if v2 < (4 : Int32) then v2 else (4 : Int32)) then (if v2 < (4 : Int32) then v2 else (4 : Int32)) else (1 : Int32))) 2 (if (1 : Int32) < (if v3 < (3 : Int32) then v3 else (3 : Int32)) then (if v3 < (3 : Int32) then v3 else (3 : Int32)) else (1 : Int32))), kO a_co 1 [.int ((upd z32 0 (if (2 : Int32) < (if v1 < (4 : Int32) then v1 else (4 : Int32)) then (if v1 < (4 : Int32) then v1 else (4 : Int32)) else (2 : Int32))) 0), .ref a_ta, .ref a_gu, .ref a_so, .ref a_cn, .ref a_de], kI g a_ta 64 z32, kI g a_gu 256 z32, kI g a_so 256 z32, kI g a_cn 256 z32, kI g a_de 256 z32] := hD
  refine W.widen (k := 7) (n := 1097) (by decide) (by decide) ?_
  refine W.eq (g2 := F0 m 57 ls [.ref a_co, .ref a_md]) rfl ?_
  refine va_putF (D := g.1) (ci := 6) (v := .ref a_co) (ty := .object "MoveDesk$Code") (C := "MoveDesk") (T := F_Md) (N := 7) hx hb hts i_Md t_Md t_Md_ok n_Md hown hK hP hD hS 0 rfl rfl 0 (by decide) (hts _ m_271) (fun _ h9 => h9) rfl hin rfl (by decide +kernel) rfl rfl (Nat.le_of_ble_eq_true rfl) d_Md_init_57 (fun H locs hP hD hS => ?_)
  have hP : va_P g.1 classes [kO a_md 6 [.ref a_co, .null, .null, .null, .null, .int 0, .int 0], kI g a_lat 3 (upd (upd (upd z32 0 1) 1 (if (1 : Int32) < (if v2 < (4 : Int32) then v2 else (4 : Int32)) then (if v2 < (4 : Int32) then v2 else (4 : Int32)) else (1 : Int32))) 2 (if (1 : Int32) < (if v3 < (3 : Int32) then v3 else (3 : Int32)) then (if v3 < (3 : Int32) then v3 else (3 : Int32)) else (1 : Int32))), kO a_co 1 [.int ((upd z32 0 (if (2 : Int32) < (if v1 < (4 : Int32) then v1 else (4 : Int32)) then (if v1 < (4 : Int32) then v1 else (4 : Int32)) else (2 : Int32))) 0), .ref a_ta, .ref a_gu, .ref a_so, .ref a_cn, .ref a_de], kI g a_ta 64 z32, kI g a_gu 256 z32, kI g a_so 256 z32, kI g a_cn 256 z32, kI g a_de 256 z32] H := hP
  have hD : va_D A [kO a_md 6 [.ref a_co, .null, .null, .null, .null, .int 0, .int 0], kI g a_lat 3 (upd (upd (upd z32 0 1) 1 (if (1 : Int32) < (if v2 < (4 : Int32) then v2 else (4 : Int32)) then (if v2 < (4 : Int32) then v2 else (4 : Int32)) else (1 : Int32))) 2 (if (1 : Int32) < (if v3 < (3 : Int32) then v3 else (3 : Int32)) then (if v3 < (3 : Int32) then v3 else (3 : Int32)) else (1 : Int32))), kO a_co 1 [.int ((upd z32 0 (if (2 : Int32) < (if v1 < (4 : Int32) then v1 else (4 : Int32)) then (if v1 < (4 : Int32) then v1 else (4 : Int32)) else (2 : Int32))) 0), .ref a_ta, .ref a_gu, .ref a_so, .ref a_cn, .ref a_de], kI g a_ta 64 z32, kI g a_gu 256 z32, kI g a_so 256 z32, kI g a_cn 256 z32, kI g a_de 256 z32] := hD
  refine lv_aload_n hx hb d_Md_init_60 rfl (lv_at hl 1 rfl) ?_
  refine va_new (ci := 3) (fs := [.null, .null, .null, .null, .null, .null, .null, .null, .int 0, .int 0, .int 0, .int 0, .int 0, .int 0, .int 0, .int 0]) (C := "MoveDesk$Machine") (T := F_Ma) (N := 16) hx hb hts i_Ma t_Ma t_Ma_ok hown (hts _ m_60) (hts _ m_61) (hts _ m_4) hK hP hD hS hA rfl (fun j hj => by rcases (show j = 0 ∨ j = 1 ∨ j = 2 ∨ j = 3 ∨ j = 4 ∨ j = 5 ∨ j = 6 ∨ j = 7 ∨ j = 8 ∨ j = 9 ∨ j = 10 ∨ j = 11 ∨ j = 12 ∨ j = 13 ∨ j = 14 ∨ j = 15 by omega) with rfl | rfl | rfl | rfl | rfl | rfl | rfl | rfl | rfl | rfl | rfl | rfl | rfl | rfl | rfl | rfl <;> rfl) (Nat.le_of_ble_eq_true rfl) (Nat.le_of_ble_eq_true rfl) d_Md_init_61 (fun a_ma H hP hD hS => ?_)
  have hP : va_P g.1 classes [kO a_md 6 [.ref a_co, .null, .null, .null, .null, .int 0, .int 0], kI g a_lat 3 (upd (upd (upd z32 0 1) 1 (if (1 : Int32) < (if v2 < (4 : Int32) then v2 else (4 : Int32)) then (if v2 < (4 : Int32) then v2 else (4 : Int32)) else (1 : Int32))) 2 (if (1 : Int32) < (if v3 < (3 : Int32) then v3 else (3 : Int32)) then (if v3 < (3 : Int32) then v3 else (3 : Int32)) else (1 : Int32))), kO a_co 1 [.int ((upd z32 0 (if (2 : Int32) < (if v1 < (4 : Int32) then v1 else (4 : Int32)) then (if v1 < (4 : Int32) then v1 else (4 : Int32)) else (2 : Int32))) 0), .ref a_ta, .ref a_gu, .ref a_so, .ref a_cn, .ref a_de], kI g a_ta 64 z32, kI g a_gu 256 z32, kI g a_so 256 z32, kI g a_cn 256 z32, kI g a_de 256 z32, kO a_ma 3 [.null, .null, .null, .null, .null, .null, .null, .null, .int 0, .int 0, .int 0, .int 0, .int 0, .int 0, .int 0, .int 0]] H := hP
  have hD : va_D A [kO a_md 6 [.ref a_co, .null, .null, .null, .null, .int 0, .int 0], kI g a_lat 3 (upd (upd (upd z32 0 1) 1 (if (1 : Int32) < (if v2 < (4 : Int32) then v2 else (4 : Int32)) then (if v2 < (4 : Int32) then v2 else (4 : Int32)) else (1 : Int32))) 2 (if (1 : Int32) < (if v3 < (3 : Int32) then v3 else (3 : Int32)) then (if v3 < (3 : Int32) then v3 else (3 : Int32)) else (1 : Int32))), kO a_co 1 [.int ((upd z32 0 (if (2 : Int32) < (if v1 < (4 : Int32) then v1 else (4 : Int32)) then (if v1 < (4 : Int32) then v1 else (4 : Int32)) else (2 : Int32))) 0), .ref a_ta, .ref a_gu, .ref a_so, .ref a_cn, .ref a_de], kI g a_ta 64 z32, kI g a_gu 256 z32, kI g a_so 256 z32, kI g a_cn 256 z32, kI g a_de 256 z32, kO a_ma 3 [.null, .null, .null, .null, .null, .null, .null, .null, .int 0, .int 0, .int 0, .int 0, .int 0, .int 0, .int 0, .int 0]] := hD
  refine W.widen (k := 8) (n := 1113) (by decide) (by decide) ?_
  refine lv_dup hx hb d_Md_init_64 rfl ?_
  refine lv_aload_n hx hb d_Md_init_65 rfl (lv_at hl 1 rfl) ?_
  refine va_get (D := g.1) (ci := 6) (v := .ref a_co) (C := "MoveDesk") (T := F_Md) (N := 7) hx hb hts i_Md hown hK hP 0 rfl rfl 0 (by decide) (hts _ m_271) (fun _ h9 => h9) rfl d_Md_init_66 ?_
  refine lv_aload hx hb d_Md_init_69 (lv_at hl 0 rfl) ?_
  refine kI_ (index := 29) (As := [.ref a_co, .ref a_lat]) (rest := [.ref a_ma, .ref a_md]) M hP hD hS hl.1 (c_Ma_init l g a_ma a_co a_lat  ) m_62 m_63 m_4 m_64 rfl hs_Ma_init rfl rfl rfl ⟨by decide, by decide⟩ ⟨Nat.le_of_ble_eq_true rfl, Nat.le_of_ble_eq_true rfl⟩ [8] [0, 1, 2, 3, 4, 5, 6, 7] rfl rfl rfl rfl (by decide) rfl (Nat.le_of_ble_eq_true rfl) d_Md_init_71 (fun q71 H locs hP hD hS => ?_)
  generalize q71 0 = a_bu at hP hD
  generalize q71 1 = a_wo at hP hD
  generalize q71 2 = a_od at hP hD
  generalize q71 3 = a_rs at hP hD
  generalize q71 4 = a_ca at hP hD
  generalize q71 5 = a_cm at hP hD
  have hP : va_P g.1 classes [kO a_md 6 [.ref a_co, .null, .null, .null, .null, .int 0, .int 0], kI g a_lat 3 (upd (upd (upd z32 0 1) 1 (if (1 : Int32) < (if v2 < (4 : Int32) then v2 else (4 : Int32)) then (if v2 < (4 : Int32) then v2 else (4 : Int32)) else (1 : Int32))) 2 (if (1 : Int32) < (if v3 < (3 : Int32) then v3 else (3 : Int32)) then (if v3 < (3 : Int32) then v3 else (3 : Int32)) else (1 : Int32))), kO a_co 1 [.int ((upd z32 0 (if (2 : Int32) < (if v1 < (4 : Int32) then v1 else (4 : Int32)) then (if v1 < (4 : Int32) then v1 else (4 : Int32)) else (2 : Int32))) 0), .ref a_ta, .ref a_gu, .ref a_so, .ref a_cn, .ref a_de], kI g a_ta 64 z32, kI g a_gu 256 z32, kI g a_so 256 z32, kI g a_cn 256 z32, kI g a_de 256 z32, kO a_ma 3 [.ref a_co, .ref a_lat, .ref a_bu, .ref a_wo, .ref a_od, .ref a_rs, .ref a_ca, .ref a_cm, .int (z32 8), .int (z32 9), .int (z32 10), .int (z32 11), .int (z32 12), .int (z32 13), .int (z32 14), .int (z32 15)], kO a_bu 0 [.int (z32 0), .int (z32 1), .int (z32 2), .int (z32 3), .int (z32 4), .int (z32 5), .int (z32 6), .int (z32 7)], kI g a_wo 72 z32, kI g a_od 3 z32, kI g a_rs 3 z32, kI g a_ca 4 z32, kI g a_cm 12 z32] H := hP
  have hD : va_D A [kO a_md 6 [.ref a_co, .null, .null, .null, .null, .int 0, .int 0], kI g a_lat 3 (upd (upd (upd z32 0 1) 1 (if (1 : Int32) < (if v2 < (4 : Int32) then v2 else (4 : Int32)) then (if v2 < (4 : Int32) then v2 else (4 : Int32)) else (1 : Int32))) 2 (if (1 : Int32) < (if v3 < (3 : Int32) then v3 else (3 : Int32)) then (if v3 < (3 : Int32) then v3 else (3 : Int32)) else (1 : Int32))), kO a_co 1 [.int ((upd z32 0 (if (2 : Int32) < (if v1 < (4 : Int32) then v1 else (4 : Int32)) then (if v1 < (4 : Int32) then v1 else (4 : Int32)) else (2 : Int32))) 0), .ref a_ta, .ref a_gu, .ref a_so, .ref a_cn, .ref a_de], kI g a_ta 64 z32, kI g a_gu 256 z32, kI g a_so 256 z32, kI g a_cn 256 z32, kI g a_de 256 z32, kO a_ma 3 [.ref a_co, .ref a_lat, .ref a_bu, .ref a_wo, .ref a_od, .ref a_rs, .ref a_ca, .ref a_cm, .int (z32 8), .int (z32 9), .int (z32 10), .int (z32 11), .int (z32 12), .int (z32 13), .int (z32 14), .int (z32 15)], kO a_bu 0 [.int (z32 0), .int (z32 1), .int (z32 2), .int (z32 3), .int (z32 4), .int (z32 5), .int (z32 6), .int (z32 7)], kI g a_wo 72 z32, kI g a_od 3 z32, kI g a_rs 3 z32, kI g a_ca 4 z32, kI g a_cm 12 z32] := hD
  refine W.widen (k := 14) (n := 1215) (by decide) (by decide) ?_
  refine W.eq (g2 := F0 m 74 ls [.ref a_ma, .ref a_md]) rfl ?_
  refine va_putF (D := g.1) (ci := 6) (v := .ref a_ma) (ty := .object "MoveDesk$Machine") (C := "MoveDesk") (T := F_Md) (N := 7) hx hb hts i_Md t_Md t_Md_ok n_Md hown hK hP hD hS 0 rfl rfl 1 (by decide) (hts _ m_272) (fun _ h9 => h9) rfl hin rfl (by decide +kernel) rfl rfl (Nat.le_of_ble_eq_true rfl) d_Md_init_74 (fun H locs hP hD hS => ?_)
  have hP : va_P g.1 classes [kO a_md 6 [.ref a_co, .ref a_ma, .null, .null, .null, .int 0, .int 0], kI g a_lat 3 (upd (upd (upd z32 0 1) 1 (if (1 : Int32) < (if v2 < (4 : Int32) then v2 else (4 : Int32)) then (if v2 < (4 : Int32) then v2 else (4 : Int32)) else (1 : Int32))) 2 (if (1 : Int32) < (if v3 < (3 : Int32) then v3 else (3 : Int32)) then (if v3 < (3 : Int32) then v3 else (3 : Int32)) else (1 : Int32))), kO a_co 1 [.int ((upd z32 0 (if (2 : Int32) < (if v1 < (4 : Int32) then v1 else (4 : Int32)) then (if v1 < (4 : Int32) then v1 else (4 : Int32)) else (2 : Int32))) 0), .ref a_ta, .ref a_gu, .ref a_so, .ref a_cn, .ref a_de], kI g a_ta 64 z32, kI g a_gu 256 z32, kI g a_so 256 z32, kI g a_cn 256 z32, kI g a_de 256 z32, kO a_ma 3 [.ref a_co, .ref a_lat, .ref a_bu, .ref a_wo, .ref a_od, .ref a_rs, .ref a_ca, .ref a_cm, .int (z32 8), .int (z32 9), .int (z32 10), .int (z32 11), .int (z32 12), .int (z32 13), .int (z32 14), .int (z32 15)], kO a_bu 0 [.int (z32 0), .int (z32 1), .int (z32 2), .int (z32 3), .int (z32 4), .int (z32 5), .int (z32 6), .int (z32 7)], kI g a_wo 72 z32, kI g a_od 3 z32, kI g a_rs 3 z32, kI g a_ca 4 z32, kI g a_cm 12 z32] H := hP
  have hD : va_D A [kO a_md 6 [.ref a_co, .ref a_ma, .null, .null, .null, .int 0, .int 0], kI g a_lat 3 (upd (upd (upd z32 0 1) 1 (if (1 : Int32) < (if v2 < (4 : Int32) then v2 else (4 : Int32)) then (if v2 < (4 : Int32) then v2 else (4 : Int32)) else (1 : Int32))) 2 (if (1 : Int32) < (if v3 < (3 : Int32) then v3 else (3 : Int32)) then (if v3 < (3 : Int32) then v3 else (3 : Int32)) else (1 : Int32))), kO a_co 1 [.int ((upd z32 0 (if (2 : Int32) < (if v1 < (4 : Int32) then v1 else (4 : Int32)) then (if v1 < (4 : Int32) then v1 else (4 : Int32)) else (2 : Int32))) 0), .ref a_ta, .ref a_gu, .ref a_so, .ref a_cn, .ref a_de], kI g a_ta 64 z32, kI g a_gu 256 z32, kI g a_so 256 z32, kI g a_cn 256 z32, kI g a_de 256 z32, kO a_ma 3 [.ref a_co, .ref a_lat, .ref a_bu, .ref a_wo, .ref a_od, .ref a_rs, .ref a_ca, .ref a_cm, .int (z32 8), .int (z32 9), .int (z32 10), .int (z32 11), .int (z32 12), .int (z32 13), .int (z32 14), .int (z32 15)], kO a_bu 0 [.int (z32 0), .int (z32 1), .int (z32 2), .int (z32 3), .int (z32 4), .int (z32 5), .int (z32 6), .int (z32 7)], kI g a_wo 72 z32, kI g a_od 3 z32, kI g a_rs 3 z32, kI g a_ca 4 z32, kI g a_cm 12 z32] := hD
  refine lv_aload_n hx hb d_Md_init_77 rfl (lv_at hl 1 rfl) ?_
  refine va_new (ci := 4) (fs := [.null, .null, .null, .null, .null, .null, .int 0]) (C := "MoveDesk$Operations") (T := F_Op) (N := 7) hx hb hts i_Op t_Op t_Op_ok hown (hts _ m_152) (hts _ m_153) (hts _ m_6) hK hP hD hS hA rfl (fun j hj => by rcases (show j = 0 ∨ j = 1 ∨ j = 2 ∨ j = 3 ∨ j = 4 ∨ j = 5 ∨ j = 6 by omega) with rfl | rfl | rfl | rfl | rfl | rfl | rfl <;> rfl) (Nat.le_of_ble_eq_true rfl) (Nat.le_of_ble_eq_true rfl) d_Md_init_78 (fun a_op H hP hD hS => ?_)
  have hP : va_P g.1 classes [kO a_md 6 [.ref a_co, .ref a_ma, .null, .null, .null, .int 0, .int 0], kI g a_lat 3 (upd (upd (upd z32 0 1) 1 (if (1 : Int32) < (if v2 < (4 : Int32) then v2 else (4 : Int32)) then (if v2 < (4 : Int32) then v2 else (4 : Int32)) else (1 : Int32))) 2 (if (1 : Int32) < (if v3 < (3 : Int32) then v3 else (3 : Int32)) then (if v3 < (3 : Int32) then v3 else (3 : Int32)) else (1 : Int32))), kO a_co 1 [.int ((upd z32 0 (if (2 : Int32) < (if v1 < (4 : Int32) then v1 else (4 : Int32)) then (if v1 < (4 : Int32) then v1 else (4 : Int32)) else (2 : Int32))) 0), .ref a_ta, .ref a_gu, .ref a_so, .ref a_cn, .ref a_de], kI g a_ta 64 z32, kI g a_gu 256 z32, kI g a_so 256 z32, kI g a_cn 256 z32, kI g a_de 256 z32, kO a_ma 3 [.ref a_co, .ref a_lat, .ref a_bu, .ref a_wo, .ref a_od, .ref a_rs, .ref a_ca, .ref a_cm, .int (z32 8), .int (z32 9), .int (z32 10), .int (z32 11), .int (z32 12), .int (z32 13), .int (z32 14), .int (z32 15)], kO a_bu 0 [.int (z32 0), .int (z32 1), .int (z32 2), .int (z32 3), .int (z32 4), .int (z32 5), .int (z32 6), .int (z32 7)], kI g a_wo 72 z32, kI g a_od 3 z32, kI g a_rs 3 z32, kI g a_ca 4 z32, kI g a_cm 12 z32, kO a_op 4 [.null, .null, .null, .null, .null, .null, .int 0]] H := hP
  have hD : va_D A [kO a_md 6 [.ref a_co, .ref a_ma, .null, .null, .null, .int 0, .int 0], kI g a_lat 3 (upd (upd (upd z32 0 1) 1 (if (1 : Int32) < (if v2 < (4 : Int32) then v2 else (4 : Int32)) then (if v2 < (4 : Int32) then v2 else (4 : Int32)) else (1 : Int32))) 2 (if (1 : Int32) < (if v3 < (3 : Int32) then v3 else (3 : Int32)) then (if v3 < (3 : Int32) then v3 else (3 : Int32)) else (1 : Int32))), kO a_co 1 [.int ((upd z32 0 (if (2 : Int32) < (if v1 < (4 : Int32) then v1 else (4 : Int32)) then (if v1 < (4 : Int32) then v1 else (4 : Int32)) else (2 : Int32))) 0), .ref a_ta, .ref a_gu, .ref a_so, .ref a_cn, .ref a_de], kI g a_ta 64 z32, kI g a_gu 256 z32, kI g a_so 256 z32, kI g a_cn 256 z32, kI g a_de 256 z32, kO a_ma 3 [.ref a_co, .ref a_lat, .ref a_bu, .ref a_wo, .ref a_od, .ref a_rs, .ref a_ca, .ref a_cm, .int (z32 8), .int (z32 9), .int (z32 10), .int (z32 11), .int (z32 12), .int (z32 13), .int (z32 14), .int (z32 15)], kO a_bu 0 [.int (z32 0), .int (z32 1), .int (z32 2), .int (z32 3), .int (z32 4), .int (z32 5), .int (z32 6), .int (z32 7)], kI g a_wo 72 z32, kI g a_od 3 z32, kI g a_rs 3 z32, kI g a_ca 4 z32, kI g a_cm 12 z32, kO a_op 4 [.null, .null, .null, .null, .null, .null, .int 0]] := hD
  refine W.widen (k := 15) (n := 1222) (by decide) (by decide) ?_
  refine lv_dup hx hb d_Md_init_81 rfl ?_
  refine kIN (index := 38) (As := []) (rest := [.ref a_op, .ref a_md]) M hP hD hS hl.1 (c_Op_init l g a_op  ) nw_154 m_155 m_6 m_156 rfl hs_Op_init rfl rfl rfl ⟨by decide, by decide⟩ ⟨Nat.le_of_ble_eq_true rfl, Nat.le_of_ble_eq_true rfl⟩ [15] [0, 1, 2, 3, 4, 5, 6, 7, 8, 9, 10, 11, 12, 13, 14] rfl rfl rfl rfl (by decide) rfl (Nat.le_of_ble_eq_true rfl) d_Md_init_82 (fun q82 H locs hP hD hS => ?_)
  generalize q82 0 = a_ki at hP hD
  generalize q82 1 = a_tg at hP hD
  generalize q82 2 = a_fi at hP hD
  generalize q82 3 = a_se at hP hD
  generalize q82 4 = a_oc at hP hD
  generalize q82 5 = a_cp at hP hD
  have hP : va_P g.1 classes [kO a_md 6 [.ref a_co, .ref a_ma, .null, .null, .null, .int 0, .int 0], kI g a_lat 3 (upd (upd (upd z32 0 1) 1 (if (1 : Int32) < (if v2 < (4 : Int32) then v2 else (4 : Int32)) then (if v2 < (4 : Int32) then v2 else (4 : Int32)) else (1 : Int32))) 2 (if (1 : Int32) < (if v3 < (3 : Int32) then v3 else (3 : Int32)) then (if v3 < (3 : Int32) then v3 else (3 : Int32)) else (1 : Int32))), kO a_co 1 [.int ((upd z32 0 (if (2 : Int32) < (if v1 < (4 : Int32) then v1 else (4 : Int32)) then (if v1 < (4 : Int32) then v1 else (4 : Int32)) else (2 : Int32))) 0), .ref a_ta, .ref a_gu, .ref a_so, .ref a_cn, .ref a_de], kI g a_ta 64 z32, kI g a_gu 256 z32, kI g a_so 256 z32, kI g a_cn 256 z32, kI g a_de 256 z32, kO a_ma 3 [.ref a_co, .ref a_lat, .ref a_bu, .ref a_wo, .ref a_od, .ref a_rs, .ref a_ca, .ref a_cm, .int (z32 8), .int (z32 9), .int (z32 10), .int (z32 11), .int (z32 12), .int (z32 13), .int (z32 14), .int (z32 15)], kO a_bu 0 [.int (z32 0), .int (z32 1), .int (z32 2), .int (z32 3), .int (z32 4), .int (z32 5), .int (z32 6), .int (z32 7)], kI g a_wo 72 z32, kI g a_od 3 z32, kI g a_rs 3 z32, kI g a_ca 4 z32, kI g a_cm 12 z32, kO a_op 4 [.ref a_ki, .ref a_tg, .ref a_fi, .ref a_se, .ref a_oc, .ref a_cp, .int (z32 6)], kI g a_ki 20 z32, kI g a_tg 20 z32, kI g a_fi 20 z32, kI g a_se 20 z32, kI g a_oc 20 z32, kI g a_cp 72 z32] H := hP
  have hD : va_D A [kO a_md 6 [.ref a_co, .ref a_ma, .null, .null, .null, .int 0, .int 0], kI g a_lat 3 (upd (upd (upd z32 0 1) 1 (if (1 : Int32) < (if v2 < (4 : Int32) then v2 else (4 : Int32)) then (if v2 < (4 : Int32) then v2 else (4 : Int32)) else (1 : Int32))) 2 (if (1 : Int32) < (if v3 < (3 : Int32) then v3 else (3 : Int32)) then (if v3 < (3 : Int32) then v3 else (3 : Int32)) else (1 : Int32))), kO a_co 1 [.int ((upd z32 0 (if (2 : Int32) < (if v1 < (4 : Int32) then v1 else (4 : Int32)) then (if v1 < (4 : Int32) then v1 else (4 : Int32)) else (2 : Int32))) 0), .ref a_ta, .ref a_gu, .ref a_so, .ref a_cn, .ref a_de], kI g a_ta 64 z32, kI g a_gu 256 z32, kI g a_so 256 z32, kI g a_cn 256 z32, kI g a_de 256 z32, kO a_ma 3 [.ref a_co, .ref a_lat, .ref a_bu, .ref a_wo, .ref a_od, .ref a_rs, .ref a_ca, .ref a_cm, .int (z32 8), .int (z32 9), .int (z32 10), .int (z32 11), .int (z32 12), .int (z32 13), .int (z32 14), .int (z32 15)], kO a_bu 0 [.int (z32 0), .int (z32 1), .int (z32 2), .int (z32 3), .int (z32 4), .int (z32 5), .int (z32 6), .int (z32 7)], kI g a_wo 72 z32, kI g a_od 3 z32, kI g a_rs 3 z32, kI g a_ca 4 z32, kI g a_cm 12 z32, kO a_op 4 [.ref a_ki, .ref a_tg, .ref a_fi, .ref a_se, .ref a_oc, .ref a_cp, .int (z32 6)], kI g a_ki 20 z32, kI g a_tg 20 z32, kI g a_fi 20 z32, kI g a_se 20 z32, kI g a_oc 20 z32, kI g a_cp 72 z32] := hD
  refine W.widen (k := 21) (n := 1394) (by decide) (by decide) ?_
  refine W.eq (g2 := F0 m 85 ls [.ref a_op, .ref a_md]) rfl ?_
  refine va_putF (D := g.1) (ci := 6) (v := .ref a_op) (ty := .object "MoveDesk$Operations") (C := "MoveDesk") (T := F_Md) (N := 7) hx hb hts i_Md t_Md t_Md_ok n_Md hown hK hP hD hS 0 rfl rfl 2 (by decide) (hts _ m_273) (fun _ h9 => h9) rfl hin rfl (by decide +kernel) rfl rfl (Nat.le_of_ble_eq_true rfl) d_Md_init_85 (fun H locs hP hD hS => ?_)
  have hP : va_P g.1 classes [kO a_md 6 [.ref a_co, .ref a_ma, .ref a_op, .null, .null, .int 0, .int 0], kI g a_lat 3 (upd (upd (upd z32 0 1) 1 (if (1 : Int32) < (if v2 < (4 : Int32) then v2 else (4 : Int32)) then (if v2 < (4 : Int32) then v2 else (4 : Int32)) else (1 : Int32))) 2 (if (1 : Int32) < (if v3 < (3 : Int32) then v3 else (3 : Int32)) then (if v3 < (3 : Int32) then v3 else (3 : Int32)) else (1 : Int32))), kO a_co 1 [.int ((upd z32 0 (if (2 : Int32) < (if v1 < (4 : Int32) then v1 else (4 : Int32)) then (if v1 < (4 : Int32) then v1 else (4 : Int32)) else (2 : Int32))) 0), .ref a_ta, .ref a_gu, .ref a_so, .ref a_cn, .ref a_de], kI g a_ta 64 z32, kI g a_gu 256 z32, kI g a_so 256 z32, kI g a_cn 256 z32, kI g a_de 256 z32, kO a_ma 3 [.ref a_co, .ref a_lat, .ref a_bu, .ref a_wo, .ref a_od, .ref a_rs, .ref a_ca, .ref a_cm, .int (z32 8), .int (z32 9), .int (z32 10), .int (z32 11), .int (z32 12), .int (z32 13), .int (z32 14), .int (z32 15)], kO a_bu 0 [.int (z32 0), .int (z32 1), .int (z32 2), .int (z32 3), .int (z32 4), .int (z32 5), .int (z32 6), .int (z32 7)], kI g a_wo 72 z32, kI g a_od 3 z32, kI g a_rs 3 z32, kI g a_ca 4 z32, kI g a_cm 12 z32, kO a_op 4 [.ref a_ki, .ref a_tg, .ref a_fi, .ref a_se, .ref a_oc, .ref a_cp, .int (z32 6)], kI g a_ki 20 z32, kI g a_tg 20 z32, kI g a_fi 20 z32, kI g a_se 20 z32, kI g a_oc 20 z32, kI g a_cp 72 z32] H := hP
  have hD : va_D A [kO a_md 6 [.ref a_co, .ref a_ma, .ref a_op, .null, .null, .int 0, .int 0], kI g a_lat 3 (upd (upd (upd z32 0 1) 1 (if (1 : Int32) < (if v2 < (4 : Int32) then v2 else (4 : Int32)) then (if v2 < (4 : Int32) then v2 else (4 : Int32)) else (1 : Int32))) 2 (if (1 : Int32) < (if v3 < (3 : Int32) then v3 else (3 : Int32)) then (if v3 < (3 : Int32) then v3 else (3 : Int32)) else (1 : Int32))), kO a_co 1 [.int ((upd z32 0 (if (2 : Int32) < (if v1 < (4 : Int32) then v1 else (4 : Int32)) then (if v1 < (4 : Int32) then v1 else (4 : Int32)) else (2 : Int32))) 0), .ref a_ta, .ref a_gu, .ref a_so, .ref a_cn, .ref a_de], kI g a_ta 64 z32, kI g a_gu 256 z32, kI g a_so 256 z32, kI g a_cn 256 z32, kI g a_de 256 z32, kO a_ma 3 [.ref a_co, .ref a_lat, .ref a_bu, .ref a_wo, .ref a_od, .ref a_rs, .ref a_ca, .ref a_cm, .int (z32 8), .int (z32 9), .int (z32 10), .int (z32 11), .int (z32 12), .int (z32 13), .int (z32 14), .int (z32 15)], kO a_bu 0 [.int (z32 0), .int (z32 1), .int (z32 2), .int (z32 3), .int (z32 4), .int (z32 5), .int (z32 6), .int (z32 7)], kI g a_wo 72 z32, kI g a_od 3 z32, kI g a_rs 3 z32, kI g a_ca 4 z32, kI g a_cm 12 z32, kO a_op 4 [.ref a_ki, .ref a_tg, .ref a_fi, .ref a_se, .ref a_oc, .ref a_cp, .int (z32 6)], kI g a_ki 20 z32, kI g a_tg 20 z32, kI g a_fi 20 z32, kI g a_se 20 z32, kI g a_oc 20 z32, kI g a_cp 72 z32] := hD
  refine lv_aload_n hx hb d_Md_init_88 rfl (lv_at hl 1 rfl) ?_
  refine va_new (ci := 5) (fs := [.null, .null, .null, .null, .null, .null, .null, .null, .null, .null, .null, .null]) (C := "MoveDesk$Planner") (T := F_Pl) (N := 12) hx hb hts i_Pl t_Pl t_Pl_ok hown (hts _ m_180) (hts _ m_181) (hts _ m_7) hK hP hD hS hA rfl (fun j hj => by rcases (show j = 0 ∨ j = 1 ∨ j = 2 ∨ j = 3 ∨ j = 4 ∨ j = 5 ∨ j = 6 ∨ j = 7 ∨ j = 8 ∨ j = 9 ∨ j = 10 ∨ j = 11 by omega) with rfl | rfl | rfl | rfl | rfl | rfl | rfl | rfl | rfl | rfl | rfl | rfl <;> rfl) (Nat.le_of_ble_eq_true rfl) (Nat.le_of_ble_eq_true rfl) d_Md_init_89 (fun a_pl H hP hD hS => ?_)
  have hP : va_P g.1 classes [kO a_md 6 [.ref a_co, .ref a_ma, .ref a_op, .null, .null, .int 0, .int 0], kI g a_lat 3 (upd (upd (upd z32 0 1) 1 (if (1 : Int32) < (if v2 < (4 : Int32) then v2 else (4 : Int32)) then (if v2 < (4 : Int32) then v2 else (4 : Int32)) else (1 : Int32))) 2 (if (1 : Int32) < (if v3 < (3 : Int32) then v3 else (3 : Int32)) then (if v3 < (3 : Int32) then v3 else (3 : Int32)) else (1 : Int32))), kO a_co 1 [.int ((upd z32 0 (if (2 : Int32) < (if v1 < (4 : Int32) then v1 else (4 : Int32)) then (if v1 < (4 : Int32) then v1 else (4 : Int32)) else (2 : Int32))) 0), .ref a_ta, .ref a_gu, .ref a_so, .ref a_cn, .ref a_de], kI g a_ta 64 z32, kI g a_gu 256 z32, kI g a_so 256 z32, kI g a_cn 256 z32, kI g a_de 256 z32, kO a_ma 3 [.ref a_co, .ref a_lat, .ref a_bu, .ref a_wo, .ref a_od, .ref a_rs, .ref a_ca, .ref a_cm, .int (z32 8), .int (z32 9), .int (z32 10), .int (z32 11), .int (z32 12), .int (z32 13), .int (z32 14), .int (z32 15)], kO a_bu 0 [.int (z32 0), .int (z32 1), .int (z32 2), .int (z32 3), .int (z32 4), .int (z32 5), .int (z32 6), .int (z32 7)], kI g a_wo 72 z32, kI g a_od 3 z32, kI g a_rs 3 z32, kI g a_ca 4 z32, kI g a_cm 12 z32, kO a_op 4 [.ref a_ki, .ref a_tg, .ref a_fi, .ref a_se, .ref a_oc, .ref a_cp, .int (z32 6)], kI g a_ki 20 z32, kI g a_tg 20 z32, kI g a_fi 20 z32, kI g a_se 20 z32, kI g a_oc 20 z32, kI g a_cp 72 z32, kO a_pl 5 [.null, .null, .null, .null, .null, .null, .null, .null, .null, .null, .null, .null]] H := hP
  have hD : va_D A [kO a_md 6 [.ref a_co, .ref a_ma, .ref a_op, .null, .null, .int 0, .int 0], kI g a_lat 3 (upd (upd (upd z32 0 1) 1 (if (1 : Int32) < (if v2 < (4 : Int32) then v2 else (4 : Int32)) then (if v2 < (4 : Int32) then v2 else (4 : Int32)) else (1 : Int32))) 2 (if (1 : Int32) < (if v3 < (3 : Int32) then v3 else (3 : Int32)) then (if v3 < (3 : Int32) then v3 else (3 : Int32)) else (1 : Int32))), kO a_co 1 [.int ((upd z32 0 (if (2 : Int32) < (if v1 < (4 : Int32) then v1 else (4 : Int32)) then (if v1 < (4 : Int32) then v1 else (4 : Int32)) else (2 : Int32))) 0), .ref a_ta, .ref a_gu, .ref a_so, .ref a_cn, .ref a_de], kI g a_ta 64 z32, kI g a_gu 256 z32, kI g a_so 256 z32, kI g a_cn 256 z32, kI g a_de 256 z32, kO a_ma 3 [.ref a_co, .ref a_lat, .ref a_bu, .ref a_wo, .ref a_od, .ref a_rs, .ref a_ca, .ref a_cm, .int (z32 8), .int (z32 9), .int (z32 10), .int (z32 11), .int (z32 12), .int (z32 13), .int (z32 14), .int (z32 15)], kO a_bu 0 [.int (z32 0), .int (z32 1), .int (z32 2), .int (z32 3), .int (z32 4), .int (z32 5), .int (z32 6), .int (z32 7)], kI g a_wo 72 z32, kI g a_od 3 z32, kI g a_rs 3 z32, kI g a_ca 4 z32, kI g a_cm 12 z32, kO a_op 4 [.ref a_ki, .ref a_tg, .ref a_fi, .ref a_se, .ref a_oc, .ref a_cp, .int (z32 6)], kI g a_ki 20 z32, kI g a_tg 20 z32, kI g a_fi 20 z32, kI g a_se 20 z32, kI g a_oc 20 z32, kI g a_cp 72 z32, kO a_pl 5 [.null, .null, .null, .null, .null, .null, .null, .null, .null, .null, .null, .null]] := hD
  refine W.widen (k := 22) (n := 1406) (by decide) (by decide) ?_
  refine lv_dup hx hb d_Md_init_92 rfl ?_
  refine lv_aload_n hx hb d_Md_init_93 rfl (lv_at hl 1 rfl) ?_
  refine va_get (D := g.1) (ci := 6) (v := .ref a_co) (C := "MoveDesk") (T := F_Md) (N := 7) hx hb hts i_Md hown hK hP 0 rfl rfl 0 (by decide) (hts _ m_271) (fun _ h9 => h9) rfl d_Md_init_94 ?_
  refine lv_aload_n hx hb d_Md_init_97 rfl (lv_at hl 1 rfl) ?_
  refine va_get (D := g.1) (ci := 6) (v := .ref a_op) (C := "MoveDesk") (T := F_Md) (N := 7) hx hb hts i_Md hown hK hP 0 rfl rfl 2 (by decide) (hts _ m_273) (fun _ h9 => h9) rfl d_Md_init_98 ?_
  refine lv_aload hx hb d_Md_init_101 (lv_at hl 0 rfl) ?_
  refine kI_ (index := 45) (As := [.ref a_co, .ref a_op, .ref a_lat]) (rest := [.ref a_pl, .ref a_md]) M hP hD hS hl.1 (c_Pl_init l g a_pl a_co a_op a_lat  ) m_182 m_183 m_7 m_184 rfl hs_Pl_init rfl rfl rfl ⟨by decide, by decide⟩ ⟨Nat.le_of_ble_eq_true rfl, Nat.le_of_ble_eq_true rfl⟩ [22] [0, 1, 2, 3, 4, 5, 6, 7, 8, 9, 10, 11, 12, 13, 14, 15, 16, 17, 18, 19, 20, 21] rfl rfl rfl rfl (by decide) rfl (Nat.le_of_ble_eq_true rfl) d_Md_init_103 (fun q103 H locs hP hD hS => ?_)
  generalize q103 0 = a_bs at hP hD
  generalize q103 1 = a_rr at hP hD
  generalize q103 2 = a_hr at hP hD
  generalize q103 3 = a_lw at hP hD
  generalize q103 4 = a_lr at hP hD
  generalize q103 5 = a_lt at hP hD
  generalize q103 6 = a_lm at hP hD
  generalize q103 7 = a_tc at hP hD
  generalize q103 8 = a_rc at hP hD
  have hP : va_P g.1 classes [kO a_md 6 [.ref a_co, .ref a_ma, .ref a_op, .null, .null, .int 0, .int 0], kI g a_lat 3 (upd (upd (upd z32 0 1) 1 (if (1 : Int32) < (if v2 < (4 : Int32) then v2 else (4 : Int32)) then (if v2 < (4 : Int32) then v2 else (4 : Int32)) else (1 : Int32))) 2 (if (1 : Int32) < (if v3 < (3 : Int32) then v3 else (3 : Int32)) then (if v3 < (3 : Int32) then v3 else (3 : Int32)) else (1 : Int32))), kO a_co 1 [.int ((upd z32 0 (if (2 : Int32) < (if v1 < (4 : Int32) then v1 else (4 : Int32)) then (if v1 < (4 : Int32) then v1 else (4 : Int32)) else (2 : Int32))) 0), .ref a_ta, .ref a_gu, .ref a_so, .ref a_cn, .ref a_de], kI g a_ta 64 z32, kI g a_gu 256 z32, kI g a_so 256 z32, kI g a_cn 256 z32, kI g a_de 256 z32, kO a_ma 3 [.ref a_co, .ref a_lat, .ref a_bu, .ref a_wo, .ref a_od, .ref a_rs, .ref a_ca, .ref a_cm, .int (z32 8), .int (z32 9), .int (z32 10), .int (z32 11), .int (z32 12), .int (z32 13), .int (z32 14), .int (z32 15)], kO a_bu 0 [.int (z32 0), .int (z32 1), .int (z32 2), .int (z32 3), .int (z32 4), .int (z32 5), .int (z32 6), .int (z32 7)], kI g a_wo 72 z32, kI g a_od 3 z32, kI g a_rs 3 z32, kI g a_ca 4 z32, kI g a_cm 12 z32, kO a_op 4 [.ref a_ki, .ref a_tg, .ref a_fi, .ref a_se, .ref a_oc, .ref a_cp, .int (z32 6)], kI g a_ki 20 z32, kI g a_tg 20 z32, kI g a_fi 20 z32, kI g a_se 20 z32, kI g a_oc 20 z32, kI g a_cp 72 z32, kO a_pl 5 [.ref a_co, .ref a_op, .ref a_lat, .ref a_bs, .ref a_rr, .ref a_hr, .ref a_lw, .ref a_lr, .ref a_lt, .ref a_lm, .ref a_tc, .ref a_rc], kI g a_bs 64 z32, kI g a_rr 64 z32, kZ g a_hr 64 z32, kI g a_lw 8 z32, kI g a_lr 8 z32, kI g a_lt 3 z32, kI g a_lm 3 z32, kI g a_tc 20 z32, kI g a_rc 20 z32] H := hP
  have hD : va_D A [kO a_md 6 [.ref a_co, .ref a_ma, .ref a_op, .null, .null, .int 0, .int 0], kI g a_lat 3 (upd (upd (upd z32 0 1) 1 (if (1 : Int32) < (if v2 < (4 : Int32) then v2 else (4 : Int32)) then (if v2 < (4 : Int32) then v2 else (4 : Int32)) else (1 : Int32))) 2 (if (1 : Int32) < (if v3 < (3 : Int32) then v3 else (3 : Int32)) then (if v3 < (3 : Int32) then v3 else (3 : Int32)) else (1 : Int32))), kO a_co 1 [.int ((upd z32 0 (if (2 : Int32) < (if v1 < (4 : Int32) then v1 else (4 : Int32)) then (if v1 < (4 : Int32) then v1 else (4 : Int32)) else (2 : Int32))) 0), .ref a_ta, .ref a_gu, .ref a_so, .ref a_cn, .ref a_de], kI g a_ta 64 z32, kI g a_gu 256 z32, kI g a_so 256 z32, kI g a_cn 256 z32, kI g a_de 256 z32, kO a_ma 3 [.ref a_co, .ref a_lat, .ref a_bu, .ref a_wo, .ref a_od, .ref a_rs, .ref a_ca, .ref a_cm, .int (z32 8), .int (z32 9), .int (z32 10), .int (z32 11), .int (z32 12), .int (z32 13), .int (z32 14), .int (z32 15)], kO a_bu 0 [.int (z32 0), .int (z32 1), .int (z32 2), .int (z32 3), .int (z32 4), .int (z32 5), .int (z32 6), .int (z32 7)], kI g a_wo 72 z32, kI g a_od 3 z32, kI g a_rs 3 z32, kI g a_ca 4 z32, kI g a_cm 12 z32, kO a_op 4 [.ref a_ki, .ref a_tg, .ref a_fi, .ref a_se, .ref a_oc, .ref a_cp, .int (z32 6)], kI g a_ki 20 z32, kI g a_tg 20 z32, kI g a_fi 20 z32, kI g a_se 20 z32, kI g a_oc 20 z32, kI g a_cp 72 z32, kO a_pl 5 [.ref a_co, .ref a_op, .ref a_lat, .ref a_bs, .ref a_rr, .ref a_hr, .ref a_lw, .ref a_lr, .ref a_lt, .ref a_lm, .ref a_tc, .ref a_rc], kI g a_bs 64 z32, kI g a_rr 64 z32, kZ g a_hr 64 z32, kI g a_lw 8 z32, kI g a_lr 8 z32, kI g a_lt 3 z32, kI g a_lm 3 z32, kI g a_tc 20 z32, kI g a_rc 20 z32] := hD
  refine W.widen (k := 31) (n := 1660) (by decide) (by decide) ?_
  refine W.eq (g2 := F0 m 106 ls [.ref a_pl, .ref a_md]) rfl ?_
  refine va_putF (D := g.1) (ci := 6) (v := .ref a_pl) (ty := .object "MoveDesk$Planner") (C := "MoveDesk") (T := F_Md) (N := 7) hx hb hts i_Md t_Md t_Md_ok n_Md hown hK hP hD hS 0 rfl rfl 3 (by decide) (hts _ m_274) (fun _ h9 => h9) rfl hin rfl (by decide +kernel) rfl rfl (Nat.le_of_ble_eq_true rfl) d_Md_init_106 (fun H locs hP hD hS => ?_)
  have hP : va_P g.1 classes [kO a_md 6 [.ref a_co, .ref a_ma, .ref a_op, .ref a_pl, .null, .int 0, .int 0], kI g a_lat 3 (upd (upd (upd z32 0 1) 1 (if (1 : Int32) < (if v2 < (4 : Int32) then v2 else (4 : Int32)) then (if v2 < (4 : Int32) then v2 else (4 : Int32)) else (1 : Int32))) 2 (if (1 : Int32) < (if v3 < (3 : Int32) then v3 else (3 : Int32)) then (if v3 < (3 : Int32) then v3 else (3 : Int32)) else (1 : Int32))), kO a_co 1 [.int ((upd z32 0 (if (2 : Int32) < (if v1 < (4 : Int32) then v1 else (4 : Int32)) then (if v1 < (4 : Int32) then v1 else (4 : Int32)) else (2 : Int32))) 0), .ref a_ta, .ref a_gu, .ref a_so, .ref a_cn, .ref a_de], kI g a_ta 64 z32, kI g a_gu 256 z32, kI g a_so 256 z32, kI g a_cn 256 z32, kI g a_de 256 z32, kO a_ma 3 [.ref a_co, .ref a_lat, .ref a_bu, .ref a_wo, .ref a_od, .ref a_rs, .ref a_ca, .ref a_cm, .int (z32 8), .int (z32 9), .int (z32 10), .int (z32 11), .int (z32 12), .int (z32 13), .int (z32 14), .int (z32 15)], kO a_bu 0 [.int (z32 0), .int (z32 1), .int (z32 2), .int (z32 3), .int (z32 4), .int (z32 5), .int (z32 6), .int (z32 7)], kI g a_wo 72 z32, kI g a_od 3 z32, kI g a_rs 3 z32, kI g a_ca 4 z32, kI g a_cm 12 z32, kO a_op 4 [.ref a_ki, .ref a_tg, .ref a_fi, .ref a_se, .ref a_oc, .ref a_cp, .int (z32 6)], kI g a_ki 20 z32, kI g a_tg 20 z32, kI g a_fi 20 z32, kI g a_se 20 z32, kI g a_oc 20 z32, kI g a_cp 72 z32, kO a_pl 5 [.ref a_co, .ref a_op, .ref a_lat, .ref a_bs, .ref a_rr, .ref a_hr, .ref a_lw, .ref a_lr, .ref a_lt, .ref a_lm, .ref a_tc, .ref a_rc], kI g a_bs 64 z32, kI g a_rr 64 z32, kZ g a_hr 64 z32, kI g a_lw 8 z32, kI g a_lr 8 z32, kI g a_lt 3 z32, kI g a_lm 3 z32, kI g a_tc 20 z32, kI g a_rc 20 z32] H := hP
  have hD : va_D A [kO a_md 6 [.ref a_co, .ref a_ma, .ref a_op, .ref a_pl, .null, .int 0, .int 0], kI g a_lat 3 (upd (upd (upd z32 0 1) 1 (if (1 : Int32) < (if v2 < (4 : Int32) then v2 else (4 : Int32)) then (if v2 < (4 : Int32) then v2 else (4 : Int32)) else (1 : Int32))) 2 (if (1 : Int32) < (if v3 < (3 : Int32) then v3 else (3 : Int32)) then (if v3 < (3 : Int32) then v3 else (3 : Int32)) else (1 : Int32))), kO a_co 1 [.int ((upd z32 0 (if (2 : Int32) < (if v1 < (4 : Int32) then v1 else (4 : Int32)) then (if v1 < (4 : Int32) then v1 else (4 : Int32)) else (2 : Int32))) 0), .ref a_ta, .ref a_gu, .ref a_so, .ref a_cn, .ref a_de], kI g a_ta 64 z32, kI g a_gu 256 z32, kI g a_so 256 z32, kI g a_cn 256 z32, kI g a_de 256 z32, kO a_ma 3 [.ref a_co, .ref a_lat, .ref a_bu, .ref a_wo, .ref a_od, .ref a_rs, .ref a_ca, .ref a_cm, .int (z32 8), .int (z32 9), .int (z32 10), .int (z32 11), .int (z32 12), .int (z32 13), .int (z32 14), .int (z32 15)], kO a_bu 0 [.int (z32 0), .int (z32 1), .int (z32 2), .int (z32 3), .int (z32 4), .int (z32 5), .int (z32 6), .int (z32 7)], kI g a_wo 72 z32, kI g a_od 3 z32, kI g a_rs 3 z32, kI g a_ca 4 z32, kI g a_cm 12 z32, kO a_op 4 [.ref a_ki, .ref a_tg, .ref a_fi, .ref a_se, .ref a_oc, .ref a_cp, .int (z32 6)], kI g a_ki 20 z32, kI g a_tg 20 z32, kI g a_fi 20 z32, kI g a_se 20 z32, kI g a_oc 20 z32, kI g a_cp 72 z32, kO a_pl 5 [.ref a_co, .ref a_op, .ref a_lat, .ref a_bs, .ref a_rr, .ref a_hr, .ref a_lw, .ref a_lr, .ref a_lt, .ref a_lm, .ref a_tc, .ref a_rc], kI g a_bs 64 z32, kI g a_rr 64 z32, kZ g a_hr 64 z32, kI g a_lw 8 z32, kI g a_lr 8 z32, kI g a_lt 3 z32, kI g a_lm 3 z32, kI g a_tc 20 z32, kI g a_rc 20 z32] := hD
  refine lv_aload_n hx hb d_Md_init_109 rfl (lv_at hl 1 rfl) ?_
  refine va_new (ci := 2) (fs := [.null, .null, .null, .null, .null, .null, .null, .int 0, .int 0, .int 0]) (C := "MoveDesk$Judge") (T := F_Ju) (N := 10) hx hb hts i_Ju t_Ju t_Ju_ok hown (hts _ m_224) (hts _ m_225) (hts _ m_8) hK hP hD hS hA rfl (fun j hj => by rcases (show j = 0 ∨ j = 1 ∨ j = 2 ∨ j = 3 ∨ j = 4 ∨ j = 5 ∨ j = 6 ∨ j = 7 ∨ j = 8 ∨ j = 9 by omega) with rfl | rfl | rfl | rfl | rfl | rfl | rfl | rfl | rfl | rfl <;> rfl) (Nat.le_of_ble_eq_true rfl) (Nat.le_of_ble_eq_true rfl) d_Md_init_110 (fun a_ju H hP hD hS => ?_)
  have hP : va_P g.1 classes [kO a_md 6 [.ref a_co, .ref a_ma, .ref a_op, .ref a_pl, .null, .int 0, .int 0], kI g a_lat 3 (upd (upd (upd z32 0 1) 1 (if (1 : Int32) < (if v2 < (4 : Int32) then v2 else (4 : Int32)) then (if v2 < (4 : Int32) then v2 else (4 : Int32)) else (1 : Int32))) 2 (if (1 : Int32) < (if v3 < (3 : Int32) then v3 else (3 : Int32)) then (if v3 < (3 : Int32) then v3 else (3 : Int32)) else (1 : Int32))), kO a_co 1 [.int ((upd z32 0 (if (2 : Int32) < (if v1 < (4 : Int32) then v1 else (4 : Int32)) then (if v1 < (4 : Int32) then v1 else (4 : Int32)) else (2 : Int32))) 0), .ref a_ta, .ref a_gu, .ref a_so, .ref a_cn, .ref a_de], kI g a_ta 64 z32, kI g a_gu 256 z32, kI g a_so 256 z32, kI g a_cn 256 z32, kI g a_de 256 z32, kO a_ma 3 [.ref a_co, .ref a_lat, .ref a_bu, .ref a_wo, .ref a_od, .ref a_rs, .ref a_ca, .ref a_cm, .int (z32 8), .int (z32 9), .int (z32 10), .int (z32 11), .int (z32 12), .int (z32 13), .int (z32 14), .int (z32 15)], kO a_bu 0 [.int (z32 0), .int (z32 1), .int (z32 2), .int (z32 3), .int (z32 4), .int (z32 5), .int (z32 6), .int (z32 7)], kI g a_wo 72 z32, kI g a_od 3 z32, kI g a_rs 3 z32, kI g a_ca 4 z32, kI g a_cm 12 z32, kO a_op 4 [.ref a_ki, .ref a_tg, .ref a_fi, .ref a_se, .ref a_oc, .ref a_cp, .int (z32 6)], kI g a_ki 20 z32, kI g a_tg 20 z32, kI g a_fi 20 z32, kI g a_se 20 z32, kI g a_oc 20 z32, kI g a_cp 72 z32, kO a_pl 5 [.ref a_co, .ref a_op, .ref a_lat, .ref a_bs, .ref a_rr, .ref a_hr, .ref a_lw, .ref a_lr, .ref a_lt, .ref a_lm, .ref a_tc, .ref a_rc], kI g a_bs 64 z32, kI g a_rr 64 z32, kZ g a_hr 64 z32, kI g a_lw 8 z32, kI g a_lr 8 z32, kI g a_lt 3 z32, kI g a_lm 3 z32, kI g a_tc 20 z32, kI g a_rc 20 z32, kO a_ju 2 [.null, .null, .null, .null, .null, .null, .null, .int 0, .int 0, .int 0]] H := hP
  have hD : va_D A [kO a_md 6 [.ref a_co, .ref a_ma, .ref a_op, .ref a_pl, .null, .int 0, .int 0], kI g a_lat 3 (upd (upd (upd z32 0 1) 1 (if (1 : Int32) < (if v2 < (4 : Int32) then v2 else (4 : Int32)) then (if v2 < (4 : Int32) then v2 else (4 : Int32)) else (1 : Int32))) 2 (if (1 : Int32) < (if v3 < (3 : Int32) then v3 else (3 : Int32)) then (if v3 < (3 : Int32) then v3 else (3 : Int32)) else (1 : Int32))), kO a_co 1 [.int ((upd z32 0 (if (2 : Int32) < (if v1 < (4 : Int32) then v1 else (4 : Int32)) then (if v1 < (4 : Int32) then v1 else (4 : Int32)) else (2 : Int32))) 0), .ref a_ta, .ref a_gu, .ref a_so, .ref a_cn, .ref a_de], kI g a_ta 64 z32, kI g a_gu 256 z32, kI g a_so 256 z32, kI g a_cn 256 z32, kI g a_de 256 z32, kO a_ma 3 [.ref a_co, .ref a_lat, .ref a_bu, .ref a_wo, .ref a_od, .ref a_rs, .ref a_ca, .ref a_cm, .int (z32 8), .int (z32 9), .int (z32 10), .int (z32 11), .int (z32 12), .int (z32 13), .int (z32 14), .int (z32 15)], kO a_bu 0 [.int (z32 0), .int (z32 1), .int (z32 2), .int (z32 3), .int (z32 4), .int (z32 5), .int (z32 6), .int (z32 7)], kI g a_wo 72 z32, kI g a_od 3 z32, kI g a_rs 3 z32, kI g a_ca 4 z32, kI g a_cm 12 z32, kO a_op 4 [.ref a_ki, .ref a_tg, .ref a_fi, .ref a_se, .ref a_oc, .ref a_cp, .int (z32 6)], kI g a_ki 20 z32, kI g a_tg 20 z32, kI g a_fi 20 z32, kI g a_se 20 z32, kI g a_oc 20 z32, kI g a_cp 72 z32, kO a_pl 5 [.ref a_co, .ref a_op, .ref a_lat, .ref a_bs, .ref a_rr, .ref a_hr, .ref a_lw, .ref a_lr, .ref a_lt, .ref a_lm, .ref a_tc, .ref a_rc], kI g a_bs 64 z32, kI g a_rr 64 z32, kZ g a_hr 64 z32, kI g a_lw 8 z32, kI g a_lr 8 z32, kI g a_lt 3 z32, kI g a_lm 3 z32, kI g a_tc 20 z32, kI g a_rc 20 z32, kO a_ju 2 [.null, .null, .null, .null, .null, .null, .null, .int 0, .int 0, .int 0]] := hD
  refine W.widen (k := 32) (n := 1670) (by decide) (by decide) ?_
  refine lv_dup hx hb d_Md_init_113 rfl ?_
  refine lv_aload_n hx hb d_Md_init_114 rfl (lv_at hl 1 rfl) ?_
  refine va_get (D := g.1) (ci := 6) (v := .ref a_co) (C := "MoveDesk") (T := F_Md) (N := 7) hx hb hts i_Md hown hK hP 0 rfl rfl 0 (by decide) (hts _ m_271) (fun _ h9 => h9) rfl d_Md_init_115 ?_
  refine lv_aload hx hb d_Md_init_118 (lv_at hl 0 rfl) ?_
  refine kI_ (index := 54) (As := [.ref a_co, .ref a_lat]) (rest := [.ref a_ju, .ref a_md]) M hP hD hS hl.1 (c_Ju_init l g a_ju a_co a_lat (upd (upd (upd z32 0 1) 1 (if (1 : Int32) < (if v2 < (4 : Int32) then v2 else (4 : Int32)) then (if v2 < (4 : Int32) then v2 else (4 : Int32)) else (1 : Int32))) 2 (if (1 : Int32) < (if v3 < (3 : Int32) then v3 else (3 : Int32)) then (if v3 < (3 : Int32) then v3 else (3 : Int32)) else (1 : Int32)))  z_Ju_init hz_Ju_init) m_226 m_227 m_8 m_228 rfl hs_Ju_init rfl rfl rfl ⟨by decide, by decide⟩ ⟨Nat.le_of_ble_eq_true rfl, Nat.le_of_ble_eq_true rfl⟩ [32, 1] [0, 2, 3, 4, 5, 6, 7, 8, 9, 10, 11, 12, 13, 14, 15, 16, 17, 18, 19, 20, 21, 22, 23, 24, 25, 26, 27, 28, 29, 30, 31] rfl rfl rfl rfl (by decide) rfl (Nat.le_of_ble_eq_true rfl) d_Md_init_120 (fun q120 H locs hP hD hS => ?_)
  generalize q120 0 = a_jb at hP hD
  generalize q120 1 = a_ch at hP hD
  generalize q120 2 = a_rd at hP hD
  generalize q120 3 = a_fr at hP hD
  generalize q120 4 = a_ub at hP hD
  generalize q120 5 = a_wr at hP hD
  have hP : va_P g.1 classes [kO a_md 6 [.ref a_co, .ref a_ma, .ref a_op, .ref a_pl, .null, .int 0, .int 0], kO a_co 1 [.int ((upd z32 0 (if (2 : Int32) < (if v1 < (4 : Int32) then v1 else (4 : Int32)) then (if v1 < (4 : Int32) then v1 else (4 : Int32)) else (2 : Int32))) 0), .ref a_ta, .ref a_gu, .ref a_so, .ref a_cn, .ref a_de], kI g a_ta 64 z32, kI g a_gu 256 z32, kI g a_so 256 z32, kI g a_cn 256 z32, kI g a_de 256 z32, kO a_ma 3 [.ref a_co, .ref a_lat, .ref a_bu, .ref a_wo, .ref a_od, .ref a_rs, .ref a_ca, .ref a_cm, .int (z32 8), .int (z32 9), .int (z32 10), .int (z32 11), .int (z32 12), .int (z32 13), .int (z32 14), .int (z32 15)], kO a_bu 0 [.int (z32 0), .int (z32 1), .int (z32 2), .int (z32 3), .int (z32 4), .int (z32 5), .int (z32 6), .int (z32 7)], kI g a_wo 72 z32, kI g a_od 3 z32, kI g a_rs 3 z32, kI g a_ca 4 z32, kI g a_cm 12 z32, kO a_op 4 [.ref a_ki, .ref a_tg, .ref a_fi, .ref a_se, .ref a_oc, .ref a_cp, .int (z32 6)], kI g a_ki 20 z32, kI g a_tg 20 z32, kI g a_fi 20 z32, kI g a_se 20 z32, kI g a_oc 20 z32, kI g a_cp 72 z32, kO a_pl 5 [.ref a_co, .ref a_op, .ref a_lat, .ref a_bs, .ref a_rr, .ref a_hr, .ref a_lw, .ref a_lr, .ref a_lt, .ref a_lm, .ref a_tc, .ref a_rc], kI g a_bs 64 z32, kI g a_rr 64 z32, kZ g a_hr 64 z32, kI g a_lw 8 z32, kI g a_lr 8 z32, kI g a_lt 3 z32, kI g a_lm 3 z32, kI g a_tc 20 z32, kI g a_rc 20 z32, kI g a_lat 3 (upd (upd (upd z32 0 1) 1 (if (1 : Int32) < (if v2 < (4 : Int32) then v2 else (4 : Int32)) then (if v2 < (4 : Int32) then v2 else (4 : Int32)) else (1 : Int32))) 2 (if (1 : Int32) < (if v3 < (3 : Int32) then v3 else (3 : Int32)) then (if v3 < (3 : Int32) then v3 else (3 : Int32)) else (1 : Int32))), kO a_ju 2 [.ref a_co, .ref a_jb, .ref a_ch, .ref a_rd, .ref a_fr, .ref a_ub, .ref a_wr, .int (z32 7), .int (z32 8), .int (z32 9)], kO a_jb 0 [.int (z32 0), .int (z32 1), .int (z32 2), .int (z32 3), .int (z32 4), .int (z32 5), .int (z32 6), .int (z32 7)], kI g a_ch 64 z32, kJ g a_rd 576 z64, kJ g a_fr 576 z64, kJ g a_ub 3 z_Ju_init.1, kJ g a_wr 3 z_Ju_init.2] H := hP
  have hD : va_D A [kO a_md 6 [.ref a_co, .ref a_ma, .ref a_op, .ref a_pl, .null, .int 0, .int 0], kO a_co 1 [.int ((upd z32 0 (if (2 : Int32) < (if v1 < (4 : Int32) then v1 else (4 : Int32)) then (if v1 < (4 : Int32) then v1 else (4 : Int32)) else (2 : Int32))) 0), .ref a_ta, .ref a_gu, .ref a_so, .ref a_cn, .ref a_de], kI g a_ta 64 z32, kI g a_gu 256 z32, kI g a_so 256 z32, kI g a_cn 256 z32, kI g a_de 256 z32, kO a_ma 3 [.ref a_co, .ref a_lat, .ref a_bu, .ref a_wo, .ref a_od, .ref a_rs, .ref a_ca, .ref a_cm, .int (z32 8), .int (z32 9), .int (z32 10), .int (z32 11), .int (z32 12), .int (z32 13), .int (z32 14), .int (z32 15)], kO a_bu 0 [.int (z32 0), .int (z32 1), .int (z32 2), .int (z32 3), .int (z32 4), .int (z32 5), .int (z32 6), .int (z32 7)], kI g a_wo 72 z32, kI g a_od 3 z32, kI g a_rs 3 z32, kI g a_ca 4 z32, kI g a_cm 12 z32, kO a_op 4 [.ref a_ki, .ref a_tg, .ref a_fi, .ref a_se, .ref a_oc, .ref a_cp, .int (z32 6)], kI g a_ki 20 z32, kI g a_tg 20 z32, kI g a_fi 20 z32, kI g a_se 20 z32, kI g a_oc 20 z32, kI g a_cp 72 z32, kO a_pl 5 [.ref a_co, .ref a_op, .ref a_lat, .ref a_bs, .ref a_rr, .ref a_hr, .ref a_lw, .ref a_lr, .ref a_lt, .ref a_lm, .ref a_tc, .ref a_rc], kI g a_bs 64 z32, kI g a_rr 64 z32, kZ g a_hr 64 z32, kI g a_lw 8 z32, kI g a_lr 8 z32, kI g a_lt 3 z32, kI g a_lm 3 z32, kI g a_tc 20 z32, kI g a_rc 20 z32, kI g a_lat 3 (upd (upd (upd z32 0 1) 1 (if (1 : Int32) < (if v2 < (4 : Int32) then v2 else (4 : Int32)) then (if v2 < (4 : Int32) then v2 else (4 : Int32)) else (1 : Int32))) 2 (if (1 : Int32) < (if v3 < (3 : Int32) then v3 else (3 : Int32)) then (if v3 < (3 : Int32) then v3 else (3 : Int32)) else (1 : Int32))), kO a_ju 2 [.ref a_co, .ref a_jb, .ref a_ch, .ref a_rd, .ref a_fr, .ref a_ub, .ref a_wr, .int (z32 7), .int (z32 8), .int (z32 9)], kO a_jb 0 [.int (z32 0), .int (z32 1), .int (z32 2), .int (z32 3), .int (z32 4), .int (z32 5), .int (z32 6), .int (z32 7)], kI g a_ch 64 z32, kJ g a_rd 576 z64, kJ g a_fr 576 z64, kJ g a_ub 3 z_Ju_init.1, kJ g a_wr 3 z_Ju_init.2] := hD
  refine W.widen (k := 38) (n := 2900) (by decide) (by decide) ?_
  refine W.eq (g2 := F0 m 123 ls [.ref a_ju, .ref a_md]) rfl ?_
  refine va_putF (D := g.1) (ci := 6) (v := .ref a_ju) (ty := .object "MoveDesk$Judge") (C := "MoveDesk") (T := F_Md) (N := 7) hx hb hts i_Md t_Md t_Md_ok n_Md hown hK hP hD hS 0 rfl rfl 4 (by decide) (hts _ m_275) (fun _ h9 => h9) rfl hin rfl (by decide +kernel) rfl rfl (Nat.le_of_ble_eq_true rfl) d_Md_init_123 (fun H locs hP hD hS => ?_)
  have hP : va_P g.1 classes [kO a_md 6 [.ref a_co, .ref a_ma, .ref a_op, .ref a_pl, .ref a_ju, .int 0, .int 0], kO a_co 1 [.int ((upd z32 0 (if (2 : Int32) < (if v1 < (4 : Int32) then v1 else (4 : Int32)) then (if v1 < (4 : Int32) then v1 else (4 : Int32)) else (2 : Int32))) 0), .ref a_ta, .ref a_gu, .ref a_so, .ref a_cn, .ref a_de], kI g a_ta 64 z32, kI g a_gu 256 z32, kI g a_so 256 z32, kI g a_cn 256 z32, kI g a_de 256 z32, kO a_ma 3 [.ref a_co, .ref a_lat, .ref a_bu, .ref a_wo, .ref a_od, .ref a_rs, .ref a_ca, .ref a_cm, .int (z32 8), .int (z32 9), .int (z32 10), .int (z32 11), .int (z32 12), .int (z32 13), .int (z32 14), .int (z32 15)], kO a_bu 0 [.int (z32 0), .int (z32 1), .int (z32 2), .int (z32 3), .int (z32 4), .int (z32 5), .int (z32 6), .int (z32 7)], kI g a_wo 72 z32, kI g a_od 3 z32, kI g a_rs 3 z32, kI g a_ca 4 z32, kI g a_cm 12 z32, kO a_op 4 [.ref a_ki, .ref a_tg, .ref a_fi, .ref a_se, .ref a_oc, .ref a_cp, .int (z32 6)], kI g a_ki 20 z32, kI g a_tg 20 z32, kI g a_fi 20 z32, kI g a_se 20 z32, kI g a_oc 20 z32, kI g a_cp 72 z32, kO a_pl 5 [.ref a_co, .ref a_op, .ref a_lat, .ref a_bs, .ref a_rr, .ref a_hr, .ref a_lw, .ref a_lr, .ref a_lt, .ref a_lm, .ref a_tc, .ref a_rc], kI g a_bs 64 z32, kI g a_rr 64 z32, kZ g a_hr 64 z32, kI g a_lw 8 z32, kI g a_lr 8 z32, kI g a_lt 3 z32, kI g a_lm 3 z32, kI g a_tc 20 z32, kI g a_rc 20 z32, kI g a_lat 3 (upd (upd (upd z32 0 1) 1 (if (1 : Int32) < (if v2 < (4 : Int32) then v2 else (4 : Int32)) then (if v2 < (4 : Int32) then v2 else (4 : Int32)) else (1 : Int32))) 2 (if (1 : Int32) < (if v3 < (3 : Int32) then v3 else (3 : Int32)) then (if v3 < (3 : Int32) then v3 else (3 : Int32)) else (1 : Int32))), kO a_ju 2 [.ref a_co, .ref a_jb, .ref a_ch, .ref a_rd, .ref a_fr, .ref a_ub, .ref a_wr, .int (z32 7), .int (z32 8), .int (z32 9)], kO a_jb 0 [.int (z32 0), .int (z32 1), .int (z32 2), .int (z32 3), .int (z32 4), .int (z32 5), .int (z32 6), .int (z32 7)], kI g a_ch 64 z32, kJ g a_rd 576 z64, kJ g a_fr 576 z64, kJ g a_ub 3 z_Ju_init.1, kJ g a_wr 3 z_Ju_init.2] H := hP
  have hD : va_D A [kO a_md 6 [.ref a_co, .ref a_ma, .ref a_op, .ref a_pl, .ref a_ju, .int 0, .int 0], kO a_co 1 [.int ((upd z32 0 (if (2 : Int32) < (if v1 < (4 : Int32) then v1 else (4 : Int32)) then (if v1 < (4 : Int32) then v1 else (4 : Int32)) else (2 : Int32))) 0), .ref a_ta, .ref a_gu, .ref a_so, .ref a_cn, .ref a_de], kI g a_ta 64 z32, kI g a_gu 256 z32, kI g a_so 256 z32, kI g a_cn 256 z32, kI g a_de 256 z32, kO a_ma 3 [.ref a_co, .ref a_lat, .ref a_bu, .ref a_wo, .ref a_od, .ref a_rs, .ref a_ca, .ref a_cm, .int (z32 8), .int (z32 9), .int (z32 10), .int (z32 11), .int (z32 12), .int (z32 13), .int (z32 14), .int (z32 15)], kO a_bu 0 [.int (z32 0), .int (z32 1), .int (z32 2), .int (z32 3), .int (z32 4), .int (z32 5), .int (z32 6), .int (z32 7)], kI g a_wo 72 z32, kI g a_od 3 z32, kI g a_rs 3 z32, kI g a_ca 4 z32, kI g a_cm 12 z32, kO a_op 4 [.ref a_ki, .ref a_tg, .ref a_fi, .ref a_se, .ref a_oc, .ref a_cp, .int (z32 6)], kI g a_ki 20 z32, kI g a_tg 20 z32, kI g a_fi 20 z32, kI g a_se 20 z32, kI g a_oc 20 z32, kI g a_cp 72 z32, kO a_pl 5 [.ref a_co, .ref a_op, .ref a_lat, .ref a_bs, .ref a_rr, .ref a_hr, .ref a_lw, .ref a_lr, .ref a_lt, .ref a_lm, .ref a_tc, .ref a_rc], kI g a_bs 64 z32, kI g a_rr 64 z32, kZ g a_hr 64 z32, kI g a_lw 8 z32, kI g a_lr 8 z32, kI g a_lt 3 z32, kI g a_lm 3 z32, kI g a_tc 20 z32, kI g a_rc 20 z32, kI g a_lat 3 (upd (upd (upd z32 0 1) 1 (if (1 : Int32) < (if v2 < (4 : Int32) then v2 else (4 : Int32)) then (if v2 < (4 : Int32) then v2 else (4 : Int32)) else (1 : Int32))) 2 (if (1 : Int32) < (if v3 < (3 : Int32) then v3 else (3 : Int32)) then (if v3 < (3 : Int32) then v3 else (3 : Int32)) else (1 : Int32))), kO a_ju 2 [.ref a_co, .ref a_jb, .ref a_ch, .ref a_rd, .ref a_fr, .ref a_ub, .ref a_wr, .int (z32 7), .int (z32 8), .int (z32 9)], kO a_jb 0 [.int (z32 0), .int (z32 1), .int (z32 2), .int (z32 3), .int (z32 4), .int (z32 5), .int (z32 6), .int (z32 7)], kI g a_ch 64 z32, kJ g a_rd 576 z64, kJ g a_fr 576 z64, kJ g a_ub 3 z_Ju_init.1, kJ g a_wr 3 z_Ju_init.2] := hD
  refine lv_aload_n hx hb d_Md_init_126 rfl (lv_at hl 1 rfl) ?_
  refine lv_iconst (v := 0) hx hb d_Md_init_127 (by decide) ?_
  refine va_put (D := g.1) (ci := 6) (v := .int 0) (ty := .int) (C := "MoveDesk") (T := F_Md) (N := 7) hx hb hts i_Md t_Md t_Md_ok n_Md hown hK hP hD hS 0 rfl rfl 5 (by decide) (hts _ m_276) (fun _ h9 => h9) rfl (by decide +kernel) rfl rfl (Nat.le_of_ble_eq_true rfl) d_Md_init_128 (fun H locs hP hD hS => ?_)
  have hP : va_P g.1 classes [kO a_md 6 [.ref a_co, .ref a_ma, .ref a_op, .ref a_pl, .ref a_ju, .int 0, .int 0], kO a_co 1 [.int ((upd z32 0 (if (2 : Int32) < (if v1 < (4 : Int32) then v1 else (4 : Int32)) then (if v1 < (4 : Int32) then v1 else (4 : Int32)) else (2 : Int32))) 0), .ref a_ta, .ref a_gu, .ref a_so, .ref a_cn, .ref a_de], kI g a_ta 64 z32, kI g a_gu 256 z32, kI g a_so 256 z32, kI g a_cn 256 z32, kI g a_de 256 z32, kO a_ma 3 [.ref a_co, .ref a_lat, .ref a_bu, .ref a_wo, .ref a_od, .ref a_rs, .ref a_ca, .ref a_cm, .int (z32 8), .int (z32 9), .int (z32 10), .int (z32 11), .int (z32 12), .int (z32 13), .int (z32 14), .int (z32 15)], kO a_bu 0 [.int (z32 0), .int (z32 1), .int (z32 2), .int (z32 3), .int (z32 4), .int (z32 5), .int (z32 6), .int (z32 7)], kI g a_wo 72 z32, kI g a_od 3 z32, kI g a_rs 3 z32, kI g a_ca 4 z32, kI g a_cm 12 z32, kO a_op 4 [.ref a_ki, .ref a_tg, .ref a_fi, .ref a_se, .ref a_oc, .ref a_cp, .int (z32 6)], kI g a_ki 20 z32, kI g a_tg 20 z32, kI g a_fi 20 z32, kI g a_se 20 z32, kI g a_oc 20 z32, kI g a_cp 72 z32, kO a_pl 5 [.ref a_co, .ref a_op, .ref a_lat, .ref a_bs, .ref a_rr, .ref a_hr, .ref a_lw, .ref a_lr, .ref a_lt, .ref a_lm, .ref a_tc, .ref a_rc], kI g a_bs 64 z32, kI g a_rr 64 z32, kZ g a_hr 64 z32, kI g a_lw 8 z32, kI g a_lr 8 z32, kI g a_lt 3 z32, kI g a_lm 3 z32, kI g a_tc 20 z32, kI g a_rc 20 z32, kI g a_lat 3 (upd (upd (upd z32 0 1) 1 (if (1 : Int32) < (if v2 < (4 : Int32) then v2 else (4 : Int32)) then (if v2 < (4 : Int32) then v2 else (4 : Int32)) else (1 : Int32))) 2 (if (1 : Int32) < (if v3 < (3 : Int32) then v3 else (3 : Int32)) then (if v3 < (3 : Int32) then v3 else (3 : Int32)) else (1 : Int32))), kO a_ju 2 [.ref a_co, .ref a_jb, .ref a_ch, .ref a_rd, .ref a_fr, .ref a_ub, .ref a_wr, .int (z32 7), .int (z32 8), .int (z32 9)], kO a_jb 0 [.int (z32 0), .int (z32 1), .int (z32 2), .int (z32 3), .int (z32 4), .int (z32 5), .int (z32 6), .int (z32 7)], kI g a_ch 64 z32, kJ g a_rd 576 z64, kJ g a_fr 576 z64, kJ g a_ub 3 z_Ju_init.1, kJ g a_wr 3 z_Ju_init.2] H := hP
  have hD : va_D A [kO a_md 6 [.ref a_co, .ref a_ma, .ref a_op, .ref a_pl, .ref a_ju, .int 0, .int 0], kO a_co 1 [.int ((upd z32 0 (if (2 : Int32) < (if v1 < (4 : Int32) then v1 else (4 : Int32)) then (if v1 < (4 : Int32) then v1 else (4 : Int32)) else (2 : Int32))) 0), .ref a_ta, .ref a_gu, .ref a_so, .ref a_cn, .ref a_de], kI g a_ta 64 z32, kI g a_gu 256 z32, kI g a_so 256 z32, kI g a_cn 256 z32, kI g a_de 256 z32, kO a_ma 3 [.ref a_co, .ref a_lat, .ref a_bu, .ref a_wo, .ref a_od, .ref a_rs, .ref a_ca, .ref a_cm, .int (z32 8), .int (z32 9), .int (z32 10), .int (z32 11), .int (z32 12), .int (z32 13), .int (z32 14), .int (z32 15)], kO a_bu 0 [.int (z32 0), .int (z32 1), .int (z32 2), .int (z32 3), .int (z32 4), .int (z32 5), .int (z32 6), .int (z32 7)], kI g a_wo 72 z32, kI g a_od 3 z32, kI g a_rs 3 z32, kI g a_ca 4 z32, kI g a_cm 12 z32, kO a_op 4 [.ref a_ki, .ref a_tg, .ref a_fi, .ref a_se, .ref a_oc, .ref a_cp, .int (z32 6)], kI g a_ki 20 z32, kI g a_tg 20 z32, kI g a_fi 20 z32, kI g a_se 20 z32, kI g a_oc 20 z32, kI g a_cp 72 z32, kO a_pl 5 [.ref a_co, .ref a_op, .ref a_lat, .ref a_bs, .ref a_rr, .ref a_hr, .ref a_lw, .ref a_lr, .ref a_lt, .ref a_lm, .ref a_tc, .ref a_rc], kI g a_bs 64 z32, kI g a_rr 64 z32, kZ g a_hr 64 z32, kI g a_lw 8 z32, kI g a_lr 8 z32, kI g a_lt 3 z32, kI g a_lm 3 z32, kI g a_tc 20 z32, kI g a_rc 20 z32, kI g a_lat 3 (upd (upd (upd z32 0 1) 1 (if (1 : Int32) < (if v2 < (4 : Int32) then v2 else (4 : Int32)) then (if v2 < (4 : Int32) then v2 else (4 : Int32)) else (1 : Int32))) 2 (if (1 : Int32) < (if v3 < (3 : Int32) then v3 else (3 : Int32)) then (if v3 < (3 : Int32) then v3 else (3 : Int32)) else (1 : Int32))), kO a_ju 2 [.ref a_co, .ref a_jb, .ref a_ch, .ref a_rd, .ref a_fr, .ref a_ub, .ref a_wr, .int (z32 7), .int (z32 8), .int (z32 9)], kO a_jb 0 [.int (z32 0), .int (z32 1), .int (z32 2), .int (z32 3), .int (z32 4), .int (z32 5), .int (z32 6), .int (z32 7)], kI g a_ch 64 z32, kJ g a_rd 576 z64, kJ g a_fr 576 z64, kJ g a_ub 3 z_Ju_init.1, kJ g a_wr 3 z_Ju_init.2] := hD
  refine lv_aload_n hx hb d_Md_init_131 rfl (lv_at hl 1 rfl) ?_
  refine lv_iconst (v := 0) hx hb d_Md_init_132 (by decide) ?_
  refine va_put (D := g.1) (ci := 6) (v := .int 0) (ty := .int) (C := "MoveDesk") (T := F_Md) (N := 7) hx hb hts i_Md t_Md t_Md_ok n_Md hown hK hP hD hS 0 rfl rfl 6 (by decide) (hts _ m_277) (fun _ h9 => h9) rfl (by decide +kernel) rfl rfl (Nat.le_of_ble_eq_true rfl) d_Md_init_133 (fun H locs hP hD hS => ?_)
  have hP : va_P g.1 classes [kO a_md 6 [.ref a_co, .ref a_ma, .ref a_op, .ref a_pl, .ref a_ju, .int 0, .int 0], kO a_co 1 [.int ((upd z32 0 (if (2 : Int32) < (if v1 < (4 : Int32) then v1 else (4 : Int32)) then (if v1 < (4 : Int32) then v1 else (4 : Int32)) else (2 : Int32))) 0), .ref a_ta, .ref a_gu, .ref a_so, .ref a_cn, .ref a_de], kI g a_ta 64 z32, kI g a_gu 256 z32, kI g a_so 256 z32, kI g a_cn 256 z32, kI g a_de 256 z32, kO a_ma 3 [.ref a_co, .ref a_lat, .ref a_bu, .ref a_wo, .ref a_od, .ref a_rs, .ref a_ca, .ref a_cm, .int (z32 8), .int (z32 9), .int (z32 10), .int (z32 11), .int (z32 12), .int (z32 13), .int (z32 14), .int (z32 15)], kO a_bu 0 [.int (z32 0), .int (z32 1), .int (z32 2), .int (z32 3), .int (z32 4), .int (z32 5), .int (z32 6), .int (z32 7)], kI g a_wo 72 z32, kI g a_od 3 z32, kI g a_rs 3 z32, kI g a_ca 4 z32, kI g a_cm 12 z32, kO a_op 4 [.ref a_ki, .ref a_tg, .ref a_fi, .ref a_se, .ref a_oc, .ref a_cp, .int (z32 6)], kI g a_ki 20 z32, kI g a_tg 20 z32, kI g a_fi 20 z32, kI g a_se 20 z32, kI g a_oc 20 z32, kI g a_cp 72 z32, kO a_pl 5 [.ref a_co, .ref a_op, .ref a_lat, .ref a_bs, .ref a_rr, .ref a_hr, .ref a_lw, .ref a_lr, .ref a_lt, .ref a_lm, .ref a_tc, .ref a_rc], kI g a_bs 64 z32, kI g a_rr 64 z32, kZ g a_hr 64 z32, kI g a_lw 8 z32, kI g a_lr 8 z32, kI g a_lt 3 z32, kI g a_lm 3 z32, kI g a_tc 20 z32, kI g a_rc 20 z32, kI g a_lat 3 (upd (upd (upd z32 0 1) 1 (if (1 : Int32) < (if v2 < (4 : Int32) then v2 else (4 : Int32)) then (if v2 < (4 : Int32) then v2 else (4 : Int32)) else (1 : Int32))) 2 (if (1 : Int32) < (if v3 < (3 : Int32) then v3 else (3 : Int32)) then (if v3 < (3 : Int32) then v3 else (3 : Int32)) else (1 : Int32))), kO a_ju 2 [.ref a_co, .ref a_jb, .ref a_ch, .ref a_rd, .ref a_fr, .ref a_ub, .ref a_wr, .int (z32 7), .int (z32 8), .int (z32 9)], kO a_jb 0 [.int (z32 0), .int (z32 1), .int (z32 2), .int (z32 3), .int (z32 4), .int (z32 5), .int (z32 6), .int (z32 7)], kI g a_ch 64 z32, kJ g a_rd 576 z64, kJ g a_fr 576 z64, kJ g a_ub 3 z_Ju_init.1, kJ g a_wr 3 z_Ju_init.2] H := hP
  have hD : va_D A [kO a_md 6 [.ref a_co, .ref a_ma, .ref a_op, .ref a_pl, .ref a_ju, .int 0, .int 0], kO a_co 1 [.int ((upd z32 0 (if (2 : Int32) < (if v1 < (4 : Int32) then v1 else (4 : Int32)) then (if v1 < (4 : Int32) then v1 else (4 : Int32)) else (2 : Int32))) 0), .ref a_ta, .ref a_gu, .ref a_so, .ref a_cn, .ref a_de], kI g a_ta 64 z32, kI g a_gu 256 z32, kI g a_so 256 z32, kI g a_cn 256 z32, kI g a_de 256 z32, kO a_ma 3 [.ref a_co, .ref a_lat, .ref a_bu, .ref a_wo, .ref a_od, .ref a_rs, .ref a_ca, .ref a_cm, .int (z32 8), .int (z32 9), .int (z32 10), .int (z32 11), .int (z32 12), .int (z32 13), .int (z32 14), .int (z32 15)], kO a_bu 0 [.int (z32 0), .int (z32 1), .int (z32 2), .int (z32 3), .int (z32 4), .int (z32 5), .int (z32 6), .int (z32 7)], kI g a_wo 72 z32, kI g a_od 3 z32, kI g a_rs 3 z32, kI g a_ca 4 z32, kI g a_cm 12 z32, kO a_op 4 [.ref a_ki, .ref a_tg, .ref a_fi, .ref a_se, .ref a_oc, .ref a_cp, .int (z32 6)], kI g a_ki 20 z32, kI g a_tg 20 z32, kI g a_fi 20 z32, kI g a_se 20 z32, kI g a_oc 20 z32, kI g a_cp 72 z32, kO a_pl 5 [.ref a_co, .ref a_op, .ref a_lat, .ref a_bs, .ref a_rr, .ref a_hr, .ref a_lw, .ref a_lr, .ref a_lt, .ref a_lm, .ref a_tc, .ref a_rc], kI g a_bs 64 z32, kI g a_rr 64 z32, kZ g a_hr 64 z32, kI g a_lw 8 z32, kI g a_lr 8 z32, kI g a_lt 3 z32, kI g a_lm 3 z32, kI g a_tc 20 z32, kI g a_rc 20 z32, kI g a_lat 3 (upd (upd (upd z32 0 1) 1 (if (1 : Int32) < (if v2 < (4 : Int32) then v2 else (4 : Int32)) then (if v2 < (4 : Int32) then v2 else (4 : Int32)) else (1 : Int32))) 2 (if (1 : Int32) < (if v3 < (3 : Int32) then v3 else (3 : Int32)) then (if v3 < (3 : Int32) then v3 else (3 : Int32)) else (1 : Int32))), kO a_ju 2 [.ref a_co, .ref a_jb, .ref a_ch, .ref a_rd, .ref a_fr, .ref a_ub, .ref a_wr, .int (z32 7), .int (z32 8), .int (z32 9)], kO a_jb 0 [.int (z32 0), .int (z32 1), .int (z32 2), .int (z32 3), .int (z32 4), .int (z32 5), .int (z32 6), .int (z32 7)], kI g a_ch 64 z32, kJ g a_rd 576 z64, kJ g a_fr 576 z64, kJ g a_ub 3 z_Ju_init.1, kJ g a_wr 3 z_Ju_init.2] := hD
  have hP9 := P_map (ws' := (w_md_39_9e6d g a_md a_lat a_co a_ta a_gu a_so a_cn a_de a_ma a_bu a_wo a_od a_rs a_ca a_cm a_op a_ki a_tg a_fi a_se a_oc a_cp a_pl a_bs a_rr a_hr a_lw a_lr a_lt a_lm a_tc a_rc a_ju a_jb a_ch a_rd a_fr a_ub a_wr (upd (upd z32 5 0) 6 0) (upd (upd (upd z32 0 1) 1 (if (1 : Int32) < (if v2 < (4 : Int32) then v2 else (4 : Int32)) then (if v2 < (4 : Int32) then v2 else (4 : Int32)) else (1 : Int32))) 2 (if (1 : Int32) < (if v3 < (3 : Int32) then v3 else (3 : Int32)) then (if v3 < (3 : Int32) then v3 else (3 : Int32)) else (1 : Int32))) (upd z32 0 (if (2 : Int32) < (if v1 < (4 : Int32) then v1 else (4 : Int32)) then (if v1 < (4 : Int32) then v1 else (4 : Int32)) else (2 : Int32))) z32 z32 z32 z32 z32 z32 z32 z32 z32 z32 z32 z32 z32 z32 z32 z32 z32 z32 z32 z32 z32 z32 z32 z32 z32 z32 z32 z32 z32 z32 z32 z64 z64 z_Ju_init.1 z_Ju_init.2)) hP [0, 31, 1, 2, 3, 4, 5, 6, 7, 8, 9, 10, 11, 12, 13, 14, 15, 16, 17, 18, 19, 20, 21, 22, 23, 24, 25, 26, 27, 28, 29, 30, 32, 33, 34, 35, 36, 37, 38] rfl
  have hD9 := hD.sub (ws' := (w_md_39_9e6d g a_md a_lat a_co a_ta a_gu a_so a_cn a_de a_ma a_bu a_wo a_od a_rs a_ca a_cm a_op a_ki a_tg a_fi a_se a_oc a_cp a_pl a_bs a_rr a_hr a_lw a_lr a_lt a_lm a_tc a_rc a_ju a_jb a_ch a_rd a_fr a_ub a_wr (upd (upd z32 5 0) 6 0) (upd (upd (upd z32 0 1) 1 (if (1 : Int32) < (if v2 < (4 : Int32) then v2 else (4 : Int32)) then (if v2 < (4 : Int32) then v2 else (4 : Int32)) else (1 : Int32))) 2 (if (1 : Int32) < (if v3 < (3 : Int32) then v3 else (3 : Int32)) then (if v3 < (3 : Int32) then v3 else (3 : Int32)) else (1 : Int32))) (upd z32 0 (if (2 : Int32) < (if v1 < (4 : Int32) then v1 else (4 : Int32)) then (if v1 < (4 : Int32) then v1 else (4 : Int32)) else (2 : Int32))) z32 z32 z32 z32 z32 z32 z32 z32 z32 z32 z32 z32 z32 z32 z32 z32 z32 z32 z32 z32 z32 z32 z32 z32 z32 z32 z32 z32 z32 z32 z32 z64 z64 z_Ju_init.1 z_Ju_init.2)) [0, 31, 1, 2, 3, 4, 5, 6, 7, 8, 9, 10, 11, 12, 13, 14, 15, 16, 17, 18, 19, 20, 21, 22, 23, 24, 25, 26, 27, 28, 29, 30, 32, 33, 34, 35, 36, 37, 38] rfl rfl
  exact W.vret hx hb hr (fun t ht hW => ⟨⟨rfl, (fun i => ([a_lat, a_co, a_ta, a_gu, a_so, a_cn, a_de, a_ma, a_bu, a_wo, a_od, a_rs, a_ca, a_cm, a_op, a_ki, a_tg, a_fi, a_se, a_oc, a_cp, a_pl, a_bs, a_rr, a_hr, a_lw, a_lr, a_lt, a_lm, a_tc, a_rc, a_ju, a_jb, a_ch, a_rd, a_fr, a_ub, a_wr] : List Nat).getD i 0), by rw [ht]; exact hP9, va_K.moved hW.alike hK, hD9⟩, hS.F ht⟩) hS.2.2 d_Md_init_136 hlocks
