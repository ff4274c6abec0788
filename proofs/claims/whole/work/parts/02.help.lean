theorem m_1 : (.initialized "MoveDesk" : Cond) ∈ bw := mw 1 (by decide +kernel) rfl
theorem m_400 : (.constant "java/lang/Integer" 265 1431655765 : Cond) ∈ bw := mw 400 (by decide +kernel) rfl
theorem m_401 : (.constant "java/lang/Integer" 266 858993459 : Cond) ∈ bw := mw 401 (by decide +kernel) rfl
theorem m_402 : (.constant "java/lang/Integer" 267 252645135 : Cond) ∈ bw := mw 402 (by decide +kernel) rfl
theorem m_520 : (.methodLink "MoveDesk" 73 ⟨"MoveDesk", "isWithin", "(II)Z"⟩ : Cond) ∈ bw := mw 520 (by decide +kernel) rfl
theorem m_521 : (.static ⟨"MoveDesk", "isWithin", "(II)Z"⟩ : Cond) ∈ bw := mw 521 (by decide +kernel) rfl
theorem m_522 : (.code ⟨"MoveDesk", "isWithin", "(II)Z"⟩ prog_1_method_17_code 2 (some .boolean) : Cond) ∈ bw := mw 522 (by decide +kernel) rfl
abbrev w_ (g : GT)   : va_W := []
abbrev b_In_bitCount : ByteArray := prog_14_method_49_code
abbrev y_In_bitCount : MethodName := ⟨"java/lang/Integer", "bitCount", "(I)I"⟩
theorem hs_In_bitCount : y_In_bitCount.cls ≠ "java/lang/invoke/MethodHandle" ∧ y_In_bitCount.cls ≠ "java/lang/invoke/VarHandle" ∧ (parseMethodDescriptor y_In_bitCount.desc).map (fun d => d.parameters.length) = some 1 := by decide +kernel
theorem d_In_bitCount_0 : decode b_In_bitCount 0 = .ok (.iload_n 0, 1) := by decide +kernel
theorem d_In_bitCount_1 : decode b_In_bitCount 1 = .ok (.iload_n 0, 1) := by decide +kernel
theorem d_In_bitCount_2 : decode b_In_bitCount 2 = .ok (.iconst 1, 1) := by decide +kernel
theorem d_In_bitCount_3 : decode b_In_bitCount 3 = .ok (.iushr, 1) := by decide +kernel
theorem d_In_bitCount_4 : decode b_In_bitCount 4 = .ok (.ldc_w 265, 3) := by decide +kernel
theorem d_In_bitCount_7 : decode b_In_bitCount 7 = .ok (.iand, 1) := by decide +kernel
theorem d_In_bitCount_8 : decode b_In_bitCount 8 = .ok (.isub, 1) := by decide +kernel
theorem d_In_bitCount_9 : decode b_In_bitCount 9 = .ok (.istore_n 0, 1) := by decide +kernel
theorem d_In_bitCount_10 : decode b_In_bitCount 10 = .ok (.iload_n 0, 1) := by decide +kernel
theorem d_In_bitCount_11 : decode b_In_bitCount 11 = .ok (.ldc_w 266, 3) := by decide +kernel
theorem d_In_bitCount_14 : decode b_In_bitCount 14 = .ok (.iand, 1) := by decide +kernel
theorem d_In_bitCount_15 : decode b_In_bitCount 15 = .ok (.iload_n 0, 1) := by decide +kernel
theorem d_In_bitCount_16 : decode b_In_bitCount 16 = .ok (.iconst 2, 1) := by decide +kernel
theorem d_In_bitCount_17 : decode b_In_bitCount 17 = .ok (.iushr, 1) := by decide +kernel
theorem d_In_bitCount_18 : decode b_In_bitCount 18 = .ok (.ldc_w 266, 3) := by decide +kernel
theorem d_In_bitCount_21 : decode b_In_bitCount 21 = .ok (.iand, 1) := by decide +kernel
theorem d_In_bitCount_22 : decode b_In_bitCount 22 = .ok (.iadd, 1) := by decide +kernel
theorem d_In_bitCount_23 : decode b_In_bitCount 23 = .ok (.istore_n 0, 1) := by decide +kernel
theorem d_In_bitCount_24 : decode b_In_bitCount 24 = .ok (.iload_n 0, 1) := by decide +kernel
theorem d_In_bitCount_25 : decode b_In_bitCount 25 = .ok (.iload_n 0, 1) := by decide +kernel
theorem d_In_bitCount_26 : decode b_In_bitCount 26 = .ok (.iconst 4, 1) := by decide +kernel
theorem d_In_bitCount_27 : decode b_In_bitCount 27 = .ok (.iushr, 1) := by decide +kernel
theorem d_In_bitCount_28 : decode b_In_bitCount 28 = .ok (.iadd, 1) := by decide +kernel
theorem d_In_bitCount_29 : decode b_In_bitCount 29 = .ok (.ldc_w 267, 3) := by decide +kernel
theorem d_In_bitCount_32 : decode b_In_bitCount 32 = .ok (.iand, 1) := by decide +kernel
theorem d_In_bitCount_33 : decode b_In_bitCount 33 = .ok (.istore_n 0, 1) := by decide +kernel
theorem d_In_bitCount_34 : decode b_In_bitCount 34 = .ok (.iload_n 0, 1) := by decide +kernel
theorem d_In_bitCount_35 : decode b_In_bitCount 35 = .ok (.iload_n 0, 1) := by decide +kernel
theorem d_In_bitCount_36 : decode b_In_bitCount 36 = .ok (.bipush 8, 2) := by decide +kernel
theorem d_In_bitCount_38 : decode b_In_bitCount 38 = .ok (.iushr, 1) := by decide +kernel
theorem d_In_bitCount_39 : decode b_In_bitCount 39 = .ok (.iadd, 1) := by decide +kernel
theorem d_In_bitCount_40 : decode b_In_bitCount 40 = .ok (.istore_n 0, 1) := by decide +kernel
theorem d_In_bitCount_41 : decode b_In_bitCount 41 = .ok (.iload_n 0, 1) := by decide +kernel
theorem d_In_bitCount_42 : decode b_In_bitCount 42 = .ok (.iload_n 0, 1) := by decide +kernel
theorem d_In_bitCount_43 : decode b_In_bitCount 43 = .ok (.bipush 16, 2) := by decide +kernel
theorem d_In_bitCount_45 : decode b_In_bitCount 45 = .ok (.iushr, 1) := by decide +kernel
theorem d_In_bitCount_46 : decode b_In_bitCount 46 = .ok (.iadd, 1) := by decide +kernel
theorem d_In_bitCount_47 : decode b_In_bitCount 47 = .ok (.istore_n 0, 1) := by decide +kernel
theorem d_In_bitCount_48 : decode b_In_bitCount 48 = .ok (.iload_n 0, 1) := by decide +kernel
theorem d_In_bitCount_49 : decode b_In_bitCount 49 = .ok (.bipush 63, 2) := by decide +kernel
theorem d_In_bitCount_51 : decode b_In_bitCount 51 = .ok (.iand, 1) := by decide +kernel
theorem d_In_bitCount_52 : decode b_In_bitCount 52 = .ok (.ireturn, 1) := by decide +kernel
abbrev b_Md_isWithin : ByteArray := prog_1_method_17_code
abbrev y_Md_isWithin : MethodName := ⟨"MoveDesk", "isWithin", "(II)Z"⟩
theorem hs_Md_isWithin : y_Md_isWithin.cls ≠ "java/lang/invoke/MethodHandle" ∧ y_Md_isWithin.cls ≠ "java/lang/invoke/VarHandle" ∧ (parseMethodDescriptor y_Md_isWithin.desc).map (fun d => d.parameters.length) = some 2 := by decide +kernel
theorem d_Md_isWithin_0 : decode b_Md_isWithin 0 = .ok (.iload_n 0, 1) := by decide +kernel
theorem d_Md_isWithin_1 : decode b_Md_isWithin 1 = .ok (.ifCond .lt 12, 3) := by decide +kernel
theorem d_Md_isWithin_4 : decode b_Md_isWithin 4 = .ok (.iload_n 0, 1) := by decide +kernel
theorem d_Md_isWithin_5 : decode b_Md_isWithin 5 = .ok (.iload_n 1, 1) := by decide +kernel
theorem d_Md_isWithin_6 : decode b_Md_isWithin 6 = .ok (.if_icmp .gt 7, 3) := by decide +kernel
theorem d_Md_isWithin_9 : decode b_Md_isWithin 9 = .ok (.iconst 1, 1) := by decide +kernel
theorem d_Md_isWithin_10 : decode b_Md_isWithin 10 = .ok (.goto 4, 3) := by decide +kernel
theorem d_Md_isWithin_13 : decode b_Md_isWithin 13 = .ok (.iconst 0, 1) := by decide +kernel
theorem d_Md_isWithin_14 : decode b_Md_isWithin 14 = .ok (.ireturn, 1) := by decide +kernel
abbrev b_Md_isPlace : ByteArray := prog_1_method_18_code
abbrev y_Md_isPlace : MethodName := ⟨"MoveDesk", "isPlace", "(I)Z"⟩
theorem hs_Md_isPlace : y_Md_isPlace.cls ≠ "java/lang/invoke/MethodHandle" ∧ y_Md_isPlace.cls ≠ "java/lang/invoke/VarHandle" ∧ (parseMethodDescriptor y_Md_isPlace.desc).map (fun d => d.parameters.length) = some 1 := by decide +kernel
theorem d_Md_isPlace_0 : decode b_Md_isPlace 0 = .ok (.iload_n 0, 1) := by decide +kernel
theorem d_Md_isPlace_1 : decode b_Md_isPlace 1 = .ok (.bipush 71, 2) := by decide +kernel
theorem d_Md_isPlace_3 : decode b_Md_isPlace 3 = .ok (.invokestatic 73, 3) := by decide +kernel
theorem d_Md_isPlace_6 : decode b_Md_isPlace 6 = .ok (.ireturn, 1) := by decide +kernel
abbrev b_Md_memoryPlace : ByteArray := prog_1_method_19_code
abbrev y_Md_memoryPlace : MethodName := ⟨"MoveDesk", "memoryPlace", "(I)I"⟩
theorem hs_Md_memoryPlace : y_Md_memoryPlace.cls ≠ "java/lang/invoke/MethodHandle" ∧ y_Md_memoryPlace.cls ≠ "java/lang/invoke/VarHandle" ∧ (parseMethodDescriptor y_Md_memoryPlace.desc).map (fun d => d.parameters.length) = some 1 := by decide +kernel
theorem d_Md_memoryPlace_0 : decode b_Md_memoryPlace 0 = .ok (.bipush 8, 2) := by decide +kernel
theorem d_Md_memoryPlace_2 : decode b_Md_memoryPlace 2 = .ok (.iload_n 0, 1) := by decide +kernel
theorem d_Md_memoryPlace_3 : decode b_Md_memoryPlace 3 = .ok (.bipush 63, 2) := by decide +kernel
theorem d_Md_memoryPlace_5 : decode b_Md_memoryPlace 5 = .ok (.iand, 1) := by decide +kernel
theorem d_Md_memoryPlace_6 : decode b_Md_memoryPlace 6 = .ok (.iadd, 1) := by decide +kernel
theorem d_Md_memoryPlace_7 : decode b_Md_memoryPlace 7 = .ok (.ireturn, 1) := by decide +kernel
abbrev b_Md_wrapCycle : ByteArray := prog_1_method_20_code
abbrev y_Md_wrapCycle : MethodName := ⟨"MoveDesk", "wrapCycle", "(I)I"⟩
theorem hs_Md_wrapCycle : y_Md_wrapCycle.cls ≠ "java/lang/invoke/MethodHandle" ∧ y_Md_wrapCycle.cls ≠ "java/lang/invoke/VarHandle" ∧ (parseMethodDescriptor y_Md_wrapCycle.desc).map (fun d => d.parameters.length) = some 1 := by decide +kernel
theorem d_Md_wrapCycle_0 : decode b_Md_wrapCycle 0 = .ok (.iload_n 0, 1) := by decide +kernel
theorem d_Md_wrapCycle_1 : decode b_Md_wrapCycle 1 = .ok (.bipush 63, 2) := by decide +kernel
theorem d_Md_wrapCycle_3 : decode b_Md_wrapCycle 3 = .ok (.iand, 1) := by decide +kernel
theorem d_Md_wrapCycle_4 : decode b_Md_wrapCycle 4 = .ok (.ireturn, 1) := by decide +kernel
def f_In_bitCount  (v0 : Int32) : Option (Int32) :=
  nm (v0 - (((v0.toUInt32 >>> ((1 : Int32).toUInt32 &&& Int32.toUInt32 31)).toInt32) &&& (1431655765 : Int32)) : Int32) fun x1 =>
  nm ((x1 &&& (858993459 : Int32)) + (((x1.toUInt32 >>> ((2 : Int32).toUInt32 &&& Int32.toUInt32 31)).toInt32) &&& (858993459 : Int32)) : Int32) fun x2 =>
  nm ((x2 + ((x2.toUInt32 >>> ((4 : Int32).toUInt32 &&& Int32.toUInt32 31)).toInt32)) &&& (252645135 : Int32) : Int32) fun x3 =>
  nm (x3 + ((x3.toUInt32 >>> ((8 : Int32).toUInt32 &&& Int32.toUInt32 31)).toInt32) : Int32) fun x4 =>
  nm (x4 + ((x4.toUInt32 >>> ((16 : Int32).toUInt32 &&& Int32.toUInt32 31)).toInt32) : Int32) fun x5 =>
  some (x5 &&& (63 : Int32))
def f_Md_isWithin  (v0 : Int32) (v1 : Int32) : Option (Int32) :=
  if v0 < 0 then
    some (0)
  else
    if v1 < v0 then
      some (0)
    else
      some (1)
def f_Md_isPlace  (v0 : Int32) : Option (Int32) :=
  (f_Md_isWithin v0 (71 : Int32)).bind fun y1 =>
  bk y1 <|
  some (y1)
def f_Md_memoryPlace  (v0 : Int32) : Option (Int32) :=
  some ((8 : Int32) + (v0 &&& (63 : Int32)))
def f_Md_wrapCycle  (v0 : Int32) : Option (Int32) :=
  some (v0 &&& (63 : Int32))
abbrev rm_In_bitCount : Room := { frames := 0, cells := 0, slots := 0, locals := 0 }
set_option maxHeartbeats 4000000 in
set_option maxRecDepth 100000 in
theorem c_In_bitCount (l : Launch) (g : GT)   (v0 : Int32) (y : Int32) (hy : some y = f_In_bitCount v0) : Ct l y_In_bitCount (.code y_In_bitCount b_In_bitCount 1 (some .int)) rm_In_bitCount g [.int v0] (w_ g  ) (w_ g  ) (some (.int y)) := by
  refine ct_in (C := "java/lang/Integer") rfl (by decide) (Nat.le_of_ble_eq_true rfl) (fun p e s m below meth c A ls M hP hD hS hl => ?_)
  obtain ⟨hx, hb, hr, hml, hown, hts, hlocks, hA, hK, hG⟩ := id M
  have hl : lv_has ls 1 [(0, .int v0)] := hl
  have hE := hy
  rw [f_In_bitCount] at hE
  refine lv_iload_n hx hb d_In_bitCount_0 rfl (lv_at hl 0 rfl) ?_
  refine lv_iload_n hx hb d_In_bitCount_1 rfl (lv_at hl 0 rfl) ?_
  refine lv_iconst (v := 1) hx hb d_In_bitCount_2 (by decide) ?_
  refine lv_iushr hx hb d_In_bitCount_3 rfl ?_
  refine lv_ldcw hx hb hown (hts _ m_400) d_In_bitCount_4 ?_
  refine lv_iand hx hb d_In_bitCount_7 ?_
  refine lv_isub hx hb d_In_bitCount_8 ?_
  refine lv_topi (fun x1 ex1 => ?_)
  have hE := nm_at hE ex1
  refine lv_istore_n (lv' := [(0, .int x1)]) hx hb d_In_bitCount_9 rfl hl (by decide) rfl (fun ls hl => ?_)
  refine lv_iload_n hx hb d_In_bitCount_10 rfl (lv_at hl 0 rfl) ?_
  refine lv_ldcw hx hb hown (hts _ m_401) d_In_bitCount_11 ?_
  refine lv_iand hx hb d_In_bitCount_14 ?_
  refine lv_iload_n hx hb d_In_bitCount_15 rfl (lv_at hl 0 rfl) ?_
  refine lv_iconst (v := 2) hx hb d_In_bitCount_16 (by decide) ?_
  refine lv_iushr hx hb d_In_bitCount_17 rfl ?_
  refine lv_ldcw hx hb hown (hts _ m_401) d_In_bitCount_18 ?_
  refine lv_iand hx hb d_In_bitCount_21 ?_
  refine lv_iadd hx hb d_In_bitCount_22 ?_
  refine lv_topi (fun x2 ex2 => ?_)
  have hE := nm_at hE ex2
  refine lv_istore_n (lv' := [(0, .int x2)]) hx hb d_In_bitCount_23 rfl hl (by decide) rfl (fun ls hl => ?_)
  refine lv_iload_n hx hb d_In_bitCount_24 rfl (lv_at hl 0 rfl) ?_
  refine lv_iload_n hx hb d_In_bitCount_25 rfl (lv_at hl 0 rfl) ?_
  refine lv_iconst (v := 4) hx hb d_In_bitCount_26 (by decide) ?_
  refine lv_iushr hx hb d_In_bitCount_27 rfl ?_
  refine lv_iadd hx hb d_In_bitCount_28 ?_
  refine lv_ldcw hx hb hown (hts _ m_402) d_In_bitCount_29 ?_
  refine lv_iand hx hb d_In_bitCount_32 ?_
  refine lv_topi (fun x3 ex3 => ?_)
  have hE := nm_at hE ex3
  refine lv_istore_n (lv' := [(0, .int x3)]) hx hb d_In_bitCount_33 rfl hl (by decide) rfl (fun ls hl => ?_)
  refine lv_iload_n hx hb d_In_bitCount_34 rfl (lv_at hl 0 rfl) ?_
  refine lv_iload_n hx hb d_In_bitCount_35 rfl (lv_at hl 0 rfl) ?_
  refine lv_bipush (v := 8) hx hb d_In_bitCount_36 (by decide) ?_
  refine lv_iushr hx hb d_In_bitCount_38 rfl ?_
  refine lv_iadd hx hb d_In_bitCount_39 ?_
  refine lv_topi (fun x4 ex4 => ?_)
  have hE := nm_at hE ex4
  refine lv_istore_n (lv' := [(0, .int x4)]) hx hb d_In_bitCount_40 rfl hl (by decide) rfl (fun ls hl => ?_)
  refine lv_iload_n hx hb d_In_bitCount_41 rfl (lv_at hl 0 rfl) ?_
  refine lv_iload_n hx hb d_In_bitCount_42 rfl (lv_at hl 0 rfl) ?_
  refine lv_bipush (v := 16) hx hb d_In_bitCount_43 (by decide) ?_
  refine lv_iushr hx hb d_In_bitCount_45 rfl ?_
  refine lv_iadd hx hb d_In_bitCount_46 ?_
  refine lv_topi (fun x5 ex5 => ?_)
  have hE := nm_at hE ex5
  refine lv_istore_n (lv' := [(0, .int x5)]) hx hb d_In_bitCount_47 rfl hl (by decide) rfl (fun ls hl => ?_)
  refine lv_iload_n hx hb d_In_bitCount_48 rfl (lv_at hl 0 rfl) ?_
  refine lv_bipush (v := 63) hx hb d_In_bitCount_49 (by decide) ?_
  refine lv_iand hx hb d_In_bitCount_51 ?_
  have hE := Option.some.inj hE
  rw [hE]
  exact W.iret (v := (x5 &&& (63 : Int32))) hx hb hr (fun t ht hW => ⟨⟨rfl, by rw [ht]; exact hP, va_K.moved hW.alike hK, hD⟩, hS.F ht⟩) hS.2.2 d_In_bitCount_52 hlocks
abbrev rm_Md_isWithin : Room := { frames := 0, cells := 0, slots := 0, locals := 0 }
set_option maxHeartbeats 4000000 in
set_option maxRecDepth 100000 in
theorem c_Md_isWithin (l : Launch) (g : GT)   (v0 : Int32) (v1 : Int32) (y : Int32) (hy : some y = f_Md_isWithin v0 v1) : Ct l y_Md_isWithin (.code y_Md_isWithin b_Md_isWithin 2 (some .boolean)) rm_Md_isWithin g [.int v0, .int v1] (w_ g  ) (w_ g  ) (some (.int y)) := by
  refine ct_in (C := "MoveDesk") rfl (by decide) (Nat.le_of_ble_eq_true rfl) (fun p e s m below meth c A ls M hP hD hS hl => ?_)
  obtain ⟨hx, hb, hr, hml, hown, hts, hlocks, hA, hK, hG⟩ := id M
  have hl : lv_has ls 2 [(0, .int v0), (1, .int v1)] := hl
  have hE := hy
  rw [f_Md_isWithin] at hE
  refine lv_iload_n hx hb d_Md_isWithin_0 rfl (lv_at hl 0 rfl) ?_
  refine lv_if_lt (tgt := 13) hx hb d_Md_isWithin_1 (by decide) (fun c1 => ?_) (fun c1 => ?_)
  · have hE := it_t hE c1
    refine lv_iconst (v := 0) hx hb d_Md_isWithin_13 (by decide) ?_
    have hE := Option.some.inj hE
    rw [hE]
    exact W.zret (v := 0) (ty := .boolean) hx hb hr rfl (fun t ht hW => ⟨⟨rfl, by rw [ht]; exact hP, va_K.moved hW.alike hK, hD⟩, hS.F ht⟩) hS.2.2 d_Md_isWithin_14 hlocks
  · have hE := it_f hE c1
    refine lv_iload_n hx hb d_Md_isWithin_4 rfl (lv_at hl 0 rfl) ?_
    refine lv_iload_n hx hb d_Md_isWithin_5 rfl (lv_at hl 1 rfl) ?_
    refine lv_icmp_gt (tgt := 13) hx hb d_Md_isWithin_6 (by decide) (fun c2 => ?_) (fun c2 => ?_)
    · have hE := it_t hE c2
      refine lv_iconst (v := 0) hx hb d_Md_isWithin_13 (by decide) ?_
      have hE := Option.some.inj hE
      rw [hE]
      exact W.zret (v := 0) (ty := .boolean) hx hb hr rfl (fun t ht hW => ⟨⟨rfl, by rw [ht]; exact hP, va_K.moved hW.alike hK, hD⟩, hS.F ht⟩) hS.2.2 d_Md_isWithin_14 hlocks
    · have hE := it_f hE c2
      refine lv_iconst (v := 1) hx hb d_Md_isWithin_9 (by decide) ?_
      refine lv_goto (tgt := 14) hx hb d_Md_isWithin_10 (by decide) ?_
      have hE := Option.some.inj hE
      rw [hE]
      exact W.zret (v := 1) (ty := .boolean) hx hb hr rfl (fun t ht hW => ⟨⟨rfl, by rw [ht]; exact hP, va_K.moved hW.alike hK, hD⟩, hS.F ht⟩) hS.2.2 d_Md_isWithin_14 hlocks
abbrev rm_Md_isPlace : Room := { frames := 1, cells := 0, slots := 0, locals := 21 }
set_option maxHeartbeats 4000000 in
set_option maxRecDepth 100000 in
theorem c_Md_isPlace (l : Launch) (g : GT)   (v0 : Int32) (y : Int32) (hy : some y = f_Md_isPlace v0) : Ct l y_Md_isPlace (.code y_Md_isPlace b_Md_isPlace 1 (some .boolean)) rm_Md_isPlace g [.int v0] (w_ g  ) (w_ g  ) (some (.int y)) := by
  refine ct_in (C := "MoveDesk") rfl (by decide) (Nat.le_of_ble_eq_true rfl) (fun p e s m below meth c A ls M hP hD hS hl => ?_)
  obtain ⟨hx, hb, hr, hml, hown, hts, hlocks, hA, hK, hG⟩ := id M
  have hl : lv_has ls 1 [(0, .int v0)] := hl
  have hE := hy
  rw [f_Md_isPlace] at hE
  refine lv_iload_n hx hb d_Md_isPlace_0 rfl (lv_at hl 0 rfl) ?_
  refine lv_bipush (v := 71) hx hb d_Md_isPlace_1 (by decide) ?_
  obtain ⟨y1, hy1, hE⟩ := bd_at hE
  refine kS (index := 73) (As := [.int v0, .int 71]) (rest := []) (ws2 := (w_ g  )) M hP hD hS hl.1 (c_Md_isWithin l g   v0 (71 : Int32) y1 hy1) m_520 m_521 m_1 m_522 hs_Md_isWithin rfl rfl rfl ⟨by decide, by decide⟩ ⟨by decide, by decide⟩ [] [] [] rfl rfl rfl rfl (by decide) rfl rfl rfl (Nat.le_of_ble_eq_true rfl) d_Md_isPlace_3 (fun H locs hP hD hS => ?_)
  refine W.eq (g2 := F0 m 6 ls [.int y1]) rfl ?_
  have ⟨hn6, hE⟩ := bk_at hE
  have hE := Option.some.inj hE
  rw [hE]
  exact W.zret (v := y1) (ty := .boolean) hx hb hr hn6 (fun t ht hW => ⟨⟨rfl, by rw [ht]; exact hP, va_K.moved hW.alike hK, hD⟩, hS.F ht⟩) hS.2.2 d_Md_isPlace_6 hlocks
abbrev rm_Md_memoryPlace : Room := { frames := 0, cells := 0, slots := 0, locals := 0 }
set_option maxHeartbeats 4000000 in
set_option maxRecDepth 100000 in
theorem c_Md_memoryPlace (l : Launch) (g : GT)   (v0 : Int32) (y : Int32) (hy : some y = f_Md_memoryPlace v0) : Ct l y_Md_memoryPlace (.code y_Md_memoryPlace b_Md_memoryPlace 1 (some .int)) rm_Md_memoryPlace g [.int v0] (w_ g  ) (w_ g  ) (some (.int y)) := by
  refine ct_in (C := "MoveDesk") rfl (by decide) (Nat.le_of_ble_eq_true rfl) (fun p e s m below meth c A ls M hP hD hS hl => ?_)
  obtain ⟨hx, hb, hr, hml, hown, hts, hlocks, hA, hK, hG⟩ := id M
  have hl : lv_has ls 1 [(0, .int v0)] := hl
  have hE := hy
  rw [f_Md_memoryPlace] at hE
  refine lv_bipush (v := 8) hx hb d_Md_memoryPlace_0 (by decide) ?_
  refine lv_iload_n hx hb d_Md_memoryPlace_2 rfl (lv_at hl 0 rfl) ?_
  refine lv_bipush (v := 63) hx hb d_Md_memoryPlace_3 (by decide) ?_
  refine lv_iand hx hb d_Md_memoryPlace_5 ?_
  refine lv_iadd hx hb d_Md_memoryPlace_6 ?_
  have hE := Option.some.inj hE
  rw [hE]
  exact W.iret (v := ((8 : Int32) + (v0 &&& (63 : Int32)))) hx hb hr (fun t ht hW => ⟨⟨rfl, by rw [ht]; exact hP, va_K.moved hW.alike hK, hD⟩, hS.F ht⟩) hS.2.2 d_Md_memoryPlace_7 hlocks
abbrev rm_Md_wrapCycle : Room := { frames := 0, cells := 0, slots := 0, locals := 0 }
set_option maxHeartbeats 4000000 in
set_option maxRecDepth 100000 in
theorem c_Md_wrapCycle (l : Launch) (g : GT)   (v0 : Int32) (y : Int32) (hy : some y = f_Md_wrapCycle v0) : Ct l y_Md_wrapCycle (.code y_Md_wrapCycle b_Md_wrapCycle 1 (some .int)) rm_Md_wrapCycle g [.int v0] (w_ g  ) (w_ g  ) (some (.int y)) := by
  refine ct_in (C := "MoveDesk") rfl (by decide) (Nat.le_of_ble_eq_true rfl) (fun p e s m below meth c A ls M hP hD hS hl => ?_)
  obtain ⟨hx, hb, hr, hml, hown, hts, hlocks, hA, hK, hG⟩ := id M
  have hl : lv_has ls 1 [(0, .int v0)] := hl
  have hE := hy
  rw [f_Md_wrapCycle] at hE
  refine lv_iload_n hx hb d_Md_wrapCycle_0 rfl (lv_at hl 0 rfl) ?_
  refine lv_bipush (v := 63) hx hb d_Md_wrapCycle_1 (by decide) ?_
  refine lv_iand hx hb d_Md_wrapCycle_3 ?_
  have hE := Option.some.inj hE
  rw [hE]
  exact W.iret (v := (v0 &&& (63 : Int32))) hx hb hr (fun t ht hW => ⟨⟨rfl, by rw [ht]; exact hP, va_K.moved hW.alike hK, hD⟩, hS.F ht⟩) hS.2.2 d_Md_wrapCycle_4 hlocks
