abbrev b_La_cell : ByteArray := method_2_code
abbrev y_La_cell : MethodName := ⟨"MoveDeskLaw", "cell", "([II)I"⟩
theorem hs_La_cell : y_La_cell.cls ≠ "java/lang/invoke/MethodHandle" ∧ y_La_cell.cls ≠ "java/lang/invoke/VarHandle" ∧ (parseMethodDescriptor y_La_cell.desc).map (fun d => d.parameters.length) = some 2 := by decide +kernel
theorem d_La_cell_0 : decode b_La_cell 0 = .ok (.iload_n 1, 1) := by decide +kernel
theorem d_La_cell_1 : decode b_La_cell 1 = .ok (.aload_n 0, 1) := by decide +kernel
theorem d_La_cell_2 : decode b_La_cell 2 = .ok (.arraylength, 1) := by decide +kernel
theorem d_La_cell_3 : decode b_La_cell 3 = .ok (.if_icmp .ge 9, 3) := by decide +kernel
theorem d_La_cell_6 : decode b_La_cell 6 = .ok (.aload_n 0, 1) := by decide +kernel
theorem d_La_cell_7 : decode b_La_cell 7 = .ok (.iload_n 1, 1) := by decide +kernel
theorem d_La_cell_8 : decode b_La_cell 8 = .ok (.iaload, 1) := by decide +kernel
theorem d_La_cell_9 : decode b_La_cell 9 = .ok (.goto 4, 3) := by decide +kernel
theorem d_La_cell_12 : decode b_La_cell 12 = .ok (.iconst 0, 1) := by decide +kernel
theorem d_La_cell_13 : decode b_La_cell 13 = .ok (.ireturn, 1) := by decide +kernel
def f_La_cell (g : GT)  (v1 : Int32) : Option (Int32) :=
  if Int32.ofNat (gL g) ≤ v1 then
    some (0)
  else
    ck v1 (gL g) <|
    some (gx g v1.toNatClampNeg)
abbrev rm_La_cell : Room := { frames := 0, cells := 0, slots := 0, locals := 0 }
set_option maxHeartbeats 4000000 in
set_option maxRecDepth 100000 in
theorem c_La_cell (l : Launch) (g : GT)   (v1 : Int32) (y : Int32) (hy : some y = f_La_cell g v1) : Ct l y_La_cell (.code y_La_cell b_La_cell 2 (some .int)) rm_La_cell g [.ref g.2.2.2.1, .int v1] (w_ g  ) (w_ g  ) (some (.int y)) := by
  refine ct_in (C := "MoveDeskLaw") rfl (by decide) (Nat.le_of_ble_eq_true rfl) (fun p e s m below meth c A ls M hP hD hS hl => ?_)
  obtain ⟨hx, hb, hr, hml, hown, hts, hlocks, hA, hK, hG⟩ := id M
  have hl : lv_has ls 2 [(0, .ref g.2.2.2.1), (1, .int v1)] := hl
  have hE := hy
  rw [f_La_cell] at hE
  refine lv_iload_n hx hb d_La_cell_0 rfl (lv_at hl 1 rfl) ?_
  refine lv_aload_n hx hb d_La_cell_1 rfl (lv_at hl 0 rfl) ?_
  refine va_slen hx hb hG.2.2.2.2.2.1 hG.2.2.2.2.2.lt hG.2.2.2.2.2.2 hS d_La_cell_2 ?_
  refine lv_icmp_ge (tgt := 12) hx hb d_La_cell_3 (by decide) (fun c1 => ?_) (fun c1 => ?_)
  · have hE := it_t hE c1
    refine lv_iconst (v := 0) hx hb d_La_cell_12 (by decide) ?_
    have hE := Option.some.inj hE
    rw [hE]
    exact W.iret (v := 0) hx hb hr (fun t ht hW => ⟨⟨rfl, by rw [ht]; exact hP, va_K.moved hW.alike hK, hD⟩, hS.F ht⟩) hS.2.2 d_La_cell_13 hlocks
  · have hE := it_f hE c1
    refine lv_aload_n hx hb d_La_cell_6 rfl (lv_at hl 0 rfl) ?_
    refine lv_iload_n hx hb d_La_cell_7 rfl (lv_at hl 1 rfl) ?_
    have ⟨h2, hE⟩ := ck_at hE
    refine va_sld hx hb hG.2.2.2.2.2.1 hG.2.2.2.2.2.lt hG.2.2.2.2.2.2 hS h2 d_La_cell_8 ?_
    refine lv_goto (tgt := 13) hx hb d_La_cell_9 (by decide) ?_
    have hE := Option.some.inj hE
    rw [hE]
    exact W.iret (v := (gx g v1.toNatClampNeg)) hx hb hr (fun t ht hW => ⟨⟨rfl, by rw [ht]; exact hP, va_K.moved hW.alike hK, hD⟩, hS.F ht⟩) hS.2.2 d_La_cell_13 hlocks
